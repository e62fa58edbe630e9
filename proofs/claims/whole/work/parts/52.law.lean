/-! THE LAW answers 1 -/
theorem M0_a {k : Nat} (h : ¬ (k = 12 ∨ k = 35 ∨ k = 58 ∨ k = 77)) (h2 : k ≠ 999) : M0 k = fun _ => 0 := by
  unfold M0
  rw [if_neg h, if_neg h2]
theorem M0_r {k : Nat} (h : k = 12 ∨ k = 35 ∨ k = 58 ∨ k = 77) : M0 k = rlI := by
  unfold M0
  rw [if_pos h]
theorem rlI_0 {j : Nat} (h : 4 ≤ j) : rlI j = 0 := by
  match j, h with
  | j + 4, _ => rfl
theorem Inv_0 : Inv M0 := by
  have e71 : M0 71 = fun _ => 0 := M0_a (by decide) (by decide)
  have eC : nC (mB M0) = 0 := by show M0 71 2 = 0; rw [e71]
  have eR : nR (mB M0) = 0 := by show M0 71 6 = 0; rw [e71]
  have eF : nF (mB M0) = 0 := by show M0 71 10 = 0; rw [e71]
  have e12 : M0 12 = rlI := M0_r (by decide)
  have e77 : M0 77 = rlI := M0_r (by decide)
  have im : ∀ n b : Nat, b = 25 ∨ b = 48 → IM n b M0 := fun n b hb => by
    have e90 : M0 90 n = 0 := by rw [M0_a (by decide) (by decide)]
    have eb : M0 b 3 = 0 := by rw [M0_a (by omega) (by omega)]
    exact ⟨Or.inl e90, by rw [e90, eb], fun h => by rw [e90] at h; exact absurd h (by decide)⟩
  refine ⟨⟨⟨by omega, by omega, fun j hj => (show False by omega).elim, fun i j hi => (show False by omega).elim, fun r hr => (show False by omega).elim⟩, ?_, by omega, fun j hj => (show False by omega).elim⟩, CL_0 eF ⟨?_, ?_, fun j hj => (show False by omega).elim, fun r hr => (show False by omega).elim, fun i hi => (show False by omega).elim, fun i j hi => (show False by omega).elim, fun i k w j he => ?_⟩ (fun j hj => ?_) ?_, fun j => ?_, im 0 25 (by decide), im 1 48 (by decide), ⟨rfl, rfl, rfl, rfl⟩⟩
  · show (0 ≤ M0 77 0 ∧ M0 77 0 ≤ 8) ∧ (0 ≤ M0 77 1 ∧ M0 77 1 ≤ 9) ∧ (0 ≤ M0 77 2 ∧ M0 77 2 ≤ 9) ∧ (0 ≤ M0 77 3 ∧ M0 77 3 ≤ 99)
    rw [e77]
    decide
  · have e3 : M0 3 0 = 0 := by rw [M0_a (by decide) (by decide)]
    exact e3.trans eC.symm
  · have e3 : M0 3 1 = 0 := by rw [M0_a (by decide) (by decide)]
    exact e3.trans eR.symm
  · obtain ⟨r, hr, -⟩ := he
    exact (show False by omega).elim
  · show M0 12 j = M0 77 j
    rw [e12, e77]
  · rw [M0_a (by decide) (by decide)]
  · rw [M0_a (k := 72) (by decide) (by decide), M0_a (k := 73) (by decide) (by decide), M0_a (k := 74) (by decide) (by decide), M0_a (k := 75) (by decide) (by decide), M0_a (k := 76) (by decide) (by decide), M0_a (k := 78) (by decide) (by decide), M0_a (k := 79) (by decide) (by decide), e77]
    exact ⟨fun _ => ⟨rfl, rfl⟩, fun _ => ⟨rfl, rfl, rfl⟩, fun h => rlI_0 h, fun _ => ⟨rfl, rfl⟩⟩
set_option maxRecDepth 100000 in
theorem l_loop {xs : Nat → Int} {L : Nat} (hL : L ≤ 2048) (hx : ∀ j, inR (xs j)) : ∀ (n : Nat) (v : Int) (M : Mm), 0 ≤ v → v ≤ (L : Int) → (L : Int) < 4 * (n : Int) + v → Inv M → OK (fL_law_L18 xs (L : Int) n v M) (fun r => r = 1) := by
  intro n
  induction n with
  | zero => intro v M h0 h1 h2 hI; omega
  | succ n ih =>
    intro v M h0 h1 h2 hI
    unfold fL_law_L18
    refine ok_gd ⟨by omega, by omega⟩ (ok_if (fun z => ok_some rfl) (fun z => ?_))
    refine ok_jnK (fun K => ∀ M' : Mm, Inv M' → OK (K v M') (fun r => r = 1)) (fun M' h' => ok_gd ⟨by omega, by omega⟩ (ih (v + 4) M' (by omega) (by omega) (by omega) h')) (fun K hK => ok_gd ⟨h0, by omega⟩ ?_)
    have g1 : inR (v + 1) ∧ (0 ≤ v + 1 ∧ v + 1 < (L : Int)) := ⟨⟨by omega, by omega⟩, by omega, by omega⟩
    have g2 : inR (v + 2) ∧ (0 ≤ v + 2 ∧ v + 2 < (L : Int)) := ⟨⟨by omega, by omega⟩, by omega, by omega⟩
    have g3 : inR (v + 3) ∧ (0 ≤ v + 3 ∧ v + 3 < (L : Int)) := ⟨⟨by omega, by omega⟩, by omega, by omega⟩
    have x1 := hx (v + 1).toNat
    generalize iandI (xs v.toNat) 31 = w
    generalize xs (v + 1).toNat = p1 at x1 ⊢
    generalize xs (v + 2).toNat = p2
    generalize xs (v + 3).toNat = p3
    refine ok_if (fun _ => ?_) (fun _ => ?_)
    · exact ok_gd g1 (ok_gd g2 (ok_cal2 (q_crossing hI p1 p2) (fun r1 M1 h1 => ok_gd g1 (ok_gd g2 (ok_cal2 h1 (fun r2 M2 h2 => ok_t h2.1 (hK M2 h2.2)))))))
    refine ok_if (fun _ => ?_) (fun _ => ?_)
    · exact ok_gd g1 (ok_gd g2 (ok_gd g3 (ok_cal2 (q_road hI p1 p2 p3) (fun r1 M1 h1 => ok_gd g1 (ok_gd g2 (ok_gd g3 (ok_cal2 h1 (fun r2 M2 h2 => ok_t h2.1 (hK M2 h2.2)))))))))
    refine ok_if (fun _ => ?_) (fun _ => ?_)
    · exact ok_gd g1 (ok_gd g2 (ok_cal2 (q_rule hI p1 p2) (fun r1 M1 h1 => ok_gd g1 (ok_gd g2 (ok_cal2 h1 (fun r2 M2 h2 => ok_t h2.1 (hK M2 h2.2)))))))
    refine ok_if (fun _ => ?_) (fun _ => ?_)
    · exact ok_gd g1 (ok_gd g2 (ok_cal (q_cell hI p1 p2) (fun r1 h1 => ok_gd g1 (ok_gd g2 (ok_cal h1 (fun r2 h2 => ok_t h2 (hK M hI)))))))
    refine ok_if (fun _ => ?_) (fun _ => ?_)
    · exact ok_gd g1 (ok_gd g2 (ok_cal (q_between hI p1 p2) (fun r1 h1 => ok_gd g1 (ok_gd g2 (ok_cal2 h1 (fun r2 M2 h2 => ok_t h2.1 (hK M2 h2.2)))))))
    refine ok_if (fun _ => ?_) (fun _ => ?_)
    · exact ok_gd g1 (ok_gd g2 (ok_cal (q_way hI p1 p2) (fun r1 h1 => ok_gd g1 (ok_gd g2 (ok_cal2 h1 (fun r2 M2 h2 => ok_t h2.1 (hK M2 h2.2)))))))
    refine ok_if (fun _ => ?_) (fun _ => ?_)
    · exact ok_gd g1 (ok_gd g2 (ok_cal2 (q_fix hI p1 p2) (fun r1 M1 h1 => ok_gd g1 (ok_gd g2 (ok_cal2 h1 (fun r2 M2 h2 => ok_t h2.1 (hK M2 h2.2)))))))
    refine ok_if (fun _ => ?_) (fun _ => ?_)
    · exact ok_cal2 (q_drop hI) (fun r1 M1 h1 => ok_cal2 h1 (fun r2 M2 h2 => ok_t h2.1 (hK M2 h2.2)))
    refine ok_if (fun _ => ?_) (fun _ => ?_)
    · exact ok_gd g1 (ok_gd g2 (ok_gd g3 (ok_cal (q_candidate hI p1 p2 p3) (fun r1 h1 => ok_gd g1 (ok_gd g2 (ok_gd g3 (ok_cal2 h1 (fun r2 M2 h2 => ok_t h2.1 (hK M2 h2.2)))))))))
    refine ok_if (fun _ => ?_) (fun _ => ?_)
    · exact ok_gd g1 (ok_cal (q_best hI p1) (fun r1 h1 => ok_gd g1 (ok_cal2 h1 (fun r2 M2 h2 => ok_t h2.1 (hK M2 h2.2)))))
    refine ok_if (fun _ => ?_) (fun _ => ?_)
    · exact ok_gd g1 (ok_cal (q_decided hI p1) (fun r1 h1 => ok_gd g1 (ok_cal2 h1 (fun r2 M2 h2 => ok_t h2.1 (hK M2 h2.2)))))
    refine ok_if (fun _ => ?_) (fun _ => ?_)
    · exact ok_gd g1 (ok_cal (q_piece hI p1) (fun r1 h1 => ok_gd g1 (ok_cal2 h1 (fun r2 M2 h2 => ok_t h2.1 (hK M2 h2.2)))))
    refine ok_if (fun _ => ?_) (fun _ => ?_)
    · exact ok_gd g1 (ok_cal (q_step hI p1) (fun r1 h1 => ok_gd g1 (ok_cal2 h1 (fun r2 M2 h2 => ok_t h2.1 (hK M2 h2.2)))))
    refine ok_if (fun _ => ?_) (fun _ => ?_)
    · exact ok_gd g1 (ok_gd g2 (ok_cal (q_through hI p1 p2) (fun r1 h1 => ok_gd g1 (ok_gd g2 (ok_cal2 h1 (fun r2 M2 h2 => ok_t h2.1 (hK M2 h2.2)))))))
    refine ok_if (fun _ => ?_) (fun _ => ?_)
    · exact ok_gd g1 (ok_cal (q_total hI p1) (fun r1 h1 => ok_gd g1 (ok_cal2 h1 (fun r2 M2 h2 => ok_t h2.1 (hK M2 h2.2)))))
    refine ok_if (fun _ => ?_) (fun _ => ?_)
    · exact ok_gd g1 (ok_cal2 (q_image hI p1) (fun r1 M1 h1 => ok_gd g1 (ok_cal2 h1 (fun r2 M2 h2 => ok_t h2.1 (hK M2 h2.2)))))
    refine ok_if (fun _ => ?_) (fun _ => ?_)
    · exact ok_gd g1 (ok_cal2 (q_restore hI p1) (fun r1 M1 h1 => ok_gd g1 (ok_cal2 h1 (fun r2 M2 h2 => ok_t h2.1 (hK M2 h2.2)))))
    refine ok_if (fun _ => ?_) (fun _ => ?_)
    · exact ok_gd g1 (ok_cal (q_told hI p1 x1) (fun r1 h1 => ok_gd g1 (ok_cal h1 (fun r2 h2 => ok_t h2 (hK M hI)))))
    exact hK M hI
theorem law_pure : LawPure := by
  intro xs L hL hx
  obtain ⟨r, e, h⟩ := ok_get (l_loop hL hx 1000 0 M0 (by omega) (by omega) (by omega) Inv_0)
  rw [e, h]
