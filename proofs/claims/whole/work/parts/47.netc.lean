/-! calls on the net: class and reference -/
theorem Inv_mk {M M' : Mm} (hI : Inv M) (h : ∀ a, ((25 ≤ a ∧ a ≤ 70) ∨ 89 ≤ a) → M' a = M a) (hW : Wd (mB M')) (hC : CL 2 M' (mB M')) (hZ : Zr M') : Inv M' := by
  obtain ⟨-, -, -, k4, k5, k6⟩ := hI
  refine ⟨hW, hC, hZ, IM_frame (fun a a1 a2 => h a (by omega)) (h 89 (by omega)) (h 90 (by omega)) k4, IM_frame (fun a a1 a2 => h a (by omega)) (h 89 (by omega)) (h 90 (by omega)) k5, ?_⟩
  rw [h 999 (by omega)]; exact k6
theorem CL_0 {M : Mm} {d : Dt} (hn : nF d = 0) (hC : CN (M 3) (M 4) (M 5) (M 6) (M 7) (M 8) (M 9) (M 10) d) (hr : ∀ j : Nat, j < 4 → M 12 j = ru d j) (h13 : M 13 2 = 0) : CL 2 M d := ⟨hC, hr, ⟨by show M 13 2 = nF d; rw [hn]; exact h13, fun j hj => by omega, fun f hf => by omega, fun f hf => by omega⟩, fun _ _ => True, fun f hf => by omega⟩
section NETC
variable {M : Mm}
theorem Inv_f (hI : Inv M) : M 13 2 = nF (mB M) ∧ M 71 10 = nF (mB M) := ⟨(CL_2 hI.2.1).2.2.1.1, rfl⟩
/-- crossing, the reference -/
theorem m_takenL (hW : Wd (mB M)) (x y : Int) (k : Mm → Option (Int × Mm)) (P : Int × Mm → Prop) (h1 : taken (nC (mB M)) (cx (mB M)) (cy (mB M)) x y → P (-5, M)) (h2 : ¬ taken (nC (mB M)) (cx (mB M)) (cy (mB M)) x y → OK (k M) P) : ∀ (n : Nat) (v : Int), 0 ≤ v → v ≤ nC (mB M) → 12 < (n : Int) + v → (∀ j : Nat, (j : Int) < v → ¬ (cx (mB M) j = x ∧ cy (mB M) j = y)) → OK (fX5_crossing_L35 x y k n v M) P := by
  have n12 := hW.1.1
  intro n
  induction n with
  | zero => intro v h0 h1 h2; omega
  | succ n ih =>
    intro v h0 h3 h4 h5
    unfold fX5_crossing_L35
    have e2 : M 71 2 = nC (mB M) := rfl
    have e72 : ∀ j, M 72 j = cx (mB M) j := fun _ => rfl
    have e73 : ∀ j, M 73 j = cy (mB M) j := fun _ => rfl
    rw [e2, e72, e73]
    have nxt : ¬ (cx (mB M) v.toNat = x ∧ cy (mB M) v.toNat = y) → v < nC (mB M) → OK (fX5_crossing_L35 x y k n (v + 1) M) P := fun h9 h8 => ih (v + 1) (by omega) (by omega) (by omega) (fun j hj => by
      by_cases hjv : j = v.toNat
      · rw [hjv]; exact h9
      · exact h5 j (by omega))
    refine ok_if (fun z => h2 (fun h9 => ?_)) (fun z => ok_jn (ok_gd (by omega) (ok_if (fun q1 => ok_gd (by omega) (ok_if (fun q2 => ok_some (h1 ⟨v.toNat, by omega, q1, q2⟩)) (fun q2 => ok_gd ⟨by omega, by omega⟩ (nxt (fun h9 => q2 h9.2) (by omega))))) (fun q1 => ok_gd ⟨by omega, by omega⟩ (nxt (fun h9 => q1 h9.1) (by omega))))))
    obtain ⟨j, j1, j2⟩ := h9
    exact h5 j (by omega) j2
theorem m_crossing (hW : Wd (mB M)) (x y : Int) (P : Int × Mm → Prop) (k1 : ¬ ((0 ≤ x ∧ x ≤ 63) ∧ (0 ≤ y ∧ y ≤ 63)) → P (-2, M)) (k2 : ((0 ≤ x ∧ x ≤ 63) ∧ (0 ≤ y ∧ y ≤ 63)) → nF (mB M) ≠ 0 → P (-3, M)) (k3 : ((0 ≤ x ∧ x ≤ 63) ∧ (0 ≤ y ∧ y ≤ 63)) → nF (mB M) = 0 → taken (nC (mB M)) (cx (mB M)) (cy (mB M)) x y → P (-5, M)) (k4 : ((0 ≤ x ∧ x ≤ 63) ∧ (0 ≤ y ∧ y ≤ 63)) → nF (mB M) = 0 → ¬ taken (nC (mB M)) (cx (mB M)) (cy (mB M)) x y → nC (mB M) = 12 → P (-4, M)) (k5 : ((0 ≤ x ∧ x ≤ 63) ∧ (0 ≤ y ∧ y ≤ 63)) → nF (mB M) = 0 → ¬ taken (nC (mB M)) (cx (mB M)) (cy (mB M)) x y → nC (mB M) < 12 → ∀ M8 : Mm, (∀ a, a ≠ 71 → a ≠ 72 → a ≠ 73 → M8 a = M a) → mB M8 = dC (mB M) x y → P (nC (mB M) + 1, M8)) : OK (fX5_crossing M x y) P := by
  have n12 := hW.1.1
  have n16 := hW.2.2.1
  unfold fX5_crossing
  refine ok_cal (k_in M x 0 63) (fun r1 h1 => ok_if (fun q => ok_some (k1 (fun h9 => yes_f h1 q h9.1))) (fun q => ok_cal (k_in M y 0 63) (fun r2 h2 => ok_if (fun q2 => ok_some (k1 (fun h9 => yes_f h2 q2 h9.2))) (fun q2 => ?_))))
  have hp : (0 ≤ x ∧ x ≤ 63) ∧ (0 ≤ y ∧ y ≤ 63) := ⟨yes_t h1 q, yes_t h2 q2⟩
  have e10 : M 71 10 = nF (mB M) := rfl
  have e2 : M 71 2 = nC (mB M) := rfl
  rw [e10]
  refine ok_if (fun z => m_takenL hW x y _ _ (k3 hp (by omega)) (fun ht => ?_) 1000 0 (by omega) n12.1 (by omega) (fun j hj => by omega)) (fun z => ok_some (k2 hp (by omega)))
  rw [e2]
  refine ok_if (fun z2 => ok_some (k4 hp (by omega) ht z2)) (fun z2 => ok_gd (by omega) (ok_bnd (fun M6 e6 => ?_)))
  have a6 : M6 71 = M 71 := by rw [e6, up_row (by decide)]
  rw [a6, e2]
  refine ok_gd (by omega) (ok_bnd (fun M7 e7 => ?_))
  have a7 : M7 71 = M 71 := by rw [e7, up_row (by decide), a6]
  rw [a7, e2]
  refine ok_gd ⟨by omega, by omega⟩ (ok_bnd (fun M8 e8 => ok_some ?_))
  have a8 : ∀ j, M8 71 j = if j = 2 then nC (mB M) + 1 else M 71 j := fun j => by rw [e8, up_at, a7]
  rw [a8, if_pos rfl]
  refine k5 hp (by omega) ht (by omega) M8 (fun a h1 h2 h3 => by rw [e8, up_row h1, e7, up_row h3, e6, up_row h2]) ?_
  have b72 : M8 72 = uf (M 72) (nC (mB M)).toNat x := by rw [e8, up_row (by decide), e7, up_row (by decide), e6]; funext j; rw [up_at]; rfl
  have b73 : M8 73 = uf (M 73) (nC (mB M)).toNat y := by rw [e8, up_row (by decide), e7]; funext j; rw [up_at, e6, up_row (by decide)]; rfl
  have bo : ∀ a, a ≠ 71 → a ≠ 72 → a ≠ 73 → M8 a = M a := fun a h1 h2 h3 => by rw [e8, up_row h1, e7, up_row h3, e6, up_row h2]
  show ((M8 71 2, M8 71 6, M8 71 10), M8 72, M8 73, M8 74, M8 75, M8 76, M8 77, M8 78, M8 79) = _
  rw [a8, a8, a8, if_pos rfl, if_neg (by decide), if_neg (by decide), b72, b73, bo 74 (by decide) (by decide) (by decide), bo 75 (by decide) (by decide) (by decide), bo 76 (by decide) (by decide) (by decide), bo 77 (by decide) (by decide) (by decide), bo 78 (by decide) (by decide) (by decide), bo 79 (by decide) (by decide) (by decide)]
  rfl
theorem Zr_of {M' : Mm} (hZ : Zr M) {d : Dt} (hb : mB M' = d) (h : ∀ j : Nat, (12 ≤ j → cx d j = cx (mB M) j ∧ cy d j = cy (mB M) j) ∧ (20 ≤ j → rf d j = rf (mB M) j ∧ rl d j = rl (mB M) j ∧ rw' d j = rw' (mB M) j) ∧ (4 ≤ j → ru d j = ru (mB M) j) ∧ (16 ≤ j → fx d j = fx (mB M) j ∧ fy d j = fy (mB M) j)) : Zr M' := by
  intro j
  obtain ⟨z1, z2, z3, z4⟩ := hZ j
  obtain ⟨h1, h2, h3, h4⟩ := h j
  rw [← hb] at h1 h2 h3 h4
  exact ⟨fun hj => ⟨(h1 hj).1.trans (z1 hj).1, (h1 hj).2.trans (z1 hj).2⟩, fun hj => ⟨(h2 hj).1.trans (z2 hj).1, (h2 hj).2.1.trans (z2 hj).2.1, (h2 hj).2.2.trans (z2 hj).2.2⟩, fun hj => (h3 hj).trans (z3 hj), fun hj => ⟨(h4 hj).1.trans (z4 hj).1, (h4 hj).2.trans (z4 hj).2⟩⟩
theorem mB_hi {M' : Mm} (h : ∀ a, 71 ≤ a → M' a = M a) : mB M' = mB M := by
  unfold mB
  rw [h 71 (by decide), h 72 (by decide), h 73 (by decide), h 74 (by decide), h 75 (by decide), h 76 (by decide), h 77 (by decide), h 78 (by decide), h 79 (by decide)]
theorem taken_CN {d : Dt} (hC : CN (M 3) (M 4) (M 5) (M 6) (M 7) (M 8) (M 9) (M 10) d) (x y : Int) : taken (M 3 0) (M 4) (M 5) x y ↔ taken (nC d) (cx d) (cy d) x y := by
  obtain ⟨c1, -, c3, -⟩ := hC
  rw [c1]
  constructor
  · rintro ⟨j, j1, j2, j3⟩
    exact ⟨j, j1, by rw [← (c3 j j1).1]; exact j2, by rw [← (c3 j j1).2]; exact j3⟩
  · rintro ⟨j, j1, j2, j3⟩
    exact ⟨j, j1, by rw [(c3 j j1).1]; exact j2, by rw [(c3 j j1).2]; exact j3⟩
theorem uf_ne {u : Nat → Int} {i j : Nat} {v : Int} (h : j ≠ i) : uf u i v j = u j := if_neg h
theorem q_crossing (hI : Inv M) (x y : Int) : OK (fX4_crossing M x y) (fun p => OK (fX5_crossing p.2 x y) (fun q => p.1 = q.1 ∧ Inv q.2)) := by
  obtain ⟨hW, hCL, hZ, -⟩ := id hI
  obtain ⟨hC, hru, -⟩ := CL_2 hCL
  have n12 := hW.1.1
  have n16 := hW.2.2.1
  have f1 := (Inv_f hI).1
  have e0 := hC.1
  unfold fX4_crossing
  refine ok_cal (k_isPlace M x y) (fun r1 h1 => ok_if (fun q => ok_some ?_) (fun q => ?_))
  · exact m_crossing hW x y _ (fun _ => ⟨rfl, hI⟩) (fun h => absurd h (yes_f h1 q)) (fun h => absurd h (yes_f h1 q)) (fun h => absurd h (yes_f h1 q)) (fun h => absurd h (yes_f h1 q))
  · have hp := yes_t h1 q
    rw [f1, e0]
    refine ok_if (fun z => ok_cal (k_isTaken M x y (by rw [e0]; omega)) (fun r2 h2 => ok_if (fun q2 => ?_) (fun q2 => ok_some ?_))) (fun z => ok_some ?_)
    · have ht : ¬ taken (nC (mB M)) (cx (mB M)) (cy (mB M)) x y := fun h9 => yes_f h2 q2 ((taken_CN hC x y).mpr h9)
      refine ok_if (fun z2 => ok_cal (k_addCrossing M x y (by omega) (by omega)) (fun M3 h3 => ok_some ?_)) (fun z2 => ok_some ?_)
      · obtain ⟨a1, a2, a3, a4, a5⟩ := h3
        have eb : mB M3 = mB M := mB_hi (fun a ha => a1 a (by omega) (by omega) (by omega) (by omega))
        have e30 : M3 3 0 = nC (mB M) + 1 := by rw [a2]; show uf (M 3) 0 (M 3 0 + 1) 0 = _; rw [e0]; exact if_pos rfl
        dsimp only
        rw [e30]
        refine m_crossing (M := M3) (by rw [eb]; exact hW) x y _ (fun h => absurd hp h) (fun _ h => absurd (by rw [eb]; omega) h) (fun _ _ h => absurd (by rw [eb] at h; exact h) ht) (fun _ _ _ h => by rw [eb] at h; omega) (fun _ _ _ _ M8 b1 b2 => ?_)
        rw [eb] at b2 ⊢
        refine ⟨rfl, Inv_mk (M' := M8) hI (fun a ha => by rw [b1 a (by omega) (by omega) (by omega), a1 a (by omega) (by omega) (by omega) (by omega)]) ?_ ?_ ?_⟩
        · rw [b2]; exact ⟨dC_WN hW.1 hp.1 hp.2 z2 ht, hW.2.1, hW.2.2⟩
        · rw [b2]
          refine CL_0 (show nF (mB M) = 0 by omega) ?_ (fun j hj => ?_) ?_
          · rw [b1 3 (by decide) (by decide) (by decide), b1 4 (by decide) (by decide) (by decide), b1 5 (by decide) (by decide) (by decide), b1 6 (by decide) (by decide) (by decide), b1 7 (by decide) (by decide) (by decide), b1 8 (by decide) (by decide) (by decide), b1 9 (by decide) (by decide) (by decide), b1 10 (by decide) (by decide) (by decide), a1 6 (by decide) (by decide) (by decide) (by decide), a1 7 (by decide) (by decide) (by decide) (by decide), a1 8 (by decide) (by decide) (by decide) (by decide), a1 9 (by decide) (by decide) (by decide) (by decide)]
            obtain ⟨c1, c2, c3, c4, c5⟩ := hC
            rw [e0] at a3 a4 a5
            refine ⟨e30, ?_, fun j hj => ?_, fun r hr => ?_, dC_DM hW.1 z2 c5 a5⟩
            · rw [a2]; show uf (M 3) 0 (M 3 0 + 1) 1 = nR (mB M); rw [uf_ne (by decide)]; exact c2
            · have hj2 : (j : Int) < nC (mB M) + 1 := hj
              rw [a3, a4]
              show uf (M 4) (nC (mB M)).toNat x j = uf (cx (mB M)) (nC (mB M)).toNat x j ∧ uf (M 5) (nC (mB M)).toNat y j = uf (cy (mB M)) (nC (mB M)).toNat y j
              by_cases hjc : j = (nC (mB M)).toNat
              · unfold uf; rw [if_pos hjc, if_pos hjc, if_pos hjc, if_pos hjc]; exact ⟨rfl, rfl⟩
              · rw [uf_ne hjc, uf_ne hjc, uf_ne hjc, uf_ne hjc]; exact c3 j (by omega)
            · obtain ⟨g1, g2, g3, g4⟩ := c4 r hr
              refine ⟨g1, g2, g3, ?_⟩
              have l1 := (rF_lt hW.1 hr).2.2
              have l2 := (rL_lt hW.1 hr).2.2
              rw [g4]
              show iabs (cx (mB M) (rF (mB M) r) - cx (mB M) (rL (mB M) r)) + iabs (cy (mB M) (rF (mB M) r) - cy (mB M) (rL (mB M) r)) = iabs (uf (cx (mB M)) (nC (mB M)).toNat x (rF (mB M) r) - uf (cx (mB M)) (nC (mB M)).toNat x (rL (mB M) r)) + iabs (uf (cy (mB M)) (nC (mB M)).toNat y (rF (mB M) r) - uf (cy (mB M)) (nC (mB M)).toNat y (rL (mB M) r))
              rw [uf_ne (by omega), uf_ne (by omega), uf_ne (by omega), uf_ne (by omega)]
          · rw [b1 12 (by decide) (by decide) (by decide), a1 12 (by decide) (by decide) (by decide) (by decide)]; exact hru j hj
          · rw [b1 13 (by decide) (by decide) (by decide), a1 13 (by decide) (by decide) (by decide) (by decide), f1]; omega
        · refine Zr_of hZ b2 (fun j => ⟨fun hj => ?_, fun _ => ⟨rfl, rfl, rfl⟩, fun _ => rfl, fun _ => ⟨rfl, rfl⟩⟩)
          show uf (cx (mB M)) (nC (mB M)).toNat x j = cx (mB M) j ∧ uf (cy (mB M)) (nC (mB M)).toNat y j = cy (mB M) j
          rw [uf_ne (by omega), uf_ne (by omega)]; exact ⟨rfl, rfl⟩
      · exact m_crossing hW x y _ (fun h => absurd hp h) (fun _ h => absurd (by omega) h) (fun _ _ h => absurd h ht) (fun _ _ _ _ => ⟨rfl, hI⟩) (fun _ _ _ h => absurd h z2)
    · have ht := (taken_CN hC x y).mp (yes_t h2 q2)
      exact m_crossing hW x y _ (fun h => absurd hp h) (fun _ h => absurd (by omega) h) (fun _ _ _ => ⟨rfl, hI⟩) (fun _ _ h => absurd ht h) (fun _ _ h => absurd ht h)
    · exact m_crossing hW x y _ (fun h => absurd hp h) (fun _ _ => ⟨rfl, hI⟩) (fun _ h => by omega) (fun _ h => by omega) (fun _ h => by omega)
end NETC
