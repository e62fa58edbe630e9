/-! road, rule, cell, between, way, told -/
section ROADC
variable {M : Mm}
theorem joined_CN {d : Dt} (hC : CN (M 3) (M 4) (M 5) (M 6) (M 7) (M 8) (M 9) (M 10) d) (x y : Int) : joined (M 3 1) (M 6) (M 7) x y ↔ joined (nR d) (rf d) (rl d) x y := by
  obtain ⟨-, c2, -, c4, -⟩ := hC
  rw [c2]
  constructor
  · rintro ⟨j, j1, j2⟩
    rw [(c4 j j1).1, (c4 j j1).2.1] at j2
    exact ⟨j, j1, j2⟩
  · rintro ⟨j, j1, j2⟩
    rw [← (c4 j j1).1, ← (c4 j j1).2.1] at j2
    exact ⟨j, j1, j2⟩
theorem m_roadL (hW : Wd (mB M)) (x y w : Int) (W0 : Prop) (k : Int → Mm → Option (Int × Mm)) (P : Int × Mm → Prop) (hk : ∀ r, yes r (W0 ∧ ¬ joined (nR (mB M)) (rf (mB M)) (rl (mB M)) x y) → OK (k r M) P) : ∀ (n : Nat) (c v : Int), 0 ≤ v → v ≤ nR (mB M) → 20 < (n : Int) + v → yes c (W0 ∧ ∀ j : Nat, (j : Int) < v → ¬ ((rf (mB M) j = x ∧ rl (mB M) j = y) ∨ (rf (mB M) j = y ∧ rl (mB M) j = x))) → OK (fX5_road_L85 x y w k n c v M) P := by
  have n20 := hW.1.2.1
  intro n
  induction n with
  | zero => intro c v h0 h1 h2; omega
  | succ n ih =>
    intro c v h0 h3 h4 h5
    unfold fX5_road_L85
    have e6 : M 71 6 = nR (mB M) := rfl
    have e74 : ∀ j, M 74 j = rf (mB M) j := fun _ => rfl
    have e75 : ∀ j, M 75 j = rl (mB M) j := fun _ => rfl
    rw [e6, e74, e75]
    refine ok_if (fun z => hk c ?_) (fun z => ?_)
    · have ev : v = nR (mB M) := by omega
      have : (∀ j : Nat, (j : Int) < v → ¬ ((rf (mB M) j = x ∧ rl (mB M) j = y) ∨ (rf (mB M) j = y ∧ rl (mB M) j = x))) ↔ ¬ joined (nR (mB M)) (rf (mB M)) (rl (mB M)) x y := by
        rw [ev]
        exact ⟨fun h9 ⟨j, j1, j2⟩ => h9 j j1 j2, fun h9 j j1 j2 => h9 ⟨j, j1, j2⟩⟩
      rw [this] at h5
      exact h5
    · have nxt : ∀ c', yes c' (W0 ∧ ∀ j : Nat, (j : Int) < v + 1 → ¬ ((rf (mB M) j = x ∧ rl (mB M) j = y) ∨ (rf (mB M) j = y ∧ rl (mB M) j = x))) → OK (fX5_road_L85 x y w k n c' (v + 1) M) P := fun c' hc' => ih c' (v + 1) (by omega) (by omega) (by omega) hc'
      have inr1 : inR (v + 1) := ⟨by omega, by omega⟩
      have no : ¬ (W0 ∧ ∀ j : Nat, (j : Int) < v + 1 → ¬ ((rf (mB M) j = x ∧ rl (mB M) j = y) ∨ (rf (mB M) j = y ∧ rl (mB M) j = x))) → OK (fX5_road_L85 x y w k n 0 (v + 1) M) P := fun h9 => nxt 0 (Or.inr ⟨rfl, h9⟩)
      have here : ((rf (mB M) v.toNat = x ∧ rl (mB M) v.toNat = y) ∨ (rf (mB M) v.toNat = y ∧ rl (mB M) v.toNat = x)) → OK (fX5_road_L85 x y w k n 0 (v + 1) M) P := fun h9 => no (fun h8 => h8.2 v.toNat (by omega) h9)
      refine ok_jn (ok_jn (ok_if (fun q => ok_gd inr1 (no (fun h8 => yes_f h5 q ⟨h8.1, fun j hj => h8.2 j (by omega)⟩))) (fun q => ?_)))
      have h6 := yes_t h5 q
      have yesn : ¬ ((rf (mB M) v.toNat = x ∧ rl (mB M) v.toNat = y) ∨ (rf (mB M) v.toNat = y ∧ rl (mB M) v.toNat = x)) → OK (fX5_road_L85 x y w k n 1 (v + 1) M) P := fun h9 => nxt 1 (Or.inl ⟨rfl, h6.1, fun j hj => by
        by_cases hjv : j = v.toNat
        · rw [hjv]; exact h9
        · exact h6.2 j (by omega)⟩)
      refine ok_jnK (fun K30 => ¬ (rf (mB M) v.toNat = x ∧ rl (mB M) v.toNat = y) → OK (K30 v M) P) (fun hn => ok_jn ?_) (fun K30 hK30 => ?_)
      · rw [e74, e75]
        exact ok_gd (by omega) (ok_if (fun q1 => ok_gd (by omega) (ok_if (fun q2 => ok_gd inr1 (here (Or.inr ⟨q1, q2⟩))) (fun q2 => ok_gd inr1 (yesn (fun h9 => h9.elim hn (fun h9 => q2 h9.2)))))) (fun q1 => ok_gd inr1 (yesn (fun h9 => h9.elim hn (fun h9 => q1 h9.1)))))
      · exact ok_gd (by omega) (ok_if (fun q1 => ok_gd (by omega) (ok_if (fun q2 => ok_gd inr1 (here (Or.inl ⟨q1, q2⟩))) (fun q2 => hK30 (fun h9 => q2 h9.2)))) (fun q1 => hK30 (fun h9 => q1 h9.1)))
def rowOf (d : Dt) (x y : Int) : Prop := x ≠ y ∧ (cx d x.toNat = cx d y.toNat ∨ cy d x.toNat = cy d y.toNat)
theorem m_road (hW : Wd (mB M)) (x y w : Int) (P : Int × Mm → Prop) (k1 : ¬ ((0 ≤ x ∧ x < nC (mB M)) ∧ (0 ≤ y ∧ y < nC (mB M))) → P (-1, M)) (k2 : ((0 ≤ x ∧ x < nC (mB M)) ∧ (0 ≤ y ∧ y < nC (mB M))) → ¬ (w = 0 ∨ w = 1) → P (-2, M)) (k3 : ((0 ≤ x ∧ x < nC (mB M)) ∧ (0 ≤ y ∧ y < nC (mB M))) → (w = 0 ∨ w = 1) → nF (mB M) ≠ 0 → P (-3, M)) (k4 : ((0 ≤ x ∧ x < nC (mB M)) ∧ (0 ≤ y ∧ y < nC (mB M))) → (w = 0 ∨ w = 1) → nF (mB M) = 0 → ¬ (rowOf (mB M) x y ∧ ¬ joined (nR (mB M)) (rf (mB M)) (rl (mB M)) x y) → P (-5, M)) (k5 : ((0 ≤ x ∧ x < nC (mB M)) ∧ (0 ≤ y ∧ y < nC (mB M))) → (w = 0 ∨ w = 1) → nF (mB M) = 0 → (rowOf (mB M) x y ∧ ¬ joined (nR (mB M)) (rf (mB M)) (rl (mB M)) x y) → nR (mB M) = 20 → P (-4, M)) (k6 : ((0 ≤ x ∧ x < nC (mB M)) ∧ (0 ≤ y ∧ y < nC (mB M))) → (w = 0 ∨ w = 1) → nF (mB M) = 0 → (rowOf (mB M) x y ∧ ¬ joined (nR (mB M)) (rf (mB M)) (rl (mB M)) x y) → nR (mB M) < 20 → ∀ M8 : Mm, (∀ a, a ≠ 71 → a ≠ 74 → a ≠ 75 → a ≠ 76 → M8 a = M a) → mB M8 = dR (mB M) x y w → P (nR (mB M) + 1, M8)) : OK (fX5_road M x y w) P := by
  have n12 := hW.1.1
  have n20 := hW.1.2.1
  have n16 := hW.2.2.1
  have e10 : M 71 10 = nF (mB M) := rfl
  have e6 : M 71 6 = nR (mB M) := rfl
  have hx := k_isCrossing M x n12
  have hy := k_isCrossing M y n12
  unfold fX5_road
  refine ok_cal hx (fun r1 h1 => ok_if (fun q => ok_some (k1 (fun h9 => yes_f h1 q h9.1))) (fun q => ok_cal hy (fun r2 h2 => ok_if (fun q2 => ok_some (k1 (fun h9 => yes_f h2 q2 h9.2))) (fun q2 => ok_cal (k_in M w 0 1) (fun r3 h3 => ?_)))))
  have hp : (0 ≤ x ∧ x < nC (mB M)) ∧ (0 ≤ y ∧ y < nC (mB M)) := ⟨yes_t h1 q, yes_t h2 q2⟩
  refine ok_if (fun q3 => ok_some (k2 hp (fun h9 => yes_f h3 q3 (by omega)))) (fun q3 => ?_)
  have hw : w = 0 ∨ w = 1 := by have := yes_t h3 q3; omega
  rw [e10]
  refine ok_if (fun z => ?_) (fun z => ok_some (k3 hp hw (by omega)))
  have hz : nF (mB M) = 0 := by omega
  refine ok_jnK (fun K6 => ∀ c, yes c (rowOf (mB M) x y) → OK (K6 c M) P) (fun c hc => ?_) (fun K6 hK6 => ?_)
  · refine m_roadL hW x y w (rowOf (mB M) x y) _ P (fun r hr => ?_) 1000 c 0 (by omega) n20.1 (by omega) ?_
    · rw [e6]
      refine ok_if (fun q4 => ok_some (k4 hp hw hz (yes_f hr q4))) (fun q4 => ok_if (fun q5 => ok_some (k5 hp hw hz (yes_t hr q4) q5)) (fun q5 => ok_gd (by omega) (ok_bnd (fun M6 e6' => ?_))))
      have a6 : M6 71 = M 71 := by rw [e6', up_row (by decide)]
      rw [a6, e6]
      refine ok_gd (by omega) (ok_bnd (fun M7 e7 => ?_))
      have a7 : M7 71 = M 71 := by rw [e7, up_row (by decide), a6]
      rw [a7, e6]
      refine ok_gd (by omega) (ok_bnd (fun M9 e9 => ?_))
      have a9 : M9 71 = M 71 := by rw [e9, up_row (by decide), a7]
      rw [a9, e6]
      refine ok_gd ⟨by omega, by omega⟩ (ok_bnd (fun M8 e8 => ok_some ?_))
      have a8 : ∀ j, M8 71 j = if j = 6 then nR (mB M) + 1 else M 71 j := fun j => by rw [e8, up_at, a9]
      have bo : ∀ a, a ≠ 71 → a ≠ 74 → a ≠ 75 → a ≠ 76 → M8 a = M a := fun a h1 h2 h3 h4 => by rw [e8, up_row h1, e9, up_row h4, e7, up_row h3, e6', up_row h2]
      rw [a8, if_pos rfl]
      refine k6 hp hw hz (yes_t hr q4) (by omega) M8 bo ?_
      have b74 : M8 74 = uf (M 74) (nR (mB M)).toNat x := by rw [e8, up_row (by decide), e9, up_row (by decide), e7, up_row (by decide), e6']; funext j; rw [up_at]; rfl
      have b75 : M8 75 = uf (M 75) (nR (mB M)).toNat y := by rw [e8, up_row (by decide), e9, up_row (by decide), e7]; funext j; rw [up_at, e6', up_row (by decide)]; rfl
      have b76 : M8 76 = uf (M 76) (nR (mB M)).toNat w := by rw [e8, up_row (by decide), e9]; funext j; rw [up_at, e7, up_row (by decide), e6', up_row (by decide)]; rfl
      show ((M8 71 2, M8 71 6, M8 71 10), M8 72, M8 73, M8 74, M8 75, M8 76, M8 77, M8 78, M8 79) = _
      rw [a8, a8, a8, if_neg (by decide), if_pos rfl, if_neg (by decide), b74, b75, b76, bo 72 (by decide) (by decide) (by decide) (by decide), bo 73 (by decide) (by decide) (by decide) (by decide), bo 77 (by decide) (by decide) (by decide) (by decide), bo 78 (by decide) (by decide) (by decide) (by decide), bo 79 (by decide) (by decide) (by decide) (by decide)]
      rfl
    · rcases hc with ⟨a, b⟩ | ⟨a, b⟩
      · exact Or.inl ⟨a, b, fun j hj => by omega⟩
      · exact Or.inr ⟨a, fun h9 => b h9.1⟩
  · have e72 : ∀ j, M 72 j = cx (mB M) j := fun _ => rfl
    have e73 : ∀ j, M 73 j = cy (mB M) j := fun _ => rfl
    rw [e72, e72, e73, e73]
    refine ok_jnK (fun K39 => ¬ rowOf (mB M) x y → OK (K39 M) P) (fun hn => hK6 0 (Or.inr ⟨rfl, hn⟩)) (fun K39 hK39 => ?_)
    refine ok_if (fun z1 => hK39 (fun h9 => h9.1 z1)) (fun z1 => ?_)
    refine ok_jnK (fun K41 => rowOf (mB M) x y → OK (K41 M) P) (fun hn => hK6 1 (Or.inl ⟨rfl, hn⟩)) (fun K41 hK41 => ?_)
    exact ok_gd ⟨by omega, by omega⟩ (ok_if (fun z2 => hK41 ⟨z1, Or.inl z2⟩) (fun z2 => ok_gd ⟨by omega, by omega⟩ (ok_if (fun z3 => hK41 ⟨z1, Or.inr z3⟩) (fun z3 => hK39 (fun h9 => h9.2.elim z2 z3)))))
theorem q_road (hI : Inv M) (x y w : Int) : OK (fX4_road M x y w) (fun p => OK (fX5_road p.2 x y w) (fun q => p.1 = q.1 ∧ Inv q.2)) := by
  obtain ⟨hW, hCL, hZ, -⟩ := id hI
  obtain ⟨hC, hru, -⟩ := CL_2 hCL
  have n12 := hW.1.1
  have n20 := hW.1.2.1
  have n16 := hW.2.2.1
  have f1 := (Inv_f hI).1
  have e0 := hC.1
  have e1 := hC.2.1
  have hx := k_hasCrossing M x
  have hy := k_hasCrossing M y
  rw [e0] at hx hy
  unfold fX4_road
  refine ok_cal hx (fun r1 h1 => ok_if (fun q => ok_some (m_road hW x y w _ (fun _ => ⟨rfl, hI⟩) (fun h => absurd h.1 (yes_f h1 q)) (fun h => absurd h.1 (yes_f h1 q)) (fun h => absurd h.1 (yes_f h1 q)) (fun h => absurd h.1 (yes_f h1 q)) (fun h => absurd h.1 (yes_f h1 q)))) (fun q => ok_cal hy (fun r2 h2 => ok_if (fun q2 => ok_some (m_road hW x y w _ (fun _ => ⟨rfl, hI⟩) (fun h => absurd h.2 (yes_f h2 q2)) (fun h => absurd h.2 (yes_f h2 q2)) (fun h => absurd h.2 (yes_f h2 q2)) (fun h => absurd h.2 (yes_f h2 q2)) (fun h => absurd h.2 (yes_f h2 q2)))) (fun q2 => ?_))))
  have hp : (0 ≤ x ∧ x < nC (mB M)) ∧ (0 ≤ y ∧ y < nC (mB M)) := ⟨yes_t h1 q, yes_t h2 q2⟩
  have no : ∀ hw : (w = 0 ∨ w = 1), nF (mB M) = 0 → ¬ (rowOf (mB M) x y ∧ ¬ joined (nR (mB M)) (rf (mB M)) (rl (mB M)) x y) → OK (fX5_road M x y w) (fun q => (-5 : Int) = q.1 ∧ Inv q.2) := fun hw hz h9 => m_road hW x y w _ (fun h => absurd hp h) (fun _ h => absurd hw h) (fun _ _ h => absurd hz h) (fun _ _ _ _ => ⟨rfl, hI⟩) (fun _ _ _ h => absurd h h9) (fun _ _ _ h => absurd h h9)
  refine ok_jnK (fun K4 => (w = 0 ∨ w = 1) → OK (K4 M) (fun p => OK (fX5_road p.2 x y w) (fun q => p.1 = q.1 ∧ Inv q.2))) (fun hw => ?_) (fun K4 hK4 => ok_if (fun z => hK4 (Or.inl z)) (fun z => ok_if (fun z2 => hK4 (Or.inr z2)) (fun z2 => ok_some (m_road hW x y w _ (fun h => absurd hp h) (fun _ _ => ⟨rfl, hI⟩) (fun _ h => absurd h (by omega)) (fun _ h => absurd h (by omega)) (fun _ h => absurd h (by omega)) (fun _ h => absurd h (by omega))))))
  rw [f1, e1]
  refine ok_if (fun z => ?_) (fun z => ok_some (m_road hW x y w _ (fun h => absurd hp h) (fun _ h => absurd hw h) (fun _ _ _ => ⟨rfl, hI⟩) (fun _ _ h => by omega) (fun _ _ h => by omega) (fun _ _ h => by omega)))
  have hz : nF (mB M) = 0 := by omega
  refine ok_if (fun z1 => ok_some (no hw hz (fun h9 => h9.1.1 z1))) (fun z1 => ?_)
  have hrow := k_areInOneRow M x y (by omega) (by omega) (by omega)
  obtain ⟨c1, c2, c3, c4, c5⟩ := id hC
  rw [(c3 x.toNat (by omega)).1, (c3 x.toNat (by omega)).2, (c3 y.toNat (by omega)).1, (c3 y.toNat (by omega)).2] at hrow
  refine ok_cal hrow (fun r5 h5 => ok_if (fun q5 => ok_some (no hw hz (fun h9 => yes_f h5 q5 h9.1.2))) (fun q5 => ok_cal (k_areJoined M x y (by omega)) (fun r6 h6 => ok_if (fun q6 => ?_) (fun q6 => ok_some (no hw hz (fun h9 => h9.2 ((joined_CN hC x y).mp (yes_t h6 q6))))))))
  have hgood : rowOf (mB M) x y ∧ ¬ joined (nR (mB M)) (rf (mB M)) (rl (mB M)) x y := ⟨⟨z1, yes_t h5 q5⟩, fun h9 => yes_f h6 q6 ((joined_CN hC x y).mpr h9)⟩
  refine ok_if (fun z2 => ok_cal (k_addRoad M (mB M) hW.1 hC x y w z2 hp.1 hp.2 z1 (yes_t h5 q5) hw) (fun M3 h3 => ok_some ?_)) (fun z2 => ok_some (m_road hW x y w _ (fun h => absurd hp h) (fun _ h => absurd hw h) (fun _ _ h => absurd hz h) (fun _ _ _ h => absurd hgood h) (fun _ _ _ _ _ => ⟨rfl, hI⟩) (fun _ _ _ _ h => absurd h z2)))
  obtain ⟨a1, a2, a3⟩ := h3
  have eb : mB M3 = mB M := mB_hi (fun a ha => a1 a (by omega) (by omega) (by omega) (by omega) (by omega) (by omega))
  dsimp only
  rw [a2]
  refine m_road (M := M3) (by rw [eb]; exact hW) x y w _ (fun h => absurd (by rw [eb]; exact hp) h) (fun _ h => absurd hw h) (fun _ _ h => absurd (by rw [eb]; exact hz) h) (fun _ _ _ h => absurd (by rw [eb]; exact hgood) h) (fun _ _ _ _ h => by rw [eb] at h; omega) (fun _ _ _ _ _ M8 b1 b2 => ?_)
  rw [eb] at b2 ⊢
  refine ⟨rfl, Inv_mk (M' := M8) hI (fun a ha => by rw [b1 a (by omega) (by omega) (by omega) (by omega), a1 a (by omega) (by omega) (by omega) (by omega) (by omega) (by omega)]) ?_ ?_ ?_⟩
  · rw [b2]; exact ⟨dR_WN hW.1 z2 hp.1 hp.2 z1 (yes_t h5 q5) hw, hW.2.1, hW.2.2⟩
  · rw [b2]
    refine CL_0 (show nF (mB M) = 0 from hz) ?_ (fun j hj => ?_) ?_
    · rw [b1 3 (by decide) (by decide) (by decide) (by decide), b1 4 (by decide) (by decide) (by decide) (by decide), b1 5 (by decide) (by decide) (by decide) (by decide), b1 6 (by decide) (by decide) (by decide) (by decide), b1 7 (by decide) (by decide) (by decide) (by decide), b1 8 (by decide) (by decide) (by decide) (by decide), b1 9 (by decide) (by decide) (by decide) (by decide), b1 10 (by decide) (by decide) (by decide) (by decide)]
      exact a3
    · rw [b1 12 (by decide) (by decide) (by decide) (by decide), a1 12 (by decide) (by decide) (by decide) (by decide) (by decide) (by decide)]; exact hru j hj
    · rw [b1 13 (by decide) (by decide) (by decide) (by decide), a1 13 (by decide) (by decide) (by decide) (by decide) (by decide) (by decide), f1]; exact hz
  · refine Zr_of hZ b2 (fun j => ⟨fun _ => ⟨rfl, rfl⟩, fun hj => ?_, fun _ => rfl, fun _ => ⟨rfl, rfl⟩⟩)
    show uf (rf (mB M)) (nR (mB M)).toNat x j = rf (mB M) j ∧ uf (rl (mB M)) (nR (mB M)).toNat y j = rl (mB M) j ∧ uf (rw' (mB M)) (nR (mB M)).toNat w j = rw' (mB M) j
    rw [uf_ne (by omega), uf_ne (by omega), uf_ne (by omega)]; exact ⟨rfl, rfl, rfl⟩
theorem q_rule (hI : Inv M) (x n : Int) : OK (fX4_rule M x n) (fun p => OK (fX5_rule p.2 x n) (fun q => p.1 = q.1 ∧ Inv q.2)) := by
  obtain ⟨hW, hCL, hZ, -, -, m0, m1, m2, m3⟩ := id hI
  obtain ⟨hC, hru, -⟩ := CL_2 hCL
  have n16 := hW.2.2.1
  have f1 := (Inv_f hI).1
  have f2 := (Inv_f hI).2
  -- the most that a rule may be
  have hmost : (0 ≤ x ∧ x < 4) → M 999 x.toNat = if x = 0 then 8 else if x = 3 then 99 else 9 := fun hx => by
    rcases (show x = 0 ∨ x = 1 ∨ x = 2 ∨ x = 3 by omega) with rfl | rfl | rfl | rfl
    · exact m0
    · exact m1
    · exact m2
    · exact m3
  generalize hmx : (if x = 0 then (8 : Int) else if x = 3 then 99 else 9) = mx at hmost
  have hall : OK (fX1_allows M x n) (fun r => yes r ((0 ≤ x ∧ x < 4) ∧ (0 ≤ n ∧ n ≤ mx))) := by
    unfold fX1_allows
    refine ok_jn (ok_if (fun z => ok_some (Or.inr ⟨rfl, by omega⟩)) (fun z => ok_if (fun z2 => ok_some (Or.inr ⟨rfl, by omega⟩)) (fun z2 => ok_if (fun z3 => ok_some (Or.inr ⟨rfl, by omega⟩)) (fun z3 => ok_gd (by omega) ?_))))
    rw [hmost ⟨by omega, by omega⟩]
    exact ok_if (fun z4 => ok_some (Or.inr ⟨rfl, by omega⟩)) (fun z4 => ok_some (Or.inl ⟨rfl, by omega⟩))
  have model : ∀ (M' : Mm) (P : Int × Mm → Prop), M' 71 = M 71 → (¬ ((0 ≤ x ∧ x < 4) ∧ (0 ≤ n ∧ n ≤ mx)) → P (-2, M')) → (((0 ≤ x ∧ x < 4) ∧ (0 ≤ n ∧ n ≤ mx)) → nF (mB M) ≠ 0 → P (-3, M')) → (((0 ≤ x ∧ x < 4) ∧ (0 ≤ n ∧ n ≤ mx)) → nF (mB M) = 0 → P (M' 77 x.toNat, up M' 77 x.toNat n)) → OK (fX5_rule M' x n) P := by
    intro M' P e71 k1 k2 k3
    unfold fX5_rule
    refine ok_cal (k_in M' x 0 3) (fun r1 h1 => ok_if (fun q => ok_some (k1 (fun h9 => yes_f h1 q (by omega)))) (fun q => ?_))
    have hx := yes_t h1 q
    refine ok_jnK (fun K6 => OK (K6 mx 0 n M') P) ?_ (fun K6 hK6 => ?_)
    · rw [e71, f2]
      refine ok_cal (k_in M' n 0 mx) (fun r7 h7 => ok_if (fun q7 => ok_some (k1 (fun h9 => yes_f h7 q7 h9.2))) (fun q7 => ?_))
      have hn := yes_t h7 q7
      exact ok_if (fun z => ok_gd (by omega) (ok_bnd (fun M8 e8 => ok_some (by rw [e8]; exact k3 ⟨by omega, hn⟩ (by omega))))) (fun z => ok_some (k2 ⟨by omega, hn⟩ (by omega)))
    · refine ok_if (fun z => ?_) (fun z => ok_if (fun z2 => ?_) (fun z2 => ?_))
      · rw [if_pos z] at hmx; rw [← hmx] at hK6; exact hK6
      · rw [if_neg z, if_pos z2] at hmx; rw [← hmx] at hK6; exact hK6
      · rw [if_neg z, if_neg z2] at hmx; rw [← hmx] at hK6; exact hK6
  unfold fX4_rule
  refine ok_cal hall (fun r1 h1 => ok_if (fun q => ok_some (model M _ rfl (fun _ => ⟨rfl, hI⟩) (fun h => absurd h (yes_f h1 q)) (fun h => absurd h (yes_f h1 q)))) (fun q => ?_))
  have hg := yes_t h1 q
  rw [f1]
  refine ok_if (fun z => ?_) (fun z => ok_some (model M _ rfl (fun h => absurd hg h) (fun _ _ => ⟨rfl, hI⟩) (fun _ h => by omega)))
  have hch : OK (fX1_change M x n) (fun p => p.1 = M 12 x.toNat ∧ p.2 = up M 12 x.toNat n) := by
    unfold fX1_change
    exact ok_f (by omega) (ok_t (by omega) (ok_gd (by omega) (ok_bnd (fun M1 e1 => ok_some ⟨rfl, e1⟩))))
  refine ok_cal2 hch (fun r2 M3 h3 => ok_some ?_)
  obtain ⟨a1, a2⟩ := h3
  dsimp only at a1 a2 ⊢
  have a3 : ∀ a, a ≠ 12 → M3 a = M a := fun a ha => by rw [a2, up_row ha]
  refine model M3 _ (a3 71 (by decide)) (fun h => absurd hg h) (fun _ h => absurd (by omega) h) (fun _ _ => ⟨?_, ?_⟩)
  · show r2 = M3 77 x.toNat
    rw [a1, a3 77 (by decide), hru x.toNat (by omega)]
    rfl
  · show Inv (up M3 77 x.toNat n)
    have o8 : ∀ a, a ≠ 77 → up M3 77 x.toNat n a = M3 a := fun a ha => up_row ha
    have b77 : up M3 77 x.toNat n 77 = uf (M 77) x.toNat n := by funext j; rw [up_at, a3 77 (by decide)]; rfl
    generalize up M3 77 x.toNat n = M8 at *
    have eb : mB M8 = ((nC (mB M), nR (mB M), nF (mB M)), cx (mB M), cy (mB M), rf (mB M), rl (mB M), rw' (mB M), uf (ru (mB M)) x.toNat n, fx (mB M), fy (mB M)) := by
      show ((M8 71 2, M8 71 6, M8 71 10), M8 72, M8 73, M8 74, M8 75, M8 76, M8 77, M8 78, M8 79) = _
      rw [b77, o8 71 (by decide), o8 72 (by decide), o8 73 (by decide), o8 74 (by decide), o8 75 (by decide), o8 76 (by decide), o8 78 (by decide), o8 79 (by decide), a3 71 (by decide), a3 72 (by decide), a3 73 (by decide), a3 74 (by decide), a3 75 (by decide), a3 76 (by decide), a3 78 (by decide), a3 79 (by decide)]
      rfl
    refine Inv_mk hI (fun a ha => by rw [o8 a (by omega), a3 a (by omega)]) ?_ ?_ ?_
    · rw [eb]
      refine ⟨hW.1, ?_, hW.2.2⟩
      obtain ⟨w0, w1, w2, w3⟩ := hW.2.1
      show (0 ≤ uf (ru (mB M)) x.toNat n 0 ∧ uf (ru (mB M)) x.toNat n 0 ≤ 8) ∧ (0 ≤ uf (ru (mB M)) x.toNat n 1 ∧ uf (ru (mB M)) x.toNat n 1 ≤ 9) ∧ (0 ≤ uf (ru (mB M)) x.toNat n 2 ∧ uf (ru (mB M)) x.toNat n 2 ≤ 9) ∧ (0 ≤ uf (ru (mB M)) x.toNat n 3 ∧ uf (ru (mB M)) x.toNat n 3 ≤ 99)
      rcases (show x = 0 ∨ x = 1 ∨ x = 2 ∨ x = 3 by omega) with rfl | rfl | rfl | rfl
      · have : mx = 8 := by rw [← hmx]; rfl
        exact ⟨by show 0 ≤ n ∧ n ≤ 8; omega, w1, w2, w3⟩
      · have : mx = 9 := by rw [← hmx]; rfl
        exact ⟨w0, by show 0 ≤ n ∧ n ≤ 9; omega, w2, w3⟩
      · have : mx = 9 := by rw [← hmx]; rfl
        exact ⟨w0, w1, by show 0 ≤ n ∧ n ≤ 9; omega, w3⟩
      · have : mx = 99 := by rw [← hmx]; rfl
        exact ⟨w0, w1, w2, by show 0 ≤ n ∧ n ≤ 99; omega⟩
    · rw [eb]
      refine CL_0 (show nF (mB M) = 0 by omega) ?_ (fun j hj => ?_) ?_
      · rw [o8 3 (by decide), o8 4 (by decide), o8 5 (by decide), o8 6 (by decide), o8 7 (by decide), o8 8 (by decide), o8 9 (by decide), o8 10 (by decide), a3 3 (by decide), a3 4 (by decide), a3 5 (by decide), a3 6 (by decide), a3 7 (by decide), a3 8 (by decide), a3 9 (by decide), a3 10 (by decide)]
        exact hC
      · rw [o8 12 (by decide), a2, up_at]
        show _ = uf (ru (mB M)) x.toNat n j
        unfold uf
        by_cases hjx : j = x.toNat
        · rw [if_pos hjx, if_pos hjx]
        · rw [if_neg hjx, if_neg hjx]; exact hru j hj
      · rw [o8 13 (by decide), a3 13 (by decide), f1]; omega
    · refine Zr_of hZ eb (fun j => ⟨fun _ => ⟨rfl, rfl⟩, fun _ => ⟨rfl, rfl, rfl⟩, fun hj => ?_, fun _ => ⟨rfl, rfl⟩⟩)
      show uf (ru (mB M)) x.toNat n j = ru (mB M) j
      rw [uf_ne (by omega)]
theorem q_cell (hI : Inv M) (x y : Int) : OK (fX4_cell M x y) (fun r => OK (fX5_cell M x y) (fun q => r = q)) := by
  obtain ⟨hW, hCL, -⟩ := id hI
  obtain ⟨hC, -⟩ := CL_2 hCL
  have n20 := hW.1.2.1
  have out : ¬ ((0 ≤ x ∧ x ≤ 7) ∧ (0 ≤ y ∧ y ≤ 7)) → OK (fX5_cell M x y) (fun q => (-2 : Int) = q) := fun h9 => by
    unfold fX5_cell
    exact ok_cal (k_in M x 0 7) (fun r1 h1 => ok_if (fun _ => ok_some rfl) (fun q1 => ok_cal (k_in M y 0 7) (fun r2 h2 => ok_if (fun _ => ok_some rfl) (fun q2 => absurd ⟨yes_t h1 q1, yes_t h2 q2⟩ h9))))
  unfold fX4_cell
  refine ok_if (fun z => ok_some (out (by omega))) (fun z => ok_if (fun z1 => ok_some (out (by omega))) (fun z1 => ok_if (fun z2 => ok_some (out (by omega))) (fun z2 => ok_if (fun z3 => ?_) (fun z3 => ok_some (out (by omega))))))
  have hc : OK (fX0_roadsInCell M x y) (fun r => r = ((cN (cellB (mB M) x y) (nR (mB M)).toNat : Nat) : Int)) := by
    unfold fX0_roadsInCell
    exact k_roadsInCellL hW.1 hC x y 1000 0 0 (by omega) n20.1 (by omega) rfl
  refine ok_cal hc (fun r hr => ok_some ?_)
  unfold fX5_cell
  refine ok_cal (k_in M x 0 7) (fun r1 h1 => ok_f (fun q => yes_f h1 q (by omega)) (ok_cal (k_in M y 0 7) (fun r2 h2 => ok_f (fun q => yes_f h2 q (by omega)) (ok_mono (k_cellL28 hW.1 x y 1000 0 0 (by omega) n20.1 (by omega) rfl) (fun q hq => by rw [hr, hq])))))
theorem off80_A {M' : Mm} (h : off80 M M') : offA M M' := offA_of (fun a ha => h a (by omega))
theorem q_between (hI : Inv M) (x y : Int) : OK (fX4_between M x y) (fun r => OK (fX5_between M x y) (fun q => r = q.1 ∧ Inv q.2)) := by
  obtain ⟨hW, hCL, -⟩ := id hI
  obtain ⟨hC, -⟩ := CL_2 hCL
  have n12 := hW.1.1
  have e0 := hC.1
  have hx := k_hasCrossing M x
  have hy := k_hasCrossing M y
  rw [e0] at hx hy
  have out : ¬ ((0 ≤ x ∧ x < nC (mB M)) ∧ (0 ≤ y ∧ y < nC (mB M))) → OK (fX5_between M x y) (fun q => (-1 : Int) = q.1 ∧ Inv q.2) := fun h9 => by
    unfold fX5_between
    exact ok_cal (k_isCrossing M x n12) (fun r1 h1 => ok_if (fun _ => ok_some ⟨rfl, hI⟩) (fun q1 => ok_cal (k_isCrossing M y n12) (fun r2 h2 => ok_if (fun _ => ok_some ⟨rfl, hI⟩) (fun q2 => absurd ⟨yes_t h1 q1, yes_t h2 q2⟩ h9))))
  unfold fX4_between
  refine ok_cal hx (fun r1 h1 => ok_if (fun q => ok_some (out (fun h9 => yes_f h1 q h9.1))) (fun q => ok_cal hy (fun r2 h2 => ok_if (fun q2 => ok_some (out (fun h9 => yes_f h2 q2 h9.2))) (fun q2 => ok_cal (k_leastBetween hW.1 hC x y) (fun r3 h3 => ok_some ?_)))))
  have px := yes_t h1 q
  have py := yes_t h2 q2
  have e3 : r3 = M 10 (12 * x.toNat + y.toNat) := by
    rcases h3 with ⟨-, -, a⟩ | ⟨a, -⟩
    · exact a
    · exact absurd ⟨px, py⟩ a
  unfold fX5_between
  refine ok_cal (k_isCrossing M x n12) (fun r4 h4 => ok_f (fun q => yes_f h4 q px) (ok_cal (k_isCrossing M y n12) (fun r5 h5 => ok_f (fun q => yes_f h5 q py) (ok_cal (k_layFar M hW.1 hC.2.2.2.2) (fun M3 h6 => ?_)))))
  have hI3 := Inv_A (off80_A h6.1) hI
  have hf : M3 80 (12 * x.toNat + y.toNat) = if M 10 (12 * x.toNat + y.toNat) = -6 then 1000000 else M 10 (12 * x.toNat + y.toNat) := h6.2 x.toNat y.toNat (by omega) (by omega)
  have hb : M 10 (12 * x.toNat + y.toNat) = -6 ∨ (0 ≤ M 10 (12 * x.toNat + y.toNat) ∧ M 10 (12 * x.toNat + y.toNat) ≤ 756) := DM_b (eg_b hW.1) hC.2.2.2.2 (i := x.toNat) (j := y.toNat) (by omega) (by omega)
  rw [← e3] at hf hb
  rw [show (12 * x + y).toNat = 12 * x.toNat + y.toNat by omega, hf]
  refine ok_gd ⟨⟨by omega, by omega⟩, ⟨by omega, by omega⟩, by omega⟩ ?_
  by_cases h9 : r3 = -6
  · rw [if_pos h9]
    exact ok_t (by omega) (ok_some ⟨h9, hI3⟩)
  · have e9 : (if r3 = -6 then (1000000 : Int) else r3) = r3 := if_neg h9
    rw [e9]
    exact ok_f (by omega) (ok_gd ⟨⟨by omega, by omega⟩, ⟨by omega, by omega⟩, by omega⟩ (ok_some ⟨rfl, hI3⟩))
theorem q_way (hI : Inv M) (x y : Int) : OK (fX4_way M x y) (fun r => OK (fX5_way M x y) (fun q => r = q.1 ∧ Inv q.2)) := by
  obtain ⟨hW, hCL, -⟩ := id hI
  obtain ⟨hC, -⟩ := CL_2 hCL
  obtain ⟨s1, s2⟩ := CN_sp hC
  have out : ¬ (Sp (mB M) x ∧ Sp (mB M) y) → OK (fX5_way M x y) (fun q => (-1 : Int) = q.1 ∧ Inv q.2) := fun h9 => by
    unfold fX5_way
    exact ok_cal (k_isSpot M hW.1 x) (fun r1 h1 => ok_if (fun _ => ok_some ⟨rfl, hI⟩) (fun q1 => ok_cal (k_isSpot M hW.1 y) (fun r2 h2 => ok_if (fun _ => ok_some ⟨rfl, hI⟩) (fun q2 => absurd ⟨yes_t h1 q1, yes_t h2 q2⟩ h9))))
  unfold fX4_way
  refine ok_cal (k_hasSpot M (mB M) hW.1 s1 s2 x) (fun r1 h1 => ok_if (fun q => ok_some (out (fun h9 => yes_f h1 q h9.1))) (fun q => ok_cal (k_hasSpot M (mB M) hW.1 s1 s2 y) (fun r2 h2 => ok_if (fun q2 => ok_some (out (fun h9 => yes_f h2 q2 h9.2))) (fun q2 => ?_))))
  have px := yes_t h1 q
  have py := yes_t h2 q2
  refine ok_cal (k_wayLength hW.1 hC px py) (fun r3 h3 => ok_some ?_)
  unfold fX5_way
  refine ok_cal (k_isSpot M hW.1 x) (fun r4 h4 => ok_f (fun q => yes_f h4 q px) (ok_cal (k_isSpot M hW.1 y) (fun r5 h5 => ok_f (fun q => yes_f h5 q py) (ok_cal (k_layFar M hW.1 hC.2.2.2.2) (fun M3 h6 => ?_)))))
  have hA := off80_A h6.1
  have hI3 := Inv_A hA hI
  have eb := mB_A hA
  have hwo := k_wayOf (M := M3) (G := fun i j => M 10 (12 * i + j)) (s := x) (t := y) (by rw [eb]; exact hW.1) (by rw [eb]; exact hC.2.2.2.2) (by rw [eb]; exact h6.2) (by rw [eb]; exact px) (by rw [eb]; exact py)
  rw [eb] at hwo
  exact ok_cal hwo (fun r6 h7 => ok_some ⟨by show r3 = r6; rw [h3, h7], hI3⟩)
end ROADC
