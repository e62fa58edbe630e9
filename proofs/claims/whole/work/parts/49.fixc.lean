/-! fix, drop, told -/
def dD (d : Dt) : Dt := ((nC d, nR d, nF d - 1), cx d, cy d, rf d, rl d, rw' d, ru d, fx d, fy d)
theorem WF_dF {d : Dt} (h : WF d) {x y : Int} (hx : 0 ≤ x ∧ x ≤ 63) (hy : 0 ≤ y ∧ y ≤ 63) (hn : nF d < 16) : WF (dF d x y) := by
  obtain ⟨h1, h2⟩ := h
  refine ⟨by show 0 ≤ nF d + 1 ∧ nF d + 1 ≤ 16; omega, fun j hj => ?_⟩
  have hj2 : (j : Int) < nF d + 1 := hj
  show (0 ≤ uf (fx d) (nF d).toNat x j ∧ uf (fx d) (nF d).toNat x j ≤ 63) ∧ (0 ≤ uf (fy d) (nF d).toNat y j ∧ uf (fy d) (nF d).toNat y j ≤ 63)
  by_cases hjf : j = (nF d).toNat
  · unfold uf; rw [if_pos hjf, if_pos hjf]; exact ⟨hx, hy⟩
  · rw [uf_ne hjf, uf_ne hjf]; exact h2 j (by omega)
/-- behind settle the class's rows hold -/
theorem k_set2 {M1 : Mm} {d : Dt} (hW : Wd d) (hC : CN (M1 3) (M1 4) (M1 5) (M1 6) (M1 7) (M1 8) (M1 9) (M1 10) d) (hr : ∀ j : Nat, j < 4 → M1 12 j = ru d j) (hT : TC (M1 13) (M1 14) (M1 15) (M1 16) (M1 17) (M1 18) (M1 19) (M1 20) (M1 21) (M1 22) (fun i j => M1 10 (12 * i + j)) d) : OK (fX3_settle 2 M1) (fun M2 => (∀ a, a ≠ 23 → a ≠ 24 → M2 a = M1 a) ∧ CL 2 M2 d) := by
  obtain ⟨t1, t2, t3, t4⟩ := hT
  have hTS := TR_TS hW.1 hW.2.1 hW.2.2 hC.2.2.2.2 t3 (Int.le_refl _)
  have e1 : M1 (2 + 11) 2 = nF d := t1
  have hs := k_settle 2 M1 (by rw [e1]; exact hW.2.2.1) (by rw [e1]; exact hTS)
  rw [e1] at hs
  refine ok_mono hs (fun M2 h2 => ?_)
  obtain ⟨a, S, hS⟩ := h2
  have o : ∀ x, x ≠ 23 → x ≠ 24 → M2 x = M1 x := a
  refine ⟨o, ?_, ?_, ?_, S, ?_⟩
  · show CN (M2 3) (M2 4) (M2 5) (M2 6) (M2 7) (M2 8) (M2 9) (M2 10) d
    rw [o 3 (by decide) (by decide), o 4 (by decide) (by decide), o 5 (by decide) (by decide), o 6 (by decide) (by decide), o 7 (by decide) (by decide), o 8 (by decide) (by decide), o 9 (by decide) (by decide), o 10 (by decide) (by decide)]; exact hC
  · show ∀ j : Nat, j < 4 → M2 12 j = ru d j
    rw [o 12 (by decide) (by decide)]; exact hr
  · show TC (M2 13) (M2 14) (M2 15) (M2 16) (M2 17) (M2 18) (M2 19) (M2 20) (M2 21) (M2 22) (fun i j => M2 10 (12 * i + j)) d
    rw [o 10 (by decide) (by decide), o 13 (by decide) (by decide), o 14 (by decide) (by decide), o 15 (by decide) (by decide), o 16 (by decide) (by decide), o 17 (by decide) (by decide), o 18 (by decide) (by decide), o 19 (by decide) (by decide), o 20 (by decide) (by decide), o 21 (by decide) (by decide), o 22 (by decide) (by decide)]
    exact ⟨t1, t2, t3, t4⟩
  · show ∀ f : Nat, (f : Int) < nF d → ST (nF d) (M2 16) (M2 17) (M2 18) (M2 21) (M2 22) (M2 23) (M2 24) S f
    rw [o 16 (by decide) (by decide), o 17 (by decide) (by decide), o 18 (by decide) (by decide), o 21 (by decide) (by decide), o 22 (by decide) (by decide)]
    exact hS
section FIXC
variable {M : Mm}
theorem q_fix (hI : Inv M) (x y : Int) : OK (fX4_fix M x y) (fun p => OK (fX5_fix p.2 x y) (fun q => p.1 = q.1 ∧ Inv q.2)) := by
  obtain ⟨hW, hCL, hZ, -⟩ := id hI
  obtain ⟨hC, hru, hT, -⟩ := CL_2 hCL
  have n16 := hW.2.2.1
  have f1 := (Inv_f hI).1
  have model : ∀ (M' : Mm) (P : Int × Mm → Prop), (∀ a, 71 ≤ a → M' a = M a) → (¬ ((0 ≤ x ∧ x ≤ 63) ∧ (0 ≤ y ∧ y ≤ 63)) → P (-2, M')) → (((0 ≤ x ∧ x ≤ 63) ∧ (0 ≤ y ∧ y ≤ 63)) → nF (mB M) = 16 → P (-4, M')) → (((0 ≤ x ∧ x ≤ 63) ∧ (0 ≤ y ∧ y ≤ 63)) → nF (mB M) < 16 → ∀ M5 : Mm, (∀ a, a ≠ 71 → a ≠ 78 → a ≠ 79 → M5 a = M' a) → mB M5 = dF (mB M) x y → P (nF (mB M) + 1, M5)) → OK (fX5_fix M' x y) P := by
    intro M' P hM k1 k2 k3
    have e71 : ∀ j, M' 71 j = M 71 j := fun j => by rw [hM 71 (by decide)]
    have e10 : M 71 10 = nF (mB M) := rfl
    unfold fX5_fix
    refine ok_cal (k_in M' x 0 63) (fun r1 h1 => ok_if (fun q => ok_some (k1 (fun h9 => yes_f h1 q h9.1))) (fun q => ok_cal (k_in M' y 0 63) (fun r2 h2 => ok_if (fun q2 => ok_some (k1 (fun h9 => yes_f h2 q2 h9.2))) (fun q2 => ?_))))
    have hp : (0 ≤ x ∧ x ≤ 63) ∧ (0 ≤ y ∧ y ≤ 63) := ⟨yes_t h1 q, yes_t h2 q2⟩
    rw [e71, e10]
    refine ok_if (fun z => ok_some (k2 hp z)) (fun z => ok_gd (by omega) (ok_bnd (fun M3 e3 => ?_)))
    have a3 : ∀ j, M3 71 j = M 71 j := fun j => by rw [e3, up_row (by decide), e71]
    rw [a3, e10]
    refine ok_gd (by omega) (ok_bnd (fun M4 e4 => ?_))
    have a4 : ∀ j, M4 71 j = M 71 j := fun j => by rw [e4, up_row (by decide), a3]
    rw [a4, e10]
    refine ok_gd ⟨by omega, by omega⟩ (ok_bnd (fun M5 e5 => ok_some ?_))
    have a5 : ∀ j, M5 71 j = if j = 10 then nF (mB M) + 1 else M 71 j := fun j => by rw [e5, up_at, a4]
    have bo : ∀ a, a ≠ 71 → a ≠ 78 → a ≠ 79 → M5 a = M' a := fun a h1 h2 h3 => by rw [e5, up_row h1, e4, up_row h3, e3, up_row h2]
    rw [a5, if_pos rfl]
    refine k3 hp (by omega) M5 bo ?_
    have b78 : M5 78 = uf (M 78) (nF (mB M)).toNat x := by rw [e5, up_row (by decide), e4, up_row (by decide), e3]; funext j; rw [up_at, hM 78 (by decide)]; rfl
    have b79 : M5 79 = uf (M 79) (nF (mB M)).toNat y := by rw [e5, up_row (by decide), e4]; funext j; rw [up_at, e3, up_row (by decide), hM 79 (by decide)]; rfl
    show ((M5 71 2, M5 71 6, M5 71 10), M5 72, M5 73, M5 74, M5 75, M5 76, M5 77, M5 78, M5 79) = _
    rw [a5, a5, a5, if_neg (by decide), if_neg (by decide), if_pos rfl, b78, b79, bo 72 (by decide) (by decide) (by decide), bo 73 (by decide) (by decide) (by decide), bo 74 (by decide) (by decide) (by decide), bo 75 (by decide) (by decide) (by decide), bo 76 (by decide) (by decide) (by decide), bo 77 (by decide) (by decide) (by decide), hM 72 (by decide), hM 73 (by decide), hM 74 (by decide), hM 75 (by decide), hM 76 (by decide), hM 77 (by decide)]
    rfl
  unfold fX4_fix
  refine ok_cal (k_isPlace M x y) (fun r1 h1 => ok_if (fun q => ok_some (model M _ (fun _ _ => rfl) (fun _ => ⟨rfl, hI⟩) (fun h => absurd h (yes_f h1 q)) (fun h => absurd h (yes_f h1 q)))) (fun q => ?_))
  have hp := yes_t h1 q
  rw [f1]
  refine ok_if (fun z => ?_) (fun z => ok_some (model M _ (fun _ _ => rfl) (fun h => absurd hp h) (fun _ _ => ⟨rfl, hI⟩) (fun _ h => absurd h z)))
  have hW' : Wd (dF (mB M) x y) := ⟨hW.1, hW.2.1, WF_dF hW.2.2 hp.1 hp.2 z⟩
  have hadd : OK (fX3_addFix M x y) (fun M3 => (∀ a, (a < 13 ∨ 24 < a) → M3 a = M a) ∧ CL 2 M3 (dF (mB M) x y)) := by
    refine k_addFix hW.1 hW.2.1 hW.2.2 M hC hru hT x y hp.1 hp.2 z _ (fun M1 a1 a2 a3 => ?_)
    have hs := k_set2 (M1 := M1) (d := dF (mB M) x y) hW' (by
      rw [a1 3 (by omega), a1 4 (by omega), a1 5 (by omega), a1 6 (by omega), a1 7 (by omega), a1 8 (by omega), a1 9 (by omega), a1 10 (by omega)]; exact hC) (by rw [a1 12 (by omega)]; exact hru) (by rw [a1 10 (by omega)]; exact a3)
    refine ok_cal hs (fun M3 h3 => ok_some ⟨fun a ha => ?_, h3.2⟩)
    rw [h3.1 a (by omega) (by omega), a1 a (by omega)]
  refine ok_cal hadd (fun M3 h3 => ok_some ?_)
  obtain ⟨b1, b2⟩ := h3
  have e13 : M3 13 2 = nF (mB M) + 1 := (CL_2 b2).2.2.1.1
  dsimp only
  rw [e13]
  refine model M3 _ (fun a ha => b1 a (by omega)) (fun h => absurd hp h) (fun _ h => by omega) (fun _ _ M5 c1 c2 => ⟨rfl, Inv_mk (M' := M5) hI (fun a ha => by rw [c1 a (by omega) (by omega) (by omega), b1 a (by omega)]) (by rw [c2]; exact hW') ?_ ?_⟩)
  · rw [c2]; exact CL_frame (fun a g1 g2 => c1 a (by omega) (by omega) (by omega)) b2
  · refine Zr_of hZ c2 (fun j => ⟨fun _ => ⟨rfl, rfl⟩, fun _ => ⟨rfl, rfl, rfl⟩, fun _ => rfl, fun hj => ?_⟩)
    show uf (fx (mB M)) (nF (mB M)).toNat x j = fx (mB M) j ∧ uf (fy (mB M)) (nF (mB M)).toNat y j = fy (mB M) j
    rw [uf_ne (by omega), uf_ne (by omega)]; exact ⟨rfl, rfl⟩
theorem q_drop (hI : Inv M) : OK (fX4_drop M) (fun p => OK (fX5_drop p.2) (fun q => p.1 = q.1 ∧ Inv q.2)) := by
  obtain ⟨hW, hCL, hZ, -⟩ := id hI
  obtain ⟨hC, hru, ⟨t1, t2, t3, t4⟩, -⟩ := CL_2 hCL
  have n16 := hW.2.2.1
  have f1 := (Inv_f hI).1
  have f2 := (Inv_f hI).2
  unfold fX4_drop
  rw [f1]
  refine ok_if (fun z => ?_) (fun z => ok_some ?_)
  · have hW' : Wd (dD (mB M)) := ⟨hW.1, hW.2.1, by show 0 ≤ nF (mB M) - 1 ∧ nF (mB M) - 1 ≤ 16; omega, fun j hj => hW.2.2.2 j (by have : (j : Int) < nF (mB M) - 1 := hj; omega)⟩
    have hd : OK (fX3_dropFix M) (fun M3 => (∀ a, (a < 13 ∨ 24 < a) → M3 a = M a) ∧ CL 2 M3 (dD (mB M))) := by
      unfold fX3_dropFix
      rw [f1]
      refine ok_t z (ok_gd ⟨by omega, by omega⟩ (ok_bnd (fun M1 e1 => ?_)))
      have o : ∀ a, a ≠ 13 → M1 a = M a := fun a ha => by rw [e1, up_row ha]
      have hs := k_set2 (M1 := M1) (d := dD (mB M)) hW' (by
        rw [o 3 (by decide), o 4 (by decide), o 5 (by decide), o 6 (by decide), o 7 (by decide), o 8 (by decide), o 9 (by decide), o 10 (by decide)]; exact hC) (by rw [o 12 (by decide)]; exact hru) (by
        rw [o 10 (by decide), o 14 (by decide), o 15 (by decide), o 16 (by decide), o 17 (by decide), o 18 (by decide), o 19 (by decide), o 20 (by decide), o 21 (by decide), o 22 (by decide)]
        refine ⟨by rw [e1, up_eq]; rfl, fun j hj => t2 j (by have : (j : Int) < nF (mB M) - 1 := hj; omega), fun f hf => ?_, fun f hf => t4 f (by have : (f : Int) < nF (mB M) - 1 := hf; omega)⟩
        have hf2 : (f : Int) < nF (mB M) - 1 := hf
        exact TR1_congr (d := mB M) (d' := dD (mB M)) ⟨rfl, rfl, rfl, rfl, rfl⟩ (fun i hi => ⟨rfl, rfl⟩) (fun i hi => ⟨rfl, rfl, (TR_cn hW.1 t3 (f := i) (by omega)).2⟩) (fun _ => rfl) (fun i k hi hk => ⟨rfl, rfl, rfl, rfl⟩) (t3 f (by omega)))
      refine ok_cal hs (fun M3 h3 => ok_some ⟨fun a ha => ?_, h3.2⟩)
      rw [h3.1 a (by omega) (by omega), o a (by omega)]
    refine ok_cal hd (fun M3 h3 => ok_some ?_)
    obtain ⟨b1, b2⟩ := h3
    have e13 : M3 13 2 = nF (mB M) - 1 := (CL_2 b2).2.2.1.1
    have e71 : ∀ j, M3 71 j = M 71 j := fun j => by rw [b1 71 (by omega)]
    dsimp only
    rw [e13]
    unfold fX5_drop
    rw [e71, f2]
    refine ok_f (by omega) (ok_gd ⟨by omega, by omega⟩ (ok_bnd (fun M5 e5 => ok_some ?_)))
    have a5 : ∀ j, M5 71 j = if j = 10 then nF (mB M) - 1 else M 71 j := fun j => by rw [e5, up_at, e71]
    have bo : ∀ a, a ≠ 71 → M5 a = M3 a := fun a h1 => by rw [e5, up_row h1]
    have c2 : mB M5 = dD (mB M) := by
      show ((M5 71 2, M5 71 6, M5 71 10), M5 72, M5 73, M5 74, M5 75, M5 76, M5 77, M5 78, M5 79) = _
      rw [a5, a5, a5, if_neg (by decide), if_neg (by decide), if_pos rfl, bo 72 (by decide), bo 73 (by decide), bo 74 (by decide), bo 75 (by decide), bo 76 (by decide), bo 77 (by decide), bo 78 (by decide), bo 79 (by decide), b1 72 (by omega), b1 73 (by omega), b1 74 (by omega), b1 75 (by omega), b1 76 (by omega), b1 77 (by omega), b1 78 (by omega), b1 79 (by omega)]
      rfl
    rw [a5, if_pos rfl]
    refine ⟨rfl, Inv_mk (M' := M5) hI (fun a ha => by rw [bo a (by omega), b1 a (by omega)]) (by rw [c2]; exact hW') ?_ ?_⟩
    · rw [c2]; exact CL_frame (fun a g1 g2 => bo a (by omega)) b2
    · exact Zr_of hZ c2 (fun j => ⟨fun _ => ⟨rfl, rfl⟩, fun _ => ⟨rfl, rfl, rfl⟩, fun _ => rfl, fun _ => ⟨rfl, rfl⟩⟩)
  · show OK (fX5_drop M) (fun q => (-5 : Int) = q.1 ∧ Inv q.2)
    unfold fX5_drop
    exact ok_t (by omega) (ok_some ⟨rfl, hI⟩)
theorem q_told (hI : Inv M) (x : Int) (hx : inR x) : OK (fX4_told M x) (fun r => OK (fX5_told M x) (fun q => r = q)) := by
  obtain ⟨hW, hCL, -⟩ := id hI
  obtain ⟨hC, hru, ⟨t1, t2, -, -⟩, -⟩ := CL_2 hCL
  obtain ⟨c1, c2, c3, c4, -⟩ := id hC
  obtain ⟨x1, x2⟩ := hx
  have n12 := hW.1.1
  have n20 := hW.1.2.1
  have n16 := hW.2.2.1
  have e2 : M 71 2 = nC (mB M) := rfl
  have e6 : M 71 6 = nR (mB M) := rfl
  have e10 : M 71 10 = nF (mB M) := rfl
  have e72 : ∀ j, M 72 j = cx (mB M) j := fun _ => rfl
  have e73 : ∀ j, M 73 j = cy (mB M) j := fun _ => rfl
  have e74 : ∀ j, M 74 j = rf (mB M) j := fun _ => rfl
  have e75 : ∀ j, M 75 j = rl (mB M) j := fun _ => rfl
  have e76 : ∀ j, M 76 j = rw' (mB M) j := fun _ => rfl
  have e77 : ∀ j, M 77 j = ru (mB M) j := fun _ => rfl
  have e78 : ∀ j, M 78 j = fx (mB M) j := fun _ => rfl
  have e79 : ∀ j, M 79 j = fy (mB M) j := fun _ => rfl
  unfold fX4_told
  refine ok_if (fun z => ok_bnd (fun t ht => ?_)) (fun z => ok_some ?_)
  · rw [Int.tmod_eq_emod_of_nonneg z] at ht
    rw [Int.tdiv_eq_ediv_of_nonneg z]
    refine ok_if (fun z0 => ?_) (fun z0 => ok_if (fun z1 => ?_) (fun z1 => ok_if (fun z2 => ?_) (fun z2 => ok_if (fun z3 => ?_) (fun z3 => ok_some ?_))))
    · have et : t = x := by omega
      subst et
      have hm : ∀ r : Int, (t = 0 → r = nC (mB M)) → (t = 1 → r = nR (mB M)) → (t = 2 → r = nF (mB M)) → ((3 ≤ t ∧ t ≤ 6) → r = ru (mB M) (t - 3).toNat) → (6 < t → r = -2) → OK (fX5_told M t) (fun q => r = q) := by
        intro r k0 k1 k2 k3 k4
        unfold fX5_told
        rw [e2, e6, e10]
        refine ok_t (by omega) (ok_t (by omega) (ok_t (by omega) (ok_if (fun w => ok_some (k0 w)) (fun w0 => ok_if (fun w => ok_some (k1 w)) (fun w1 => ok_if (fun w => ok_some (k2 w)) (fun w2 => ok_cal (k_in M t 3 6) (fun r1 h1 => ok_if (fun q => ok_some (k4 ?_)) (fun q => ?_))))))))
        · have := yes_f h1 q; omega
        · have := yes_t h1 q
          rw [e77]
          exact ok_gd ⟨⟨by omega, by omega⟩, by omega⟩ (ok_some (k3 this))
      have hc : OK (fX4_tellCount M t) (fun r => OK (fX5_told M t) (fun q => r = q)) := by
        unfold fX4_tellCount
        rw [c1, c2, t1]
        refine ok_if (fun w => ok_some (hm _ (fun _ => rfl) (fun _ => by omega) (fun _ => by omega) (fun _ => by omega) (fun _ => by omega))) (fun w0 => ok_if (fun w => ok_some (hm _ (fun _ => by omega) (fun _ => rfl) (fun _ => by omega) (fun _ => by omega) (fun _ => by omega))) (fun w1 => ok_if (fun w => ok_some (hm _ (fun _ => by omega) (fun _ => by omega) (fun _ => rfl) (fun _ => by omega) (fun _ => by omega))) (fun w2 => ok_gd ⟨by omega, by omega⟩ ?_)))
        have hr : OK (fX1_tellRule M (t - 3)) (fun r => ((3 ≤ t ∧ t ≤ 6) → r = ru (mB M) (t - 3).toNat) ∧ (6 < t → r = -2)) := by
          unfold fX1_tellRule
          refine ok_jn (ok_if (fun w => by omega) (fun w => ok_if (fun w4 => ok_some ⟨fun _ => by omega, fun _ => rfl⟩) (fun w4 => ok_gd (by omega) (ok_some ⟨fun _ => hru (t - 3).toNat (by omega), fun _ => by omega⟩))))
        exact ok_cal hr (fun r h => ok_some (hm r (fun _ => by omega) (fun _ => by omega) (fun _ => by omega) h.1 h.2))
      exact ok_cal hc (fun r h => ok_some h)
    · have et : t = x - 100 := by omega
      have hm : ∀ r : Int, (¬ (0 ≤ t ∧ t < nC (mB M)) → r = -2) → ((0 ≤ t ∧ t < nC (mB M)) → r = 100 * cx (mB M) t.toNat + cy (mB M) t.toNat) → OK (fX5_told M x) (fun q => r = q) := by
        intro r k0 k1
        unfold fX5_told
        rw [← et]
        refine ok_t (by omega) (ok_t (by omega) (ok_f (by omega) (ok_gd ⟨by omega, by omega⟩ (ok_cal (k_isCrossing M t n12) (fun r1 h1 => ok_if (fun q => ok_some (k0 (yes_f h1 q))) (fun q => ?_))))))
        have h9 := yes_t h1 q
        have h9' : 0 ≤ t ∧ t < nC (mB M) := h9
        have hb := hW.1.2.2.1 t.toNat (by omega)
        rw [e72, e73]
        exact ok_gd ⟨by omega, ⟨by omega, by omega⟩, by omega, ⟨by omega, by omega⟩⟩ (ok_some (k1 h9'))
      have hc := k_hasCrossing M t
      rw [c1] at hc
      have ht2 : OK (fX0_tellCrossing M t) (fun r => OK (fX5_told M x) (fun q => r = q)) := by
        unfold fX0_tellCrossing
        refine ok_cal hc (fun r1 h1 => ok_if (fun q => ok_some (hm _ (fun _ => rfl) (fun h => absurd h (yes_f h1 q)))) (fun q => ?_))
        have h9 := yes_t h1 q
        have hb := hW.1.2.2.1 t.toNat (by omega)
        rw [(c3 t.toNat (by omega)).1, (c3 t.toNat (by omega)).2]
        exact ok_gd ⟨by omega, ⟨by omega, by omega⟩, by omega, ⟨by omega, by omega⟩⟩ (ok_some (hm _ (fun h => absurd h9 h) (fun _ => rfl)))
      exact ok_cal ht2 (fun r h => ok_some h)
    · have et : t = x - 200 := by omega
      have hm : ∀ r : Int, (¬ (0 ≤ t ∧ t < nR (mB M)) → r = -2) → ((0 ≤ t ∧ t < nR (mB M)) → r = 1000 * rf (mB M) t.toNat + 10 * rl (mB M) t.toNat + rw' (mB M) t.toNat) → OK (fX5_told M x) (fun q => r = q) := by
        intro r k0 k1
        unfold fX5_told
        rw [← et, e6]
        refine ok_t (by omega) (ok_f (by omega) (ok_gd ⟨⟨by omega, by omega⟩, ⟨by omega, by omega⟩⟩ (ok_cal (k_in M t 0 (nR (mB M) - 1)) (fun r1 h1 => ok_if (fun q => ok_some (k0 (fun h9 => yes_f h1 q (by omega)))) (fun q => ?_)))))
        have h9 := yes_t h1 q
        obtain ⟨b1, b2, -, -, b3⟩ := hW.1.2.2.2.2 t.toNat (by omega)
        rw [e74, e75, e76]
        exact ok_gd ⟨by omega, ⟨by omega, by omega⟩, by omega, ⟨by omega, by omega⟩, ⟨by omega, by omega⟩, by omega, ⟨by omega, by omega⟩⟩ (ok_some (k1 (by omega)))
      have hc := k_hasRoad M t
      rw [c2] at hc
      have ht2 : OK (fX0_tellRoad M t) (fun r => OK (fX5_told M x) (fun q => r = q)) := by
        unfold fX0_tellRoad
        refine ok_cal hc (fun r1 h1 => ok_if (fun q => ok_some (hm _ (fun _ => rfl) (fun h => absurd h (yes_f h1 q)))) (fun q => ?_))
        have h9 := yes_t h1 q
        obtain ⟨b1, b2, -, -, b3⟩ := hW.1.2.2.2.2 t.toNat (by omega)
        obtain ⟨g1, g2, g3, -⟩ := c4 t.toNat (by omega)
        rw [g1, g2, g3]
        exact ok_gd ⟨by omega, ⟨by omega, by omega⟩, by omega, ⟨by omega, by omega⟩, ⟨by omega, by omega⟩, by omega, ⟨by omega, by omega⟩⟩ (ok_some (hm _ (fun h => absurd h9 h) (fun _ => rfl)))
      exact ok_cal ht2 (fun r h => ok_some h)
    · have et : t = x - 300 := by omega
      have hm : ∀ r : Int, (¬ (0 ≤ t ∧ t < nF (mB M)) → r = -2) → ((0 ≤ t ∧ t < nF (mB M)) → r = 100 * fx (mB M) t.toNat + fy (mB M) t.toNat) → OK (fX5_told M x) (fun q => r = q) := by
        intro r k0 k1
        unfold fX5_told
        rw [← et]
        refine ok_f (by omega) (ok_gd ⟨by omega, by omega⟩ (ok_cal (m_isFix hW.2.2 t) (fun r1 h1 => ok_if (fun q => ok_some (k0 (yes_f h1 q))) (fun q => ?_))))
        have h9 := yes_t h1 q
        have hb := hW.2.2.2 t.toNat (by omega)
        rw [e78, e79]
        exact ok_gd ⟨by omega, ⟨by omega, by omega⟩, by omega, ⟨by omega, by omega⟩⟩ (ok_some (k1 h9))
      have ht2 : OK (fX3_tellFix M t) (fun r => OK (fX5_told M x) (fun q => r = q)) := by
        unfold fX3_tellFix
        refine ok_cal (c_hasFix hI t) (fun r1 h1 => ok_if (fun q => ok_some (hm _ (fun _ => rfl) (fun h => absurd h (yes_f h1 q)))) (fun q => ?_))
        have h9 := yes_t h1 q
        have hb := hW.2.2.2 t.toNat (by omega)
        rw [(t2 t.toNat (by omega)).1, (t2 t.toNat (by omega)).2]
        exact ok_gd ⟨by omega, ⟨by omega, by omega⟩, by omega, ⟨by omega, by omega⟩⟩ (ok_some (hm _ (fun h => absurd h9 h) (fun _ => rfl)))
      exact ok_cal ht2 (fun r h => ok_some h)
    · unfold fX5_told
      exact ok_f (by omega) (ok_gd ⟨by omega, by omega⟩ (ok_cal (m_isFix hW.2.2 (x - 300)) (fun r1 h1 => ok_if (fun q => ok_some rfl) (fun q => by have := yes_t h1 q; omega))))
  · unfold fX5_told
    exact ok_t (by omega) (ok_t (by omega) (ok_t (by omega) (ok_f (by omega) (ok_f (by omega) (ok_f (by omega) (ok_cal (k_in M x 3 6) (fun r1 h1 => ok_if (fun q => ok_some rfl) (fun q => by have := yes_t h1 q; omega))))))))
end FIXC
