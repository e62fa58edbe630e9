theorem lenAB_b {d : Dt} (hN : WN d) {a b : Nat} (ha : (a : Int) < nC d) (hb : (b : Int) < nC d) (hab : a ≠ b) (hrow : cx d a = cx d b ∨ cy d a = cy d b) : 1 ≤ lenAB d a b ∧ lenAB d a b ≤ 63 := by
  have h1 := hN.2.2.1 a ha
  have h2 := hN.2.2.1 b hb
  have h3 : ¬ (cx d a = cx d b ∧ cy d a = cy d b) := fun h => hab (hN.2.2.2.1 a b ha hb h.1 h.2)
  unfold lenAB iabs
  split <;> split <;> omega
theorem DM_sym {d : Dt} {a b : Nat} : lenAB d a b = lenAB d b a := by
  unfold lenAB iabs
  (repeat' split) <;> omega
theorem k_addRoad (M : Mm) (d : Dt) (hN : WN d) (hC : CN (M 3) (M 4) (M 5) (M 6) (M 7) (M 8) (M 9) (M 10) d) (a b w : Int) (hr : nR d < 20) (ha : 0 ≤ a ∧ a < nC d) (hb : 0 ≤ b ∧ b < nC d) (hab : a ≠ b) (hrow : cx d a.toNat = cx d b.toNat ∨ cy d a.toNat = cy d b.toNat) (hw : w = 0 ∨ w = 1) :
    OK (fX0_addRoad M a b w) (fun M' => (∀ c, c ≠ 3 → c ≠ 6 → c ≠ 7 → c ≠ 8 → c ≠ 9 → c ≠ 10 → M' c = M c) ∧ M' 3 1 = nR d + 1 ∧ CN (M' 3) (M' 4) (M' 5) (M' 6) (M' 7) (M' 8) (M' 9) (M' 10) (dR d a b w)) := by
  have hN2 := dR_WN hN hr ha hb hab hrow hw
  have sm := CN_small hN hC
  obtain ⟨c1, c2, c3, c4, c5⟩ := hC
  have n0 := hN.1
  have n1 := hN.2.1
  have xa := c3 a.toNat (by omega)
  have xb := c3 b.toNat (by omega)
  have ba := hN.2.2.1 a.toNat (by omega)
  have bb := hN.2.2.1 b.toNat (by omega)
  have hab2 : a.toNat ≠ b.toNat := by omega
  have hlb := lenAB_b hN (a := a.toNat) (b := b.toNat) (by omega) (by omega) hab2 hrow
  unfold fX0_addRoad
  refine ok_f (by omega) ?_
  refine ok_cal (k_hasCrossing M a) (fun r1 h1 => ok_f (fun h => yes_f h1 h (by omega)) ?_)
  refine ok_cal (k_hasCrossing M b) (fun r2 h2 => ok_f (fun h => yes_f h2 h (by omega)) ?_)
  rw [xa.1, xb.1, xa.2, xb.2]
  have hx := hlb
  unfold lenAB at hx
  refine ok_gd (by omega) (ok_gd (by omega) (ok_gd (by omega) (ok_bnd (fun t ht => ?_))))
  have ht2 : t = lenAB d a.toNat b.toNat := ht
  clear ht hx
  refine ok_gd (by omega) (ok_bnd (fun M6 e6 => ?_))
  have r6 : M6 3 1 = nR d := by rw [e6, up_row (by decide)]; exact c2
  refine ok_gd (by omega) (ok_bnd (fun M7 e7 => ?_))
  have r7 : M7 3 1 = nR d := by rw [e7, up_row (by decide)]; exact r6
  refine ok_gd (by omega) (ok_bnd (fun M8 e8 => ?_))
  have r8 : M8 3 1 = nR d := by rw [e8, up_row (by decide)]; exact r7
  refine ok_gd (by omega) (ok_bnd (fun M9 e9 => ?_))
  have r9 : M9 3 1 = nR d := by rw [e9, up_row (by decide)]; exact r8
  refine ok_gd (by omega) (ok_bnd (fun Ma ea => ?_))
  rw [c2] at e6
  rw [r6] at e7
  rw [r7] at e8
  rw [r8] at e9
  rw [r9] at ea
  have oth : ∀ c, c ≠ 3 → c ≠ 6 → c ≠ 7 → c ≠ 8 → c ≠ 9 → Ma c = M c := fun c g3 g6 g7 g8 g9 => by rw [ea, up_row g3, e9, up_row g9, e8, up_row g8, e7, up_row g7, e6, up_row g6]
  have a3 : Ma 3 = uf (M 3) 1 (nR d + 1) := by
    rw [ea]
    funext j
    rw [up_at, e9, up_row (by decide), e8, up_row (by decide), e7, up_row (by decide), e6, up_row (by decide)]
    rfl
  have a6 : Ma 6 = uf (M 6) (nR d).toNat a := by
    rw [ea, up_row (by decide), e9, up_row (by decide), e8, up_row (by decide), e7, up_row (by decide), e6]
    funext j; rw [up_at]; rfl
  have a7 : Ma 7 = uf (M 7) (nR d).toNat b := by
    rw [ea, up_row (by decide), e9, up_row (by decide), e8, up_row (by decide), e7]
    funext j; rw [up_at, e6, up_row (by decide)]; rfl
  have a8 : Ma 8 = uf (M 8) (nR d).toNat w := by
    rw [ea, up_row (by decide), e9, up_row (by decide), e8]
    funext j; rw [up_at, e7, up_row (by decide), e6, up_row (by decide)]; rfl
  have a9 : Ma 9 = uf (M 9) (nR d).toNat t := by
    rw [ea, up_row (by decide), e9]
    funext j; rw [up_at, e8, up_row (by decide), e7, up_row (by decide), e6, up_row (by decide)]; rfl
  have a10 : Ma 10 = M 10 := oth 10 (by decide) (by decide) (by decide) (by decide) (by decide)
  have a30 : Ma 3 0 = nC d := by rw [a3]; exact c1
  -- what is the same whichever way the road goes
  have fin : ∀ M' : Mm, (∀ c, c ≠ 10 → M' c = Ma c) → DM (nC d) (eg (dR d a b w)) (fun i j => M' 10 (12 * i + j)) → (∀ c, c ≠ 3 → c ≠ 6 → c ≠ 7 → c ≠ 8 → c ≠ 9 → c ≠ 10 → M' c = M c) ∧ M' 3 1 = nR d + 1 ∧ CN (M' 3) (M' 4) (M' 5) (M' 6) (M' 7) (M' 8) (M' 9) (M' 10) (dR d a b w) := by
    intro M' q1 q2
    refine ⟨fun c g3 g6 g7 g8 g9 g10 => by rw [q1 c g10, oth c g3 g6 g7 g8 g9], by rw [q1 3 (by decide), a3]; rfl, by rw [q1 3 (by decide), a3]; exact c1, by rw [q1 3 (by decide), a3]; rfl, fun j hj => ?_, fun r hr2 => ?_, q2⟩
    · rw [q1 4 (by decide), q1 5 (by decide), oth 4 (by decide) (by decide) (by decide) (by decide) (by decide), oth 5 (by decide) (by decide) (by decide) (by decide) (by decide)]
      exact c3 j hj
    · rw [q1 6 (by decide), q1 7 (by decide), q1 8 (by decide), q1 9 (by decide), a6, a7, a8, a9]
      have hb2 : (r : Int) < nR d ∨ r = (nR d).toNat := by have : (r : Int) < nR d + 1 := hr2; omega
      rcases hb2 with h | h
      · obtain ⟨o1, o2, o3, o4⟩ := dR_old (a := a) (b := b) (w := w) h
        have n : r ≠ (nR d).toNat := by omega
        unfold uf
        rw [if_neg n, if_neg n, if_neg n, if_neg n, o1, o2, o3, o4]
        exact c4 r h
      · obtain ⟨o1, o2, o3, o4⟩ := dR_new (d := d) (a := a) (b := b) (w := w)
        rw [h, o1, o2, o3, o4]
        unfold uf
        rw [if_pos rfl, if_pos rfl, if_pos rfl, if_pos rfl]
        exact ⟨rfl, rfl, rfl, ht2⟩
  have hE := eg_b hN
  have hEq := dR_eg (d := d) (a := a) (b := b) (w := w) n1.1 hw
  refine ok_cal (k_shortenBy a b t Ma (nC d) n0 ha hb (by omega) (by rw [a10]; exact sm) a30) (fun Mb hb1 => ?_)
  have d1 : DM (nC d) (addE (eg d) a.toNat b.toNat (lenAB d a.toNat b.toNat)) (fun i j => Mb 10 (12 * i + j)) := by
    refine DM_add hE c5 (by omega) (by omega) hlb (fun i j hi hj => ?_)
    rw [hb1.2 i j hi hj, a10, ht2]
  refine ok_if (fun hw0 => ?_) (fun hw0 => ?_)
  · have hE2 := addE_b hE (a := a.toNat) (b := b.toNat) (l := lenAB d a.toNat b.toNat) (by omega) (by omega) hlb
    refine ok_cal (k_shortenBy b a t Mb (nC d) n0 hb ha (by omega) (fun p q hp hq => DM_b hE2 d1 hp hq) (by rw [hb1.1 3 (by decide)]; exact a30)) (fun Mc hc1 => ok_some ?_)
    refine fin Mc (fun c hc => by rw [hc1.1 c hc, hb1.1 c hc]) ?_
    rw [hEq, if_pos hw0]
    refine DM_add hE2 d1 (by omega) (by omega) hlb (fun i j hi hj => ?_)
    rw [hc1.2 i j hi hj, ht2]
  · refine ok_some (fin Mb hb1.1 ?_)
    rw [hEq, if_neg hw0]
    exact d1
