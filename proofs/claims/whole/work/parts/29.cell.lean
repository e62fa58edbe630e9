/-! cells -/
def cellP (d : Dt) (u w : Int) (r : Nat) : Prop := (imin (cx d (rF d r)) (cx d (rL d r)) / 8 ≤ u ∧ u ≤ imax (cx d (rF d r)) (cx d (rL d r)) / 8) ∧ (imin (cy d (rF d r)) (cy d (rL d r)) / 8 ≤ w ∧ w ≤ imax (cy d (rF d r)) (cy d (rL d r)) / 8)
def anyP (d : Dt) (u w : Int) (r : Nat) (n : Int) : Prop := ∃ t : Int, 0 ≤ t ∧ t < n ∧ twd (cx d (rF d r)) (cx d (rL d r)) t / 8 = u ∧ twd (cy d (rF d r)) (cy d (rL d r)) t / 8 = w
theorem cel1 {a b t : Int} (h : 0 ≤ t ∧ t ≤ iabs (a - b)) : imin a b ≤ twd a b t ∧ twd a b t ≤ imax a b := by
  unfold twd imin imax iabs at *
  (repeat' split) <;> (try split at h) <;> omega
theorem cel2 {a b u : Int} (h : imin a b / 8 ≤ u ∧ u ≤ imax a b / 8) : ∃ t : Int, 0 ≤ t ∧ t ≤ iabs (a - b) ∧ twd a b t / 8 = u := by
  by_cases hab : a = b
  · refine ⟨0, by omega, ?_, ?_⟩
    · unfold iabs; split <;> omega
    · unfold imin imax at h
      unfold twd
      rw [if_pos hab]
      (repeat' split at h) <;> omega
  · by_cases h2 : b ≤ a
    · unfold imin imax at h
      by_cases h3 : b < a
      · rw [if_pos h3, if_neg (by omega)] at h
        by_cases h4 : b ≤ 8 * u
        · by_cases h5 : 8 * u ≤ a
          · refine ⟨a - 8 * u, by omega, by unfold iabs; split <;> omega, ?_⟩
            unfold twd; rw [if_neg hab, if_pos h2]; omega
          · omega
        · refine ⟨a - b, by omega, by unfold iabs; split <;> omega, ?_⟩
          unfold twd; rw [if_neg hab, if_pos h2]; omega
      · omega
    · unfold imin imax at h
      rw [if_neg (by omega), if_pos (by omega)] at h
      by_cases h4 : a ≤ 8 * u
      · refine ⟨8 * u - a, by omega, by unfold iabs; split <;> omega, ?_⟩
        unfold twd; rw [if_neg hab, if_neg h2]; omega
      · refine ⟨0, by omega, by unfold iabs; split <;> omega, ?_⟩
        unfold twd; rw [if_neg hab, if_neg h2]; omega
theorem im_self (a : Int) : imin a a = a ∧ imax a a = a := by unfold imin imax; constructor <;> split <;> rfl
theorem cellany {d : Dt} (hN : WN d) {r : Nat} (hr : (r : Int) < nR d) (u w : Int) : anyP d u w r (len d r + 1) ↔ cellP d u w r := by
  obtain ⟨-, -, -, hrow, -⟩ := hN.2.2.2.2 r hr
  unfold anyP cellP len
  generalize cx d (rF d r) = a at *
  generalize cx d (rL d r) = b at *
  generalize cy d (rF d r) = p at *
  generalize cy d (rL d r) = q at *
  have nn1 := iabs_nn (a - b)
  have nn2 := iabs_nn (p - q)
  rcases hrow with h | h
  · subst h
    have e0 : iabs (a - a) = 0 := by rw [Int.sub_self]; rfl
    obtain ⟨m1, m2⟩ := im_self a
    rw [e0, m1, m2]
    constructor
    · rintro ⟨t, h1, h2, h3, h4⟩
      have c := cel1 (a := p) (b := q) (t := t) (by omega)
      rw [(geo0 (a := a) (t := t) (x := 0)).1] at h3
      omega
    · rintro ⟨h1, h2⟩
      obtain ⟨t, g1, g2, g3⟩ := cel2 h2
      exact ⟨t, g1, by omega, by rw [(geo0 (a := a) (t := t) (x := 0)).1]; omega, g3⟩
  · subst h
    have e0 : iabs (p - p) = 0 := by rw [Int.sub_self]; rfl
    obtain ⟨m1, m2⟩ := im_self p
    rw [e0, m1, m2]
    constructor
    · rintro ⟨t, h1, h2, h3, h4⟩
      have c := cel1 (a := a) (b := b) (t := t) (by omega)
      rw [(geo0 (a := p) (t := t) (x := 0)).1] at h4
      omega
    · rintro ⟨h1, h2⟩
      obtain ⟨t, g1, g2, g3⟩ := cel2 h1
      exact ⟨t, g1, by omega, g3, by rw [(geo0 (a := p) (t := t) (x := 0)).1]; omega⟩
/-- how many roads before n are in the cell -/
def inCell (d : Dt) (u w : Int) (n : Int) (c : Int) : Prop := ∃ p : Nat → Bool, (∀ r : Nat, p r = true ↔ cellP d u w r) ∧ c = (cN p n.toNat : Nat)
theorem k_spans (M : Mm) {a b c : Int} (ha : 0 ≤ a ∧ a ≤ 63) (hb : 0 ≤ b ∧ b ≤ 63) : OK (fX0_spans M a b c) (fun r => yes r (imin a b / 8 ≤ c ∧ c ≤ imax a b / 8)) := by
  have h1 : 0 ≤ imin a b := by unfold imin; split <;> omega
  have h2 : 0 ≤ imax a b := by unfold imax; split <;> omega
  unfold fX0_spans
  rw [Int.tdiv_eq_ediv_of_nonneg h1, Int.tdiv_eq_ediv_of_nonneg h2]
  refine ok_jn (ok_if (fun h => ok_some (Or.inr ⟨rfl, fun h9 => ?_⟩)) (fun h => ok_if (fun h3 => ok_some (Or.inr ⟨rfl, fun h9 => ?_⟩)) (fun h3 => ok_some (Or.inl ⟨rfl, ?_⟩))))
  · have := h9.1; omega
  · have := h9.2; omega
  · exact ⟨by omega, by omega⟩
def cellB (d : Dt) (u w : Int) (r : Nat) : Bool := decide ((imin (cx d (rF d r)) (cx d (rL d r)) / 8 ≤ u ∧ u ≤ imax (cx d (rF d r)) (cx d (rL d r)) / 8) ∧ (imin (cy d (rF d r)) (cy d (rL d r)) / 8 ≤ w ∧ w ≤ imax (cy d (rF d r)) (cy d (rL d r)) / 8))
theorem cellB_i (d : Dt) (u w : Int) (r : Nat) : cellB d u w r = true ↔ cellP d u w r := by unfold cellB cellP; exact decide_eq_true_iff
theorem cN_succ (p : Nat → Bool) (n : Nat) : cN p (n + 1) = cN p n + (if p n then 1 else 0) := rfl
theorem k_roadsInCellL {M : Mm} {d : Dt} (hN : WN d) (hC : CN (M 3) (M 4) (M 5) (M 6) (M 7) (M 8) (M 9) (M 10) d) (u w : Int) : ∀ (n : Nat) (c v : Int), 0 ≤ v → v ≤ nR d → 20 < (n : Int) + v → c = ((cN (cellB d u w) v.toNat : Nat) : Int) → OK (fX0_roadsInCell_L5 u w M n c v) (fun r => r = ((cN (cellB d u w) (nR d).toNat : Nat) : Int)) := by
  have n1 := hN.2.1
  intro n
  induction n with
  | zero => intro c v h0 h1 h2; omega
  | succ n ih =>
    intro c v h0 h1 h2 h3
    have cb := cN_le (cellB d u w) v.toNat
    unfold fX0_roadsInCell_L5
    have e2 := hC.2.1
    refine ok_if (fun h => ok_some ?_) (fun h => ?_)
    · have : v = nR d := by omega
      rw [← this]; exact h3
    · have hr : ((v.toNat : Nat) : Int) < nR d := by omega
      have f1 := rF_lt hN hr
      have f2 := rL_lt hN hr
      have b1 := hN.2.2.1 _ f1.2.2
      have b2 := hN.2.2.1 _ f2.2.2
      have c4 := hC.2.2.2.1 _ hr
      have x1 := hC.2.2.1 _ f1.2.2
      have x2 := hC.2.2.1 _ f2.2.2
      have i1 : (M 6 v.toNat).toNat = rF d v.toNat := by rw [c4.1]; rfl
      have i2 : (M 7 v.toNat).toNat = rL d v.toNat := by rw [c4.2.1]; rfl
      rw [i1, i2, x1.1, x2.1, x1.2, x2.2]
      have e5 : (v + 1).toNat = v.toNat + 1 := by omega
      have no : ¬ cellP d u w v.toNat → OK (gd (inR (v + 1)) (fX0_roadsInCell_L5 u w M n c (v + 1))) (fun r => r = ((cN (cellB d u w) (nR d).toNat : Nat) : Int)) := by
        intro hn
        refine ok_gd (by omega) (ih c (v + 1) (by omega) (by omega) (by omega) ?_)
        rw [e5, cN_succ, if_neg (fun h9 => hn ((cellB_i d u w _).mp h9))]
        exact h3
      refine ok_jn (ok_gd (by rw [c4.1, c4.2.1]; omega) (ok_cal (k_spans M b1.1 b2.1) (fun r7 h7 => ?_)))
      refine ok_if (fun h8 => no (fun h9 => yes_f h7 h8 h9.1)) (fun h8 => ok_gd (by rw [c4.1, c4.2.1]; omega) (ok_cal (k_spans M b1.2 b2.2) (fun r8 h9 => ?_)))
      refine ok_if (fun h10 => no (fun h11 => yes_f h9 h10 h11.2)) (fun h10 => ok_gd (by omega) (ok_gd (by omega) (ih (c + 1) (v + 1) (by omega) (by omega) (by omega) ?_)))
      rw [e5, cN_succ, if_pos ((cellB_i d u w _).mpr ⟨yes_t h7 h8, yes_t h9 h10⟩)]
      omega
theorem k_cellL43 {M : Mm} (hN : WN (mB M)) (u w : Int) (k : Int → Int → Int → Option Int) (P : Int → Prop) {v c : Int} (hv : 0 ≤ v ∧ v < nR (mB M)) (hk : ∀ a, yes a (cellP (mB M) u w v.toNat) → OK (k c v a) P) : ∀ (n : Nat) (a t : Int), 0 ≤ t → t ≤ len (mB M) v.toNat + 1 → 64 < (n : Int) + t → yes a (anyP (mB M) u w v.toNat t) → OK (fX5_cell_L43 u w M k n c v a t) P := by
  have hr : ((v.toNat : Nat) : Int) < nR (mB M) := by omega
  have hl := len_b hN hr
  have f1 := rF_lt hN hr
  have f2 := rL_lt hN hr
  have b1 := hN.2.2.1 _ f1.2.2
  have b2 := hN.2.2.1 _ f2.2.2
  intro n
  induction n with
  | zero => intro a t h0 h1 h2; omega
  | succ n ih =>
    intro a t h0 h1 h2 h3
    unfold fX5_cell_L43
    refine ok_cal (k_length M hN v hv) (fun r e => ?_)
    refine ok_if (fun h => ?_) (fun h => ?_)
    · have : t = len (mB M) v.toNat + 1 := by omega
      rw [this] at h3
      refine hk a ?_
      rcases h3 with h3 | h3
      · exact Or.inl ⟨h3.1, (cellany hN hr u w).mp h3.2⟩
      · exact Or.inr ⟨h3.1, fun h9 => h3.2 ((cellany hN hr u w).mpr h9)⟩
    · have nxt : ∀ w2, yes w2 (anyP (mB M) u w v.toNat (t + 1)) → OK (gd (inR (t + 1)) (fX5_cell_L43 u w M k n c v w2 (t + 1))) P := fun w2 hw => ok_gd (by omega) (ih w2 (t + 1) (by omega) (by omega) (by omega) hw)
      have xy := k_spotXY hN hv (t := t) (by omega)
      -- the places are not negative
      have ll : len (mB M) v.toNat = iabs (cx (mB M) (rF (mB M) v.toNat) - cx (mB M) (rL (mB M) v.toNat)) + iabs (cy (mB M) (rF (mB M) v.toNat) - cy (mB M) (rL (mB M) v.toNat)) := rfl
      have rowc := (hN.2.2.2.2 _ hr).2.2.2.1
      have px : 0 ≤ twd (cx (mB M) (rF (mB M) v.toNat)) (cx (mB M) (rL (mB M) v.toNat)) t ∧ 0 ≤ twd (cy (mB M) (rF (mB M) v.toNat)) (cy (mB M) (rL (mB M) v.toNat)) t := by
        generalize cx (mB M) (rF (mB M) v.toNat) = a1 at *
        generalize cx (mB M) (rL (mB M) v.toNat) = a2 at *
        generalize cy (mB M) (rF (mB M) v.toNat) = a3 at *
        generalize cy (mB M) (rL (mB M) v.toNat) = a4 at *
        unfold iabs at ll
        unfold twd
        rcases rowc with h9 | h9
        · (repeat' split) <;> (try split at ll) <;> (try split at ll) <;> omega
        · (repeat' split) <;> (try split at ll) <;> (try split at ll) <;> omega
      have old : anyP (mB M) u w v.toNat t → anyP (mB M) u w v.toNat (t + 1) := fun ⟨x, q1, q2, q3⟩ => ⟨x, q1, by omega, q3⟩
      refine ok_jn (ok_jn ?_)
      refine ok_if (fun h5 => ok_jn ?_) (fun h5 => nxt 1 (Or.inl ⟨rfl, old (yes_t h3 h5)⟩))
      have hno := yes_f h3 h5
      have no : ¬ (twd (cx (mB M) (rF (mB M) v.toNat)) (cx (mB M) (rL (mB M) v.toNat)) t / 8 = u ∧ twd (cy (mB M) (rF (mB M) v.toNat)) (cy (mB M) (rL (mB M) v.toNat)) t / 8 = w) → yes 0 (anyP (mB M) u w v.toNat (t + 1)) := by
        intro hn
        refine Or.inr ⟨rfl, ?_⟩
        rintro ⟨x, q1, q2, q3⟩
        by_cases hxt : x = t
        · rw [hxt] at q3; exact hn q3
        · exact hno ⟨x, q1, by omega, q3⟩
      refine ok_cal xy.1 (fun r1 e1 => ?_)
      rw [e1, Int.tdiv_eq_ediv_of_nonneg px.1]
      refine ok_if (fun h6 => ?_) (fun h6 => nxt 0 (no (fun h9 => h6 h9.1)))
      refine ok_cal xy.2 (fun r2 e2 => ?_)
      rw [e2, Int.tdiv_eq_ediv_of_nonneg px.2]
      exact ok_if (fun h7 => nxt 1 (Or.inl ⟨rfl, t, h0, by omega, h6, h7⟩)) (fun h7 => nxt 0 (no (fun h9 => h7 h9.2)))
theorem k_cellL28 {M : Mm} (hN : WN (mB M)) (u w : Int) : ∀ (n : Nat) (c v : Int), 0 ≤ v → v ≤ nR (mB M) → 20 < (n : Int) + v → c = ((cN (cellB (mB M) u w) v.toNat : Nat) : Int) → OK (fX5_cell_L28 u w M n c v) (fun r => r = ((cN (cellB (mB M) u w) (nR (mB M)).toNat : Nat) : Int)) := by
  have n1 := hN.2.1
  intro n
  induction n with
  | zero => intro c v h0 h1 h2; omega
  | succ n ih =>
    intro c v h0 h1 h2 h3
    have cb := cN_le (cellB (mB M) u w) v.toNat
    unfold fX5_cell_L28
    have e2 : M 71 6 = nR (mB M) := rfl
    refine ok_if (fun h => ok_some ?_) (fun h => ?_)
    · have : v = nR (mB M) := by omega
      rw [← this]; exact h3
    · have e5 : (v + 1).toNat = v.toNat + 1 := by omega
      have hr : ((v.toNat : Nat) : Int) < nR (mB M) := by omega
      have hl := len_b hN hr
      refine k_cellL43 hN u w _ _ (c := c) ⟨h0, by omega⟩ (fun a ha => ?_) 1000 0 0 (by omega) (by omega) (by omega) (Or.inr ⟨rfl, fun ⟨t, q1, q2, _⟩ => by omega⟩)
      refine ok_jn (ok_if (fun h5 => ok_gd (by omega) ?_) (fun h5 => ok_gd (by omega) ?_))
      · refine ih _ (v + 1) (by omega) (by omega) (by omega) ?_
        rw [e5, cN_succ, if_neg (fun h9 => yes_f ha h5 ((cellB_i _ u w _).mp h9))]
        omega
      · refine ih _ (v + 1) (by omega) (by omega) (by omega) ?_
        rw [e5, cN_succ, if_pos ((cellB_i _ u w _).mpr (yes_t ha h5))]
        omega
