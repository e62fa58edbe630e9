/-! the class's net, and the reference's calls that add to it -/
theorem ok_some {α : Type} {a : α} {P : α → Prop} (h : P a) : OK (some a) P := h
def yes (r : Int) (C : Prop) : Prop := (r = 1 ∧ C) ∨ (r = 0 ∧ ¬ C)
theorem k_hasCrossing (M : Mm) (x : Int) : OK (fX0_hasCrossing M x) (fun r => yes r (0 ≤ x ∧ x < M 3 0)) := by
  unfold fX0_hasCrossing jn yes
  (repeat' refine ok_if (fun _ => ?_) (fun _ => ?_)) <;> (refine ok_some ?_; omega)
theorem k_hasRoad (M : Mm) (x : Int) : OK (fX0_hasRoad M x) (fun r => yes r (0 ≤ x ∧ x < M 3 1)) := by
  unfold fX0_hasRoad jn yes
  (repeat' refine ok_if (fun _ => ?_) (fun _ => ?_)) <;> (refine ok_some ?_; omega)
theorem k_isPlace (M : Mm) (x y : Int) : OK (fX4_isPlace M x y) (fun r => yes r ((0 ≤ x ∧ x ≤ 63) ∧ (0 ≤ y ∧ y ≤ 63))) := by
  unfold fX4_isPlace jn yes
  (repeat' refine ok_if (fun _ => ?_) (fun _ => ?_)) <;> (refine ok_some ?_; omega)
theorem k_in (M : Mm) (x a b : Int) : OK (fX5_in M x a b) (fun r => yes r (a ≤ x ∧ x ≤ b)) := by
  unfold fX5_in jn yes
  (repeat' refine ok_if (fun _ => ?_) (fun _ => ?_)) <;> (refine ok_some ?_; omega)
theorem k_isCrossing (M : Mm) (x : Int) (h : 0 ≤ M 71 2 ∧ M 71 2 ≤ 12) : OK (fX5_isCrossing M x) (fun r => yes r (0 ≤ x ∧ x < M 71 2)) := by
  unfold fX5_isCrossing
  refine ok_gd (by omega) (ok_cal (k_in M x 0 (M 71 2 - 1)) (fun r hr => ?_))
  unfold yes at hr ⊢
  refine ok_gd (by omega) (ok_some ?_)
  omega
theorem k_pair (M : Mm) {i j : Int} (hi : 0 ≤ i ∧ i < 12) (hj : 0 ≤ j ∧ j < 12) : OK (fX0_pair M i j) (fun r => r = i * 12 + j ∧ 0 ≤ r ∧ r < 144) := by
  unfold fX0_pair
  refine ok_gd (by omega) (ok_some ?_)
  omega
/-- whether a crossing lies there -/
def taken (n : Int) (X Y : Nat → Int) (x y : Int) : Prop := ∃ j : Nat, (j : Int) < n ∧ X j = x ∧ Y j = y
theorem k_isTakenL (M : Mm) (x y : Int) (hn : M 3 0 ≤ 12) : ∀ (n : Nat) (v : Int), 0 ≤ v → v ≤ 12 → 12 < (n : Int) + v → (∀ j : Nat, (j : Int) < v → ¬ (M 4 j = x ∧ M 5 j = y)) → OK (fX0_isTaken_L2 x y M n v) (fun r => yes r (taken (M 3 0) (M 4) (M 5) x y)) := by
  intro n
  induction n with
  | zero =>
    intro v h0 h1 h2
    omega
  | succ n ih =>
    intro v h0 h1 h2 h3
    unfold fX0_isTaken_L2 jn
    refine ok_if (fun h => ?_) (fun h => ?_)
    · refine ok_some (Or.inr ⟨rfl, ?_⟩)
      rintro ⟨j, h4, h5⟩
      exact h3 j (by omega) h5
    · have hnext : ¬ (M 4 v.toNat = x ∧ M 5 v.toNat = y) → OK (gd (inR (v + 1)) (fX0_isTaken_L2 x y M n (v + 1))) (fun r => yes r (taken (M 3 0) (M 4) (M 5) x y)) := by
        intro h5
        refine ok_gd (by omega) ?_
        refine ih (v + 1) (by omega) (by omega) (by omega) (fun j hj => ?_)
        by_cases hji : j = v.toNat
        · rw [hji]; exact h5
        · exact h3 j (by omega)
      refine ok_gd (by omega) ?_
      refine ok_if (fun h4 => ?_) (fun h4 => hnext (fun h5 => h4 h5.1))
      refine ok_gd (by omega) ?_
      refine ok_if (fun h5 => ?_) (fun h5 => hnext (fun h6 => h5 h6.2))
      exact ok_some (Or.inl ⟨rfl, v.toNat, by omega, h4, h5⟩)
theorem k_isTaken (M : Mm) (x y : Int) (hn : M 3 0 ≤ 12) : OK (fX0_isTaken M x y) (fun r => yes r (taken (M 3 0) (M 4) (M 5) x y)) := by
  unfold fX0_isTaken
  exact k_isTakenL M x y hn 1000 0 (by omega) (by omega) (by omega) (fun j hj => by omega)
/-- a new crossing: its row and column -/
theorem k_addCrossingL (x y : Int) (k : Int → Mm → Option Mm) (P : Mm → Prop) (a : Int) (ha : 0 ≤ a ∧ a < 12) (M : Mm) (hk : ∀ M', (∀ c, c ≠ 10 → M' c = M c) → (∀ p q : Nat, p < 12 → q < 12 → M' 10 (12 * p + q) = if ((p : Int) < a ∧ (q : Int) = a) ∨ ((p : Int) = a ∧ (q : Int) < a) then -6 else M 10 (12 * p + q)) → OK (k a M') P) :
    ∀ (n : Nat) (v : Int) (M1 : Mm), 0 ≤ v → 12 < (n : Int) + v → v ≤ a → (∀ c, c ≠ 10 → M1 c = M c) → (∀ p q : Nat, p < 12 → q < 12 → M1 10 (12 * p + q) = if ((p : Int) < v ∧ (q : Int) = a) ∨ ((p : Int) = a ∧ (q : Int) < v) then -6 else M 10 (12 * p + q)) → OK (fX0_addCrossing_L32 x y k n a v M1) P := by
  intro n
  induction n with
  | zero => intro v M1 h0 h1 h2; omega
  | succ n ih =>
    intro v M1 h0 h1 h2 h3 h4
    unfold fX0_addCrossing_L32
    refine ok_if (fun h => ?_) (fun h => ?_)
    · have : v = a := by omega
      subst this
      exact hk M1 h3 h4
    · refine ok_cal (k_pair M1 (i := v) (j := a) (by omega) ha) (fun r hr => ?_)
      refine ok_gd hr.2 (ok_bnd (fun M2 e2 => ?_))
      refine ok_cal (k_pair M2 (i := a) (j := v) ha (by omega)) (fun r2 hr2 => ?_)
      refine ok_gd hr2.2 (ok_bnd (fun M3 e3 => ?_))
      refine ok_gd (by omega) ?_
      refine ih (v + 1) M3 (by omega) (by omega) (by omega) (fun c hc => ?_) (fun p q hp hq => ?_)
      · rw [e3, e2, up_row hc, up_row hc, h3 c hc]
      · rw [e3, e2, up_at, up_at, h4 p q hp hq]
        by_cases h5 : 12 * p + q = r2.toNat
        · rw [if_pos h5, if_pos (by omega)]
        · rw [if_neg h5]
          by_cases h6 : 12 * p + q = r.toNat
          · rw [if_pos h6, if_pos (by omega)]
          · rw [if_neg h6]
            by_cases h7 : ((p : Int) < v ∧ (q : Int) = a) ∨ ((p : Int) = a ∧ (q : Int) < v)
            · rw [if_pos h7, if_pos (by omega)]
            · rw [if_neg h7, if_neg (by omega)]
theorem k_addCrossing (M : Mm) (x y : Int) (h0 : 0 ≤ M 3 0) (h1 : M 3 0 < 12) : OK (fX0_addCrossing M x y) (fun M' => (∀ c, c ≠ 3 → c ≠ 4 → c ≠ 5 → c ≠ 10 → M' c = M c) ∧ M' 3 = uf (M 3) 0 (M 3 0 + 1) ∧ M' 4 = uf (M 4) (M 3 0).toNat x ∧ M' 5 = uf (M 5) (M 3 0).toNat y ∧ ∀ p q : Nat, p < 12 → q < 12 → M' 10 (12 * p + q) = if (p : Int) = M 3 0 ∧ (q : Int) = M 3 0 then 0 else if ((p : Int) < M 3 0 ∧ (q : Int) = M 3 0) ∨ ((p : Int) = M 3 0 ∧ (q : Int) < M 3 0) then -6 else M 10 (12 * p + q)) := by
  unfold fX0_addCrossing
  refine ok_t h1 (ok_gd ⟨h0, h1⟩ (ok_bnd (fun M1 e1 => ok_gd ⟨h0, h1⟩ (ok_bnd (fun M2 e2 => ?_)))))
  have hr : ∀ c, c ≠ 4 → c ≠ 5 → M2 c = M c := fun c c4 c5 => by rw [e2, up_row c5, e1, up_row c4]
  generalize ha : M 3 0 = a at h0 h1 e1 e2 ⊢
  refine k_addCrossingL x y _ _ a ⟨h0, h1⟩ M2 (fun M3 g1 g2 => ?_) 1000 0 M2 (by omega) (by omega) (by omega) (fun c hc => rfl) (fun p q hp hq => by rw [if_neg (by omega)])
  refine ok_cal (k_pair M3 (i := a) (j := a) (by omega) (by omega)) (fun r hr2 => ?_)
  refine ok_gd hr2.2 (ok_bnd (fun M4 e4 => ok_gd (by omega) (ok_bnd (fun M5 e5 => ok_some ?_))))
  refine ⟨fun c c3 c4 c5 c10 => ?_, ?_, ?_, ?_, fun p q hp hq => ?_⟩
  · rw [e5, up_row c3, e4, up_row c10, g1 c c10, hr c c4 c5]
  · rw [e5, e4]
    funext j
    rw [up_at, up_row (by decide), g1 3 (by decide), hr 3 (by decide) (by decide)]
    unfold uf
    rfl
  · rw [e5, up_row (by decide), e4, up_row (by decide), g1 4 (by decide), e2, up_row (by decide), e1]
    funext j; rw [up_at]; rfl
  · rw [e5, up_row (by decide), e4, up_row (by decide), g1 5 (by decide), e2]
    funext j; rw [up_at, e1, up_row (by decide)]; rfl
  · rw [e5, up_row (by decide), e4, up_at, g2 p q hp hq, hr 10 (by decide) (by decide)]
    by_cases h5 : 12 * p + q = r.toNat
    · rw [if_pos h5, if_pos (by omega)]
    · rw [if_neg h5, if_neg (show ¬ ((p : Int) = a ∧ (q : Int) = a) by omega)]
