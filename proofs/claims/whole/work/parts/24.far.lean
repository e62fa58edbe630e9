/-! the reference's least ways: laid anew -/
def mB (M : Mm) : Dt := ((M 71 2, M 71 6, M 71 10), M 72, M 73, M 74, M 75, M 76, M 77, M 78, M 79)
def off80 (M M' : Mm) : Prop := ∀ c, c ≠ 80 → M' c = M c
theorem mB_80 {M M' : Mm} (h : off80 M M') : mB M' = mB M := by
  unfold mB
  rw [h 71 (by decide), h 72 (by decide), h 73 (by decide), h 74 (by decide), h 75 (by decide), h 76 (by decide), h 77 (by decide), h 78 (by decide), h 79 (by decide)]
theorem k_off (M : Mm) (a b : Int) (h : inR (a - b)) (h2 : inR (b - a)) : OK (fX5_off M a b) (fun r => r = iabs (a - b)) := by
  unfold fX5_off iabs
  refine ok_if (fun h3 => ok_gd h (ok_some ?_)) (fun h3 => ok_gd h2 (ok_some ?_))
  · rw [if_pos (by omega)]
  · rw [if_neg (by omega)]; omega
theorem k_apart (M : Mm) (a b e f : Int) (h : (-200 ≤ a ∧ a ≤ 200) ∧ (-200 ≤ b ∧ b ≤ 200) ∧ (-200 ≤ e ∧ e ≤ 200) ∧ (-200 ≤ f ∧ f ≤ 200)) : OK (fX5_apart M a b e f) (fun r => r = iabs (a - e) + iabs (b - f)) := by
  unfold fX5_apart
  refine ok_cal (k_off M a e (by omega) (by omega)) (fun r1 h1 => ok_cal (k_off M b f (by omega) (by omega)) (fun r2 h2 => ok_gd ?_ (ok_some ?_)))
  · rw [h1, h2]; unfold iabs; split <;> split <;> omega
  · rw [h1, h2]
theorem k_length (M : Mm) (hN : WN (mB M)) (v : Int) (hv : 0 ≤ v ∧ v < M 71 6) : OK (fX5_length M v) (fun r => r = len (mB M) v.toNat) := by
  have n1 := hN.2.1
  have hr : ((v.toNat : Nat) : Int) < nR (mB M) := by show _ < M 71 6; omega
  have h5 := hN.2.2.2.2 v.toNat hr
  have b1 : (0 ≤ M 74 v.toNat ∧ M 74 v.toNat < M 71 2) := h5.1
  have b2 : (0 ≤ M 75 v.toNat ∧ M 75 v.toNat < M 71 2) := h5.2.1
  have n0 : 0 ≤ M 71 2 ∧ M 71 2 ≤ 12 := hN.1
  have n2 : 0 ≤ M 71 6 ∧ M 71 6 ≤ 20 := n1
  have x1 := hN.2.2.1 _ (rF_lt hN hr).2.2
  have x2 := hN.2.2.1 _ (rL_lt hN hr).2.2
  have y1 : (0 ≤ M 72 (M 74 v.toNat).toNat ∧ M 72 (M 74 v.toNat).toNat ≤ 63) ∧ (0 ≤ M 73 (M 74 v.toNat).toNat ∧ M 73 (M 74 v.toNat).toNat ≤ 63) := x1
  have y2 : (0 ≤ M 72 (M 75 v.toNat).toNat ∧ M 72 (M 75 v.toNat).toNat ≤ 63) ∧ (0 ≤ M 73 (M 75 v.toNat).toNat ∧ M 73 (M 75 v.toNat).toNat ≤ 63) := x2
  unfold fX5_length
  refine ok_gd (by omega) (ok_cal (k_apart M _ _ _ _ (by omega)) (fun r h => ok_some h))
theorem len_same {d : Dt} {r r' : Nat} (h : (rF d r = rF d r' ∧ rL d r = rL d r') ∨ (rF d r = rL d r' ∧ rL d r = rF d r')) : len d r = len d r' := by
  unfold len
  rcases h with ⟨h1, h2⟩ | ⟨h1, h2⟩
  · rw [h1, h2]
  · rw [h1, h2]
    unfold iabs
    (repeat' split) <;> omega
/-- phase 1: nothing but the crossings themselves -/
def far0 (c : Int) (P Q : Int) (u : Nat → Int) : Prop := ∀ p q : Nat, (p : Int) < c → (q : Int) < c → ((p : Int) < P ∨ ((p : Int) = P ∧ (q : Int) < Q)) → u (12 * p + q) = if p = q then 0 else 1000000
theorem k_farL12 (k : Int → Mm → Option Mm) (P : Mm → Prop) (M0 : Mm) (c : Int) (hc : 0 ≤ c ∧ c ≤ 12) (h0 : M0 71 2 = c) (p : Int) (hp : 0 ≤ p ∧ p < c) (hk : ∀ M', off80 M0 M' → far0 c (p + 1) 0 (M' 80) → OK (k p M') P) :
    ∀ (n : Nat) (v : Int) (M : Mm), 0 ≤ v → v ≤ c → 12 < (n : Int) + v → off80 M0 M → far0 c p v (M 80) → OK (fX5_layFar_L12 k n p v M) P := by
  intro n
  induction n with
  | zero => intro v M g0 g1 g2; omega
  | succ n ih =>
    intro v M g0 g1 g2 g3 g4
    have e2 : M 71 2 = c := by rw [g3 71 (by decide)]; exact h0
    unfold fX5_layFar_L12
    refine ok_if (fun h => hk M g3 (fun a b ha hb hab => g4 a b ha hb (by omega))) (fun h => ?_)
    refine ok_jnK (fun K => ∀ w, w = (if p = v then 0 else 1000000) → OK (K p v w (12 * p + v) M) P) (fun w hw => ?_) (fun K hK => ?_)
    · refine ok_gd (by omega) (ok_bnd (fun M2 e => ok_gd (by omega) (ih (v + 1) M2 (by omega) (by omega) (by omega) (fun a ha => by rw [e, up_row ha, g3 a ha]) (fun a b ha hb hab => ?_))))
      rw [e, up_at]
      by_cases e5 : 12 * a + b = (12 * p + v).toNat
      · rw [if_pos e5, hw]
        by_cases e6 : p = v
        · rw [if_pos e6, if_pos (by omega)]
        · rw [if_neg e6, if_neg (by omega)]
      · rw [if_neg e5]
        exact g4 a b ha hb (by omega)
    · refine ok_gd (by omega) (ok_if (fun e => hK 0 (by rw [if_pos e])) (fun e => hK 1000000 (by rw [if_neg e])))
theorem k_farL2 (k : Mm → Option Mm) (P : Mm → Prop) (M0 : Mm) (c : Int) (hc : 0 ≤ c ∧ c ≤ 12) (h0 : M0 71 2 = c) (hk : ∀ M', off80 M0 M' → far0 c c 0 (M' 80) → OK (k M') P) :
    ∀ (n : Nat) (v : Int) (M : Mm), 0 ≤ v → v ≤ c → 12 < (n : Int) + v → off80 M0 M → far0 c v 0 (M 80) → OK (fX5_layFar_L2 k n v M) P := by
  intro n
  induction n with
  | zero => intro v M g0 g1 g2; omega
  | succ n ih =>
    intro v M g0 g1 g2 g3 g4
    have e2 : M 71 2 = c := by rw [g3 71 (by decide)]; exact h0
    unfold fX5_layFar_L2
    refine ok_if (fun h => hk M g3 (fun a b ha hb hab => g4 a b ha hb (by omega))) (fun h => ?_)
    refine k_farL12 _ P M0 c hc h0 v (by omega) (fun M' q1 q2 => ?_) 1000 0 M (by omega) (by omega) (by omega) g3 g4
    exact ok_gd (by omega) (ih (v + 1) M' (by omega) (by omega) (by omega) q1 q2)
/-- phase 2: the roads before v are laid -/
def far1 (d : Dt) (v : Int) (u : Nat → Int) : Prop := (∀ p q : Nat, (p : Int) < nC d → (q : Int) < nC d → u (12 * p + q) = (if p = q then 0 else 1000000) ∨ (p ≠ q ∧ ∃ w, eg d p q w ∧ u (12 * p + q) = w)) ∧ ∀ r : Nat, (r : Int) < v → (r : Int) < nR d → u (12 * rF d r + rL d r) = len d r ∧ (rw' d r = 0 → u (12 * rL d r + rF d r) = len d r)
theorem k_farL56 (k : Mm → Option Mm) (P : Mm → Prop) (M0 : Mm) (hN : WN (mB M0)) (hk : ∀ M', off80 M0 M' → far1 (mB M0) (nR (mB M0)) (M' 80) → OK (k M') P) :
    ∀ (n : Nat) (v : Int) (M : Mm), 0 ≤ v → v ≤ nR (mB M0) → 20 < (n : Int) + v → off80 M0 M → far1 (mB M0) v (M 80) → OK (fX5_layFar_L56 k n v M) P := by
  intro n
  induction n with
  | zero =>
    intro v M g0 g1 g2
    have := hN.2.1
    omega
  | succ n ih =>
    intro v M g0 g1 g2 g3 g4
    have n0 := hN.1
    have n1 := hN.2.1
    have e2 : M 71 6 = nR (mB M0) := by rw [g3 71 (by decide)]; rfl
    have eb := mB_80 g3
    unfold fX5_layFar_L56
    refine ok_if (fun h => hk M g3 ⟨g4.1, fun r hr hr2 => g4.2 r (by omega) hr2⟩) (fun h => ?_)
    have hr : ((v.toNat : Nat) : Int) < nR (mB M0) := by omega
    have h5 := hN.2.2.2.2 v.toNat hr
    have r1 := rF_lt hN hr
    have r2 := rL_lt hN hr
    have f1 : M 74 v.toNat = rf (mB M0) v.toNat := by rw [g3 74 (by decide)]; rfl
    have f2 : M 75 v.toNat = rl (mB M0) v.toNat := by rw [g3 75 (by decide)]; rfl
    have f3 : M 76 v.toNat = rw' (mB M0) v.toNat := by rw [g3 76 (by decide)]; rfl
    generalize hd : mB M0 = d at *
    refine ok_jnK (fun K => ∀ M2, off80 M M2 → far1 d (v + 1) (M2 80) → OK (K v M2) P) (fun M2 q1 q2 => ?_) (fun K hK => ?_)
    · exact ok_gd (by omega) (ih (v + 1) M2 (by omega) (by omega) (by omega) (fun c hc => by rw [q1 c hc, g3 c hc]) q2)
    · rw [f1, f2]
      have hne : rF d v.toNat ≠ rL d v.toNat := by have := h5.2.2.1; omega
      refine ok_gd (by omega) (ok_cal (k_length M (by rw [eb]; exact hN) v (by omega)) (fun r5 hr5 => ok_gd (by omega) (ok_bnd (fun M5 e5 => ?_))))
      rw [eb] at hr5
      have i1 : (12 * rf d v.toNat + rl d v.toNat).toNat = 12 * rF d v.toNat + rL d v.toNat := by omega
      rw [i1] at e5
      have m5 : off80 M M5 := fun c hc => by rw [e5, up_row hc]
      have s5 : ∀ j, M5 80 j = if j = 12 * rF d v.toNat + rL d v.toNat then len d v.toNat else M 80 j := fun j => by rw [e5, up_at, hr5]
      have eg1 : eg d (rF d v.toNat) (rL d v.toNat) (len d v.toNat) := ⟨v.toNat, hr, rfl, Or.inl ⟨rfl, rfl⟩⟩
      have A1 : ∀ p q : Nat, (p : Int) < nC d → (q : Int) < nC d → M5 80 (12 * p + q) = (if p = q then 0 else 1000000) ∨ (p ≠ q ∧ ∃ w, eg d p q w ∧ M5 80 (12 * p + q) = w) := by
        intro p q hp hq
        rw [s5]
        by_cases e6 : 12 * p + q = 12 * rF d v.toNat + rL d v.toNat
        · rw [if_pos e6]
          have e7 : p = rF d v.toNat := by omega
          have e8 : q = rL d v.toNat := by omega
          exact Or.inr ⟨by omega, _, by rw [e7, e8]; exact eg1, rfl⟩
        · rw [if_neg e6]; exact g4.1 p q hp hq
      have A2 : ∀ r : Nat, (r : Int) < v → (r : Int) < nR d → M5 80 (12 * rF d r + rL d r) = len d r ∧ (rw' d r = 0 → M5 80 (12 * rL d r + rF d r) = len d r) := by
        intro r hr1 hr2
        have q1 := rF_lt hN hr2
        have q2 := rL_lt hN hr2
        obtain ⟨z1, z2⟩ := g4.2 r hr1 hr2
        constructor
        · rw [s5]
          by_cases e6 : 12 * rF d r + rL d r = 12 * rF d v.toNat + rL d v.toNat
          · rw [if_pos e6]; exact len_same (Or.inl ⟨by omega, by omega⟩)
          · rw [if_neg e6]; exact z1
        · intro hz
          rw [s5]
          by_cases e6 : 12 * rL d r + rF d r = 12 * rF d v.toNat + rL d v.toNat
          · rw [if_pos e6]; exact len_same (Or.inr ⟨by omega, by omega⟩)
          · rw [if_neg e6]; exact z2 hz
      have A3 : M5 80 (12 * rF d v.toNat + rL d v.toNat) = len d v.toNat := by rw [s5, if_pos rfl]
      have g74 : M5 74 v.toNat = rf d v.toNat := by rw [m5 74 (by decide)]; exact f1
      have g75 : M5 75 v.toNat = rl d v.toNat := by rw [m5 75 (by decide)]; exact f2
      have g76 : M5 76 v.toNat = rw' d v.toNat := by rw [m5 76 (by decide)]; exact f3
      have hlast : ∀ (r : Nat), (r : Int) < v + 1 → (r : Int) < v ∨ r = v.toNat := fun r h => by omega
      refine ok_gd (by omega) ?_
      rw [g74, g75, g76]
      refine ok_if (fun hz => ?_) (fun hz => ?_)
      · have eb5 : mB M5 = d := by rw [mB_80 m5]; exact eb
        refine ok_gd (by omega) (ok_cal (k_length M5 (by rw [eb5]; exact hN) v (by rw [m5 71 (by decide)]; omega)) (fun r6 hr6 => ok_gd (by omega) (ok_bnd (fun M6 e6 => ?_))))
        rw [eb5] at hr6
        have i2 : (12 * rl d v.toNat + rf d v.toNat).toNat = 12 * rL d v.toNat + rF d v.toNat := by omega
        rw [i2] at e6
        have s6 : ∀ j, M6 80 j = if j = 12 * rL d v.toNat + rF d v.toNat then len d v.toNat else M5 80 j := fun j => by rw [e6, up_at, hr6]
        have eg2 : eg d (rL d v.toNat) (rF d v.toNat) (len d v.toNat) := ⟨v.toNat, hr, rfl, Or.inr ⟨hz, rfl, rfl⟩⟩
        refine hK M6 (fun c hc => by rw [e6, up_row hc, m5 c hc]) ⟨fun p q hp hq => ?_, fun r hr1 hr2 => ?_⟩
        · rw [s6]
          by_cases e7 : 12 * p + q = 12 * rL d v.toNat + rF d v.toNat
          · rw [if_pos e7]
            have e8 : p = rL d v.toNat := by omega
            have e9 : q = rF d v.toNat := by omega
            exact Or.inr ⟨by omega, _, by rw [e8, e9]; exact eg2, rfl⟩
          · rw [if_neg e7]; exact A1 p q hp hq
        · have q1 := rF_lt hN hr2
          have q2 := rL_lt hN hr2
          have old : M5 80 (12 * rF d r + rL d r) = len d r ∧ (r ≠ v.toNat → rw' d r = 0 → M5 80 (12 * rL d r + rF d r) = len d r) := by
            rcases hlast r hr1 with h7 | h7
            · exact ⟨(A2 r h7 hr2).1, fun _ => (A2 r h7 hr2).2⟩
            · subst h7; exact ⟨A3, fun h => absurd rfl h⟩
          constructor
          · rw [s6]
            by_cases e7 : 12 * rF d r + rL d r = 12 * rL d v.toNat + rF d v.toNat
            · rw [if_pos e7]; exact len_same (Or.inr ⟨by omega, by omega⟩)
            · rw [if_neg e7]; exact old.1
          · intro h8
            rw [s6]
            by_cases e7 : 12 * rL d r + rF d r = 12 * rL d v.toNat + rF d v.toNat
            · rw [if_pos e7]; exact len_same (Or.inl ⟨by omega, by omega⟩)
            · rw [if_neg e7]
              exact old.2 (fun h9 => e7 (by rw [h9])) h8
      · refine hK M5 m5 ⟨A1, fun r hr1 hr2 => ?_⟩
        rcases hlast r hr1 with h7 | h7
        · exact A2 r h7 hr2
        · subst h7; exact ⟨A3, fun h => absurd h hz⟩
