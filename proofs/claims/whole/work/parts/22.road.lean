/-! roads: whether there is one, the least ways behind a new one -/
theorem yes_t {r : Int} {C : Prop} (h : yes r C) (hr : ¬ r = 0) : C := by
  rcases h with h | h
  · exact h.2
  · exact absurd h.1 hr
theorem yes_f {r : Int} {C : Prop} (h : yes r C) (hr : r = 0) : ¬ C := by
  rcases h with h | h
  · omega
  · exact h.2
theorem yes_01 {r : Int} {C : Prop} (h : yes r C) : r = 0 ∨ r = 1 := by
  rcases h with h | h
  · exact Or.inr h.1
  · exact Or.inl h.1
theorem k_areInOneRow (M : Mm) (a b : Int) (hn : M 3 0 ≤ 12) (ha : 0 ≤ a ∧ a < M 3 0) (hb : 0 ≤ b ∧ b < M 3 0) : OK (fX0_areInOneRow M a b) (fun r => yes r (M 4 a.toNat = M 4 b.toNat ∨ M 5 a.toNat = M 5 b.toNat)) := by
  unfold fX0_areInOneRow jn
  refine ok_cal (k_hasCrossing M a) (fun r1 h1 => ?_)
  refine ok_f (fun h => yes_f h1 h ha) ?_
  refine ok_cal (k_hasCrossing M b) (fun r2 h2 => ?_)
  refine ok_f (fun h => yes_f h2 h hb) (ok_gd (by omega) ?_)
  refine ok_if (fun h3 => ok_some (Or.inl ⟨rfl, Or.inl h3⟩)) (fun h3 => ok_gd (by omega) ?_)
  refine ok_if (fun h4 => ok_some (Or.inl ⟨rfl, Or.inr h4⟩)) (fun h4 => ok_some (Or.inr ⟨rfl, fun h5 => ?_⟩))
  exact h5.elim h3 h4
def joined (n : Int) (A B : Nat → Int) (a b : Int) : Prop := ∃ r : Nat, (r : Int) < n ∧ ((A r = a ∧ B r = b) ∨ (A r = b ∧ B r = a))
theorem k_areJoinedL (M : Mm) (x y : Int) (hn : M 3 1 ≤ 20) : ∀ (n : Nat) (v : Int), 0 ≤ v → v ≤ 20 → 20 < (n : Int) + v → (∀ j : Nat, (j : Int) < v → ¬ ((M 6 j = x ∧ M 7 j = y) ∨ (M 6 j = y ∧ M 7 j = x))) → OK (fX0_areJoined_L2 x y M n v) (fun r => yes r (joined (M 3 1) (M 6) (M 7) x y)) := by
  intro n
  induction n with
  | zero => intro v h0 h1 h2; omega
  | succ n ih =>
    intro v h0 h1 h2 h3
    unfold fX0_areJoined_L2
    refine ok_if (fun h => ?_) (fun h => ?_)
    · refine ok_some (Or.inr ⟨rfl, ?_⟩)
      rintro ⟨j, h4, h5⟩
      exact h3 j (by omega) h5
    · refine ok_jnK (fun K => ∀ w, yes w (M 6 v.toNat = x ∧ M 7 v.toNat = y) → OK (K v w) (fun r => yes r (joined (M 3 1) (M 6) (M 7) x y))) (fun w hw => ?_) (fun K4 hK4 => ?_)
      · refine ok_jnK (fun K => ∀ w7, yes w7 (M 6 v.toNat = y ∧ M 7 v.toNat = x) → OK (K v w w7) (fun r => yes r (joined (M 3 1) (M 6) (M 7) x y))) (fun w7 hw7 => ?_) (fun K8 hK8 => ?_)
        · refine ok_if (fun e1 => ?_) (fun e1 => ok_some (Or.inl ⟨rfl, v.toNat, by omega, Or.inl (yes_t hw e1)⟩))
          refine ok_if (fun e2 => ?_) (fun e2 => ok_some (Or.inl ⟨rfl, v.toNat, by omega, Or.inr (yes_t hw7 e2)⟩))
          refine ok_gd (by omega) (ih (v + 1) (by omega) (by omega) (by omega) (fun j hj => ?_))
          by_cases hji : j = v.toNat
          · rw [hji]
            exact fun h9 => h9.elim (yes_f hw e1) (yes_f hw7 e2)
          · exact h3 j (by omega)
        · refine ok_jn (ok_gd (by omega) (ok_if (fun e1 => ok_gd (by omega) (ok_if (fun e2 => hK8 1 (Or.inl ⟨rfl, e1, e2⟩)) (fun e2 => hK8 0 (Or.inr ⟨rfl, fun h9 => e2 h9.2⟩)))) (fun e1 => hK8 0 (Or.inr ⟨rfl, fun h9 => e1 h9.1⟩))))
      · refine ok_jn (ok_gd (by omega) (ok_if (fun e1 => ok_gd (by omega) (ok_if (fun e2 => hK4 1 (Or.inl ⟨rfl, e1, e2⟩)) (fun e2 => hK4 0 (Or.inr ⟨rfl, fun h9 => e2 h9.2⟩)))) (fun e1 => hK4 0 (Or.inr ⟨rfl, fun h9 => e1 h9.1⟩))))
theorem k_areJoined (M : Mm) (x y : Int) (hn : M 3 1 ≤ 20) : OK (fX0_areJoined M x y) (fun r => yes r (joined (M 3 1) (M 6) (M 7) x y)) := by
  unfold fX0_areJoined
  exact k_areJoinedL M x y hn 1000 0 (by omega) (by omega) (by omega) (fun j hj => by omega)
/-- entries of the matrix that are no ways, or small -/
def small (n : Int) (t : Nat → Int) : Prop := ∀ p q : Nat, (p : Int) < n → (q : Int) < n → t (12 * p + q) = -6 ∨ (0 ≤ t (12 * p + q) ∧ t (12 * p + q) ≤ 756)
/-- the matrix behind rows before p, and in row p columns before q -/
def partM (n : Int) (t : Nat → Int) (a b : Nat) (l : Int) (P Q : Int) (u : Nat → Int) : Prop := ∀ p q : Nat, (p : Int) < n → (q : Int) < n → u (12 * p + q) = if (p : Int) < P ∨ ((p : Int) = P ∧ (q : Int) < Q) then mn (t (12 * p + q)) (t (12 * p + a)) l (t (12 * b + q)) else t (12 * p + q)
theorem mn_a {n : Int} {t : Nat → Int} {a b : Nat} {l : Int} (ht : small n t) (ha : (a : Int) < n) (hb : (b : Int) < n) (hl : 1 ≤ l) {p : Nat} (hp : (p : Int) < n) : mn (t (12 * p + a)) (t (12 * p + a)) l (t (12 * b + a)) = t (12 * p + a) := by
  have h1 := ht p a hp ha
  have h2 := ht b a hb ha
  unfold mn
  split
  · rfl
  · split <;> omega
theorem mn_b {n : Int} {t : Nat → Int} {a b : Nat} {l : Int} (ht : small n t) (ha : (a : Int) < n) (hb : (b : Int) < n) (hl : 1 ≤ l) {q : Nat} (hq : (q : Int) < n) : mn (t (12 * b + q)) (t (12 * b + a)) l (t (12 * b + q)) = t (12 * b + q) := by
  have h1 := ht b q hb hq
  have h2 := ht b a hb ha
  unfold mn
  split
  · rfl
  · split <;> omega
theorem k_shortL28 (x1 x2 x3 : Int) (k : Int → Mm → Option Mm) (P : Mm → Prop) (M0 : Mm) (c : Int) (hc : 0 ≤ c ∧ c ≤ 12) (h1 : 0 ≤ x1 ∧ x1 < c) (h2 : 0 ≤ x2 ∧ x2 < c) (hl : 1 ≤ x3 ∧ x3 ≤ 63) (ht : small c (M0 10)) (hM0 : M0 3 0 = c) (p : Int) (hp : 0 ≤ p ∧ p < c)
    (hk : ∀ M', (∀ a, a ≠ 10 → M' a = M0 a) → partM c (M0 10) x1.toNat x2.toNat x3 (p + 1) 0 (M' 10) → OK (k p M') P) :
    ∀ (n : Nat) (v : Int) (M : Mm), 0 ≤ v → v ≤ c → 12 < (n : Int) + v → (∀ a, a ≠ 10 → M a = M0 a) → partM c (M0 10) x1.toNat x2.toNat x3 p v (M 10) → OK (fX0_shortenBy_L28 x1 x2 x3 k n p (M0 10 (12 * p.toNat + x1.toNat)) v M) P := by
  intro n
  induction n with
  | zero => intro v M g0 g1 g2; omega
  | succ n ih =>
    intro v M g0 g1 g2 g3 g4
    have e3 : M 3 0 = c := by rw [g3 3 (by decide)]; exact hM0
    have hA := ht p.toNat x1.toNat (by omega) (by omega)
    unfold fX0_shortenBy_L28
    refine ok_if (fun h => ?_) (fun h => ?_)
    · refine hk M g3 (fun a b ha hb => ?_)
      rw [g4 a b ha hb]
      by_cases e1 : (a : Int) < p
      · rw [if_pos (Or.inl e1), if_pos (Or.inl (by omega))]
      · by_cases e2 : (a : Int) = p
        · have e5 : a = p.toNat := by omega
          subst e5
          rw [if_pos (show ((p.toNat : Nat) : Int) < p + 1 ∨ _ from Or.inl (by omega)), h]
          unfold mn
          rw [if_pos (Or.inl rfl)]
          split <;> rfl
        · rw [if_neg (by omega), if_neg (by omega)]
    · refine ok_if (fun h3 => ?_) (fun h3 => ?_)
      · refine hk M g3 (fun a b ha hb => ?_)
        rw [g4 a b ha hb]
        by_cases e1 : (a : Int) < p + 1
        · rw [if_pos (by omega), if_pos (Or.inl e1)]
        · rw [if_neg (by omega), if_neg (by omega)]
      · have hB := ht x2.toNat v.toNat (by omega) (by omega)
        have hKn := ht p.toNat v.toNat (by omega) (by omega)
        -- what stands in row x2, column v, and at the place itself
        have rB : M 10 (12 * x2.toNat + v.toNat) = M0 10 (12 * x2.toNat + v.toNat) := by
          rw [g4 _ _ (by omega) (by omega)]
          split
          · exact mn_b ht (by omega) (by omega) hl.1 (by omega)
          · rfl
        have rK : M 10 (12 * p.toNat + v.toNat) = M0 10 (12 * p.toNat + v.toNat) := by
          rw [g4 _ _ (by omega) (by omega), if_neg (by omega)]
        have next : ∀ M2, (∀ a, a ≠ 10 → M2 a = M a) → (∀ j, M2 10 j = if j = 12 * p.toNat + v.toNat then mn (M0 10 (12 * p.toNat + v.toNat)) (M0 10 (12 * p.toNat + x1.toNat)) x3 (M0 10 (12 * x2.toNat + v.toNat)) else M 10 j) → OK (gd (inR (v + 1)) (fX0_shortenBy_L28 x1 x2 x3 k n p (M0 10 (12 * p.toNat + x1.toNat)) (v + 1) M2)) P := by
          intro M2 q1 q2
          refine ok_gd (by omega) (ih (v + 1) M2 (by omega) (by omega) (by omega) (fun a ha => by rw [q1 a ha, g3 a ha]) (fun a b ha hb => ?_))
          rw [q2]
          by_cases e1 : 12 * a + b = 12 * p.toNat + v.toNat
          · have e5 : a = p.toNat := by omega
            have e6 : b = v.toNat := by omega
            subst e5
            subst e6
            rw [if_pos rfl, if_pos (by omega)]
          · rw [if_neg e1, g4 a b ha hb]
            by_cases e7 : (a : Int) < p ∨ ((a : Int) = p ∧ (b : Int) < v)
            · rw [if_pos e7, if_pos (by omega)]
            · rw [if_neg e7, if_neg (by omega)]
        refine ok_jnK (fun K => (∀ M2, (∀ a, a ≠ 10 → M2 a = M a) → (∀ j, M2 10 j = if j = 12 * p.toNat + v.toNat then mn (M0 10 (12 * p.toNat + v.toNat)) (M0 10 (12 * p.toNat + x1.toNat)) x3 (M0 10 (12 * x2.toNat + v.toNat)) else M 10 j) → OK (K p (M0 10 (12 * p.toNat + x1.toNat)) v M2) P)) next (fun K hK => ?_)
        refine ok_cal (k_pair M (i := x2) (j := v) (by omega) (by omega)) (fun r hr => ok_gd hr.2 ?_)
        refine ok_cal (k_pair M (i := p) (j := v) (by omega) (by omega)) (fun r2 hr2 => ok_gd hr2.2 ?_)
        have t1 : r.toNat = 12 * x2.toNat + v.toNat := by omega
        have t2 : r2.toNat = 12 * p.toNat + v.toNat := by omega
        rw [t1, t2, rB, rK]
        generalize M0 10 (12 * x2.toNat + v.toNat) = B at *
        generalize M0 10 (12 * p.toNat + v.toNat) = Kn at *
        generalize M0 10 (12 * p.toNat + x1.toNat) = Ah at *
        have hold : mn Kn Ah x3 B = Kn → OK (K p Ah v M) P := fun e => hK M (fun _ _ => rfl) (fun j => by
          split
          · rename_i e9; rw [e9, rK, e]
          · rfl)
        refine ok_if (fun h4 => ?_) (fun h4 => ?_)
        · exact hold (by unfold mn; rw [if_pos (Or.inr h4)])
        · have put : mn Kn Ah x3 B = Ah + x3 + B → OK (cal (fX0_pair M p v) (fun r25 => gd ((inR (Ah + x3)) ∧ (inR (Ah + x3 + B)) ∧ (0 ≤ r25 ∧ r25 < 144)) (bnd (up M 10 r25.toNat (Ah + x3 + B)) (fun M26 => K p Ah v M26)))) P := by
            intro e
            refine ok_cal (k_pair M (i := p) (j := v) (by omega) (by omega)) (fun r3 hr3 => ok_gd ⟨by omega, by omega, hr3.2⟩ (ok_bnd (fun M3 e3 => ?_)))
            refine hK M3 (fun a ha => by rw [e3, up_row ha]) (fun j => ?_)
            have t3 : r3.toNat = 12 * p.toNat + v.toNat := by omega
            rw [e3, up_at, t3, e]
          refine ok_jn ?_
          refine ok_if (fun h5 => put (by unfold mn; rw [if_neg (by omega), if_pos (Or.inl h5)])) (fun h5 => ?_)
          refine ok_gd (by omega) ?_
          refine ok_if (fun h6 => hold (by unfold mn; rw [if_neg (by omega), if_neg (by omega)])) (fun h6 => put (by unfold mn; rw [if_neg (by omega), if_pos (Or.inr (by omega))]))
theorem k_shortL3 (x1 x2 x3 : Int) (M0 : Mm) (c : Int) (hc : 0 ≤ c ∧ c ≤ 12) (h1 : 0 ≤ x1 ∧ x1 < c) (h2 : 0 ≤ x2 ∧ x2 < c) (hl : 1 ≤ x3 ∧ x3 ≤ 63) (ht : small c (M0 10)) (hM0 : M0 3 0 = c) :
    ∀ (n : Nat) (v : Int) (M : Mm), 0 ≤ v → v ≤ c → 12 < (n : Int) + v → (∀ a, a ≠ 10 → M a = M0 a) → partM c (M0 10) x1.toNat x2.toNat x3 v 0 (M 10) → OK (fX0_shortenBy_L3 x1 x2 x3 n v M) (fun M' => (∀ a, a ≠ 10 → M' a = M0 a) ∧ ∀ p q : Nat, (p : Int) < c → (q : Int) < c → M' 10 (12 * p + q) = mn (M0 10 (12 * p + q)) (M0 10 (12 * p + x1.toNat)) x3 (M0 10 (12 * x2.toNat + q))) := by
  intro n
  induction n with
  | zero => intro v M g0 g1 g2; omega
  | succ n ih =>
    intro v M g0 g1 g2 g3 g4
    have e3 : M 3 0 = c := by rw [g3 3 (by decide)]; exact hM0
    unfold fX0_shortenBy_L3
    refine ok_if (fun h => ok_some ⟨g3, fun p q hp hq => ?_⟩) (fun h => ?_)
    · rw [g4 p q hp hq, if_pos (Or.inl (by omega))]
    · refine ok_cal (k_pair M (i := v) (j := x1) (by omega) (by omega)) (fun r hr => ok_gd hr.2 ?_)
      have t1 : r.toNat = 12 * v.toNat + x1.toNat := by omega
      have t2 : M 10 (12 * v.toNat + x1.toNat) = M0 10 (12 * v.toNat + x1.toNat) := by rw [g4 _ _ (by omega) (by omega), if_neg (by omega)]
      rw [t1, t2]
      refine k_shortL28 x1 x2 x3 _ _ M0 c hc h1 h2 hl ht hM0 v ⟨g0, by omega⟩ (fun M' q1 q2 => ?_) 1000 0 M (by omega) (by omega) (by omega) g3 g4
      exact ok_gd (by omega) (ih (v + 1) M' (by omega) (by omega) (by omega) q1 q2)
theorem k_shortenBy (x1 x2 x3 : Int) (M : Mm) (c : Int) (hc : 0 ≤ c ∧ c ≤ 12) (h1 : 0 ≤ x1 ∧ x1 < c) (h2 : 0 ≤ x2 ∧ x2 < c) (hl : 1 ≤ x3 ∧ x3 ≤ 63) (ht : small c (M 10)) (hM0 : M 3 0 = c) : OK (fX0_shortenBy M x1 x2 x3) (fun M' => (∀ a, a ≠ 10 → M' a = M a) ∧ ∀ p q : Nat, (p : Int) < c → (q : Int) < c → M' 10 (12 * p + q) = mn (M 10 (12 * p + q)) (M 10 (12 * p + x1.toNat)) x3 (M 10 (12 * x2.toNat + q))) := by
  unfold fX0_shortenBy
  refine k_shortL3 x1 x2 x3 M c hc h1 h2 hl ht hM0 1000 0 M (by omega) (by omega) (by omega) (fun _ _ => rfl) (fun p q hp hq => ?_)
  rw [if_neg (by omega)]
/-- the class's net in its rows -/
def CN (o x y f l k g t : Nat → Int) (d : Dt) : Prop := o 0 = nC d ∧ o 1 = nR d ∧ (∀ j : Nat, (j : Int) < nC d → x j = cx d j ∧ y j = cy d j) ∧ (∀ r : Nat, (r : Int) < nR d → f r = rf d r ∧ l r = rl d r ∧ k r = rw' d r ∧ g r = len d r) ∧ DM (nC d) (eg d) (fun i j => t (12 * i + j))
theorem CN_small {o x y f l k g t : Nat → Int} {d : Dt} (hN : WN d) (h : CN o x y f l k g t d) : small (nC d) t := fun _ _ hp hq => DM_b (eg_b hN) h.2.2.2.2 hp hq
/-- one crossing more -/
def dC (d : Dt) (x y : Int) : Dt := ((nC d + 1, nR d, nF d), uf (cx d) (nC d).toNat x, uf (cy d) (nC d).toNat y, rf d, rl d, rw' d, ru d, fx d, fy d)
theorem dC_eg {d : Dt} (hN : WN d) {x y : Int} : eg (dC d x y) = eg d := by
  have hlen : ∀ r : Nat, (r : Int) < nR d → len (dC d x y) r = len d r := by
    intro r hr
    have h1 := rF_lt hN hr
    have h2 := rL_lt hN hr
    have e1 : rF (dC d x y) r = rF d r := rfl
    have e2 : rL (dC d x y) r = rL d r := rfl
    have n1 : rF d r ≠ (nC d).toNat := by omega
    have n2 : rL d r ≠ (nC d).toNat := by omega
    have c1 : cx (dC d x y) (rF d r) = cx d (rF d r) := if_neg n1
    have c2 : cx (dC d x y) (rL d r) = cx d (rL d r) := if_neg n2
    have c3 : cy (dC d x y) (rF d r) = cy d (rF d r) := if_neg n1
    have c4 : cy (dC d x y) (rL d r) = cy d (rL d r) := if_neg n2
    unfold len
    rw [e1, e2, c1, c2, c3, c4]
  funext i k w
  refine propext ⟨fun h => ?_, fun h => ?_⟩
  · obtain ⟨r, hr, hw, hh⟩ := h
    exact ⟨r, hr, hw.trans (hlen r hr), hh⟩
  · obtain ⟨r, hr, hw, hh⟩ := h
    exact ⟨r, hr, hw.trans (hlen r hr).symm, hh⟩
theorem dC_WN {d : Dt} (hN : WN d) {x y : Int} (hx : 0 ≤ x ∧ x ≤ 63) (hy : 0 ≤ y ∧ y ≤ 63) (hc : nC d < 12) (ht : ¬ taken (nC d) (cx d) (cy d) x y) : WN (dC d x y) := by
  obtain ⟨h1, h2, h3, h4, h5⟩ := id hN
  have ax : ∀ j : Nat, (j : Int) < nC d → cx (dC d x y) j = cx d j ∧ cy (dC d x y) j = cy d j := fun j hj => ⟨if_neg (by omega), if_neg (by omega)⟩
  have an : cx (dC d x y) (nC d).toNat = x ∧ cy (dC d x y) (nC d).toNat = y := ⟨if_pos rfl, if_pos rfl⟩
  have hb : ∀ j : Nat, (j : Int) < nC d + 1 → (j : Int) < nC d ∨ j = (nC d).toNat := fun j hj => by omega
  refine ⟨⟨by show 0 ≤ nC d + 1; omega, by show nC d + 1 ≤ 12; omega⟩, h2, fun j hj => ?_, fun i j hi hj e1 e2 => ?_, fun r hr => ?_⟩
  · rcases hb j hj with h | h
    · rw [(ax j h).1, (ax j h).2]; exact h3 j h
    · rw [h, an.1, an.2]; exact ⟨hx, hy⟩
  · rcases hb i hi with g1 | g1 <;> rcases hb j hj with g2 | g2
    · rw [(ax i g1).1, (ax j g2).1] at e1
      rw [(ax i g1).2, (ax j g2).2] at e2
      exact h4 i j g1 g2 e1 e2
    · rw [(ax i g1).1, g2, an.1] at e1
      rw [(ax i g1).2, g2, an.2] at e2
      exact absurd ⟨i, g1, e1, e2⟩ ht
    · rw [(ax j g2).1, g1, an.1] at e1
      rw [(ax j g2).2, g1, an.2] at e2
      exact absurd ⟨j, g2, e1.symm, e2.symm⟩ ht
    · rw [g1, g2]
  · have r1 := rF_lt hN hr
    have r2 := rL_lt hN hr
    obtain ⟨a1, a2, a3, a4, a5⟩ := h5 r hr
    refine ⟨⟨a1.1, ?_⟩, ⟨a2.1, ?_⟩, a3, ?_, a5⟩
    · show rf d r < nC d + 1; omega
    · show rl d r < nC d + 1; omega
    · have e1 : rF (dC d x y) r = rF d r := rfl
      have e2 : rL (dC d x y) r = rL d r := rfl
      rw [e1, e2, (ax _ r1.2.2).1, (ax _ r2.2.2).1, (ax _ r1.2.2).2, (ax _ r2.2.2).2]
      exact a4
theorem dC_DM {d : Dt} (hN : WN d) {x y : Int} (hc : nC d < 12) {F G : Nat → Nat → Int} (hF : DM (nC d) (eg d) F) (hG : ∀ p q : Nat, p < 12 → q < 12 → G p q = if (p : Int) = nC d ∧ (q : Int) = nC d then 0 else if ((p : Int) < nC d ∧ (q : Int) = nC d) ∨ ((p : Int) = nC d ∧ (q : Int) < nC d) then -6 else F p q) : DM (nC (dC d x y)) (eg (dC d x y)) G := by
  have hE := eg_b hN
  rw [dC_eg hN]
  show DM (nC d + 1) (eg d) G
  have h0 := hN.1
  refine ⟨fun i hi => ?_, fun i j hi hj => ?_, fun i k w j he hj hk => ?_⟩
  · rw [hG i i (by omega) (by omega)]
    by_cases e : (i : Int) = nC d
    · rw [if_pos ⟨e, e⟩]
    · rw [if_neg (by omega), if_neg (by omega)]; exact hF.1 i (by omega)
  · rw [hG i j (by omega) (by omega)]
    by_cases e : (i : Int) = nC d ∧ (j : Int) = nC d
    · rw [if_pos e]
      exact Or.inr ⟨by omega, 0, by omega, rfl⟩
    · rw [if_neg e]
      by_cases e2 : ((i : Int) < nC d ∧ (j : Int) = nC d) ∨ ((i : Int) = nC d ∧ (j : Int) < nC d)
      · rw [if_pos e2]; exact Or.inl rfl
      · rw [if_neg e2]; exact hF.2.1 i j (by omega) (by omega)
  · have hb := hE.2 _ _ _ he
    rw [hG k j (by omega) (by omega)] at hk ⊢
    rw [hG i j (by omega) (by omega)]
    by_cases e : (j : Int) = nC d
    · rw [if_neg (by omega), if_pos (by omega)] at hk
      exact absurd rfl hk
    · rw [if_neg (by omega), if_neg (by omega)] at hk ⊢
      rw [if_neg (by omega), if_neg (by omega)]
      exact hF.2.2 i k w j he (by omega) hk
/-- one road more -/
def dR (d : Dt) (a b w : Int) : Dt := ((nC d, nR d + 1, nF d), cx d, cy d, uf (rf d) (nR d).toNat a, uf (rl d) (nR d).toNat b, uf (rw' d) (nR d).toNat w, ru d, fx d, fy d)
def lenAB (d : Dt) (a b : Nat) : Int := iabs (cx d a - cx d b) + iabs (cy d a - cy d b)
theorem dR_old {d : Dt} {a b w : Int} {r : Nat} (hr : (r : Int) < nR d) : rf (dR d a b w) r = rf d r ∧ rl (dR d a b w) r = rl d r ∧ rw' (dR d a b w) r = rw' d r ∧ len (dR d a b w) r = len d r := by
  have n : r ≠ (nR d).toNat := by omega
  have e1 : rf (dR d a b w) r = rf d r := if_neg n
  have e2 : rl (dR d a b w) r = rl d r := if_neg n
  have e3 : rw' (dR d a b w) r = rw' d r := if_neg n
  refine ⟨e1, e2, e3, ?_⟩
  unfold len rF rL
  rw [e1, e2]
  rfl
theorem dR_new {d : Dt} {a b w : Int} : rf (dR d a b w) (nR d).toNat = a ∧ rl (dR d a b w) (nR d).toNat = b ∧ rw' (dR d a b w) (nR d).toNat = w ∧ len (dR d a b w) (nR d).toNat = lenAB d a.toNat b.toNat := by
  have e1 : rf (dR d a b w) (nR d).toNat = a := if_pos rfl
  have e2 : rl (dR d a b w) (nR d).toNat = b := if_pos rfl
  have e3 : rw' (dR d a b w) (nR d).toNat = w := if_pos rfl
  refine ⟨e1, e2, e3, ?_⟩
  unfold len rF rL lenAB
  rw [e1, e2]
  rfl
theorem dR_WN {d : Dt} (hN : WN d) {a b w : Int} (hr : nR d < 20) (ha : 0 ≤ a ∧ a < nC d) (hb : 0 ≤ b ∧ b < nC d) (hab : a ≠ b) (hrow : cx d a.toNat = cx d b.toNat ∨ cy d a.toNat = cy d b.toNat) (hw : w = 0 ∨ w = 1) : WN (dR d a b w) := by
  obtain ⟨h1, h2, h3, h4, h5⟩ := id hN
  refine ⟨h1, ⟨by show 0 ≤ nR d + 1; omega, by show nR d + 1 ≤ 20; omega⟩, h3, h4, fun r hr2 => ?_⟩
  have hb2 : (r : Int) < nR d ∨ r = (nR d).toNat := by have : (r : Int) < nR d + 1 := hr2; omega
  rcases hb2 with h | h
  · obtain ⟨e1, e2, e3, -⟩ := dR_old (a := a) (b := b) (w := w) h
    unfold rF rL
    rw [e1, e2, e3]
    exact h5 r h
  · obtain ⟨e1, e2, e3, -⟩ := dR_new (d := d) (a := a) (b := b) (w := w)
    rw [h]
    unfold rF rL
    rw [e1, e2, e3]
    exact ⟨ha, hb, hab, hrow, hw⟩
theorem dR_eg {d : Dt} {a b w : Int} (h0 : 0 ≤ nR d) (hw : w = 0 ∨ w = 1) : eg (dR d a b w) = if w = 0 then addE (addE (eg d) a.toNat b.toNat (lenAB d a.toNat b.toNat)) b.toNat a.toNat (lenAB d a.toNat b.toNat) else addE (eg d) a.toNat b.toNat (lenAB d a.toNat b.toNat) := by
  obtain ⟨n1, n2, n3, n4⟩ := dR_new (d := d) (a := a) (b := b) (w := w)
  have m1 : rF (dR d a b w) (nR d).toNat = a.toNat := by unfold rF; rw [n1]
  have m2 : rL (dR d a b w) (nR d).toNat = b.toNat := by unfold rL; rw [n2]
  have key : ∀ i k l, eg (dR d a b w) i k l ↔ eg d i k l ∨ (i = a.toNat ∧ k = b.toNat ∧ l = lenAB d a.toNat b.toNat) ∨ (w = 0 ∧ i = b.toNat ∧ k = a.toNat ∧ l = lenAB d a.toNat b.toNat) := by
    intro i k l
    constructor
    · rintro ⟨r, hr, hl, hh⟩
      have hb2 : (r : Int) < nR d ∨ r = (nR d).toNat := by have : (r : Int) < nR d + 1 := hr; omega
      rcases hb2 with h | h
      · obtain ⟨e1, e2, e3, e4⟩ := dR_old (a := a) (b := b) (w := w) h
        refine Or.inl ⟨r, h, hl.trans e4, ?_⟩
        unfold rF rL at hh ⊢
        rw [e1, e2, e3] at hh
        exact hh
      · rw [h, m1, m2, n3] at hh
        rw [h, n4] at hl
        rcases hh with ⟨p, q⟩ | ⟨p, q, s⟩
        · exact Or.inr (Or.inl ⟨p.symm, q.symm, hl⟩)
        · exact Or.inr (Or.inr ⟨p, q.symm, s.symm, hl⟩)
    · have hlast : (((nR d).toNat : Nat) : Int) < nR (dR d a b w) := by show _ < nR d + 1; omega
      rintro (⟨r, hr, hl, hh⟩ | ⟨p, q, s⟩ | ⟨p, q, s, t⟩)
      · obtain ⟨e1, e2, e3, e4⟩ := dR_old (a := a) (b := b) (w := w) hr
        refine ⟨r, by show (r : Int) < nR d + 1; omega, hl.trans e4.symm, ?_⟩
        unfold rF rL at hh ⊢
        rw [e1, e2, e3]
        exact hh
      · exact ⟨(nR d).toNat, hlast, by rw [n4]; exact s, Or.inl ⟨by rw [m1]; exact p.symm, by rw [m2]; exact q.symm⟩⟩
      · exact ⟨(nR d).toNat, hlast, by rw [n4]; exact t, Or.inr ⟨by rw [n3]; exact p, by rw [m2]; exact q.symm, by rw [m1]; exact s.symm⟩⟩
  funext i k l
  apply propext
  rw [key]
  rcases hw with rfl | rfl
  · rw [if_pos rfl]
    unfold addE
    constructor
    · rintro (h | h | ⟨-, h⟩)
      · exact Or.inl (Or.inl h)
      · exact Or.inl (Or.inr h)
      · exact Or.inr h
    · rintro ((h | h) | h)
      · exact Or.inl h
      · exact Or.inr (Or.inl h)
      · exact Or.inr (Or.inr ⟨rfl, h⟩)
  · rw [if_neg (by decide)]
    unfold addE
    constructor
    · rintro (h | h | ⟨h, -⟩)
      · exact Or.inl h
      · exact Or.inr h
      · omega
    · rintro (h | h)
      · exact Or.inl h
      · exact Or.inr (Or.inl h)
