/-! the crossings on the way -/
def ldF (d : Dt) (r : Nat) (a : Int) : Int := if rf d r = a then rl d r else if rl d r = a ∧ rw' d r = 0 then rf d r else -6
abbrev cdF (d : Dt) (G : Nat → Nat → Int) (a t : Int) (r : Nat) : Prop := ldF d r a ≠ -6 ∧ G (ldF d r a).toNat t.toNat ≠ -6 ∧ len d r + G (ldF d r a).toNat t.toNat = G a.toNat t.toNat
def ncF (d : Dt) (G : Nat → Nat → Int) (a t : Int) : Nat → Int
  | 0 => -6
  | r + 1 => if cdF d G a t r ∧ (ncF d G a t r = -6 ∨ ldF d r a < ncF d G a t r) then ldF d r a else ncF d G a t r
def thr (d : Dt) (G : Nat → Nat → Int) (t : Int) : Nat → Int → Int
  | 0, a => a
  | k + 1, a => if a = t then -6 else thr d G t k (ncF d G a t (nR d).toNat)
theorem ncF_spec (d : Dt) (G : Nat → Nat → Int) (a t : Int) : ∀ n : Nat, (ncF d G a t n = -6 ∧ ∀ r, r < n → ¬ cdF d G a t r) ∨ ∃ r, r < n ∧ ncF d G a t n = ldF d r a ∧ cdF d G a t r
  | 0 => Or.inl ⟨rfl, fun r hr => by omega⟩
  | n + 1 => by
    have ih := ncF_spec d G a t n
    unfold ncF
    split
    · rename_i h
      exact Or.inr ⟨n, by omega, rfl, h.1⟩
    · rename_i h
      rcases ih with ⟨x, y⟩ | ⟨r, x, y, z⟩
      · refine Or.inl ⟨x, fun r hr h9 => ?_⟩
        by_cases hrn : r = n
        · rw [hrn] at h9; exact h ⟨h9, Or.inl x⟩
        · exact y r (by omega) h9
      · exact Or.inr ⟨r, by omega, y, z⟩
theorem ld_eg {d : Dt} (hN : WN d) {r : Nat} {a : Int} (hr : (r : Int) < nR d) (h : ldF d r a ≠ -6) : (0 ≤ ldF d r a ∧ ldF d r a < nC d) ∧ eg d a.toNat (ldF d r a).toNat (len d r) := by
  obtain ⟨e1, -, l1⟩ := rF_lt hN hr
  obtain ⟨e2, -, l2⟩ := rL_lt hN hr
  unfold ldF at *
  by_cases h1 : rf d r = a
  · rw [if_pos h1] at h ⊢
    exact ⟨by omega, r, hr, rfl, Or.inl ⟨by unfold rF; rw [h1], rfl⟩⟩
  · rw [if_neg h1] at h ⊢
    by_cases h2 : rl d r = a ∧ rw' d r = 0
    · rw [if_pos h2] at h ⊢
      exact ⟨by omega, r, hr, rfl, Or.inr ⟨h2.2, by unfold rL; rw [h2.1], rfl⟩⟩
    · rw [if_neg h2] at h; exact absurd rfl h
theorem eg_ld {d : Dt} (hN : WN d) {a k : Nat} {w : Int} (h : eg d a k w) : ∃ r : Nat, (r : Int) < nR d ∧ w = len d r ∧ ldF d r a = (k : Int) := by
  obtain ⟨r, hr, e, h1⟩ := h
  obtain ⟨e1, -, l1⟩ := rF_lt hN hr
  obtain ⟨e2, -, l2⟩ := rL_lt hN hr
  have hne := (hN.2.2.2.2 r hr).2.2.1
  refine ⟨r, hr, e, ?_⟩
  unfold ldF
  rcases h1 with ⟨a1, a2⟩ | ⟨a0, a1, a2⟩
  · rw [if_pos (by omega)]; omega
  · rw [if_neg (by omega), if_pos ⟨by omega, a0⟩]; omega
/-- from a crossing that is not the goal a road leads on -/
theorem ncF_on {d : Dt} (hN : WN d) {G : Nat → Nat → Int} (hG : DM (nC d) (eg d) G) {a t : Int} (ha : 0 ≤ a ∧ a < nC d) (ht : 0 ≤ t ∧ t < nC d) (hat : a ≠ t) (h : G a.toNat t.toNat ≠ -6) : (0 ≤ ncF d G a t (nR d).toNat ∧ ncF d G a t (nR d).toNat < nC d) ∧ G (ncF d G a t (nR d).toNat).toNat t.toNat ≠ -6 ∧ nearer G (nC d).toNat (ncF d G a t (nR d).toNat).toNat t.toNat + 1 ≤ nearer G (nC d).toNat a.toNat t.toNat := by
  have hE := eg_b hN
  rcases ncF_spec d G a t (nR d).toNat with ⟨-, x⟩ | ⟨r, r1, r2, r3⟩
  · obtain ⟨k, w, e1, e2, e3⟩ := DM_next hE hG (i := a.toNat) (j := t.toNat) (by omega) (by omega) (by omega) h
    obtain ⟨r, s1, s2, s3⟩ := eg_ld hN e1
    rw [show ((a.toNat : Nat) : Int) = a by omega] at s3
    refine absurd ?_ (x r (by omega))
    unfold cdF
    rw [s3, tn]
    exact ⟨by omega, e2, by omega⟩
  · obtain ⟨c1, c2, c3⟩ := r3
    obtain ⟨b1, b2⟩ := ld_eg hN (by omega) c1
    rw [r2]
    exact ⟨b1, c2, nearer_next hE b2 c2 c3.symm⟩
theorem nearer_11 {d : Dt} (hN : WN d) {G : Nat → Nat → Int} {a t : Int} (ha : 0 ≤ a ∧ a < nC d) : nearer G (nC d).toNat a.toNat t.toNat + 1 ≤ 12 := by
  have h1 : nearer G (nC d).toNat a.toNat t.toNat + 1 ≤ cN (fun _ => true) (nC d).toNat := by
    refine cN_lt _ (fun _ _ _ => rfl) ⟨a.toNat, by omega, rfl, ?_⟩
    simp only [decide_eq_false_iff_not]; omega
  have h2 := cN_le (fun _ => true) (nC d).toNat
  have := hN.1
  omega
section CT
variable {M : Mm} {d : Dt}
theorem k_leastBetween (hN : WN d) (hC : CN (M 3) (M 4) (M 5) (M 6) (M 7) (M 8) (M 9) (M 10) d) (x y : Int) : OK (fX0_leastBetween M x y) (fun r => ((0 ≤ x ∧ x < nC d) ∧ (0 ≤ y ∧ y < nC d) ∧ r = M 10 (12 * x.toNat + y.toNat)) ∨ (¬ ((0 ≤ x ∧ x < nC d) ∧ (0 ≤ y ∧ y < nC d)) ∧ r = -6)) := by
  have n12 := hN.1
  have e0 := hC.1
  unfold fX0_leastBetween
  have hx := k_hasCrossing M x
  have hy := k_hasCrossing M y
  rw [e0] at hx hy
  refine ok_jn (ok_cal hx (fun r h => ok_if (fun q => ok_some (Or.inr ⟨fun h9 => yes_f h q h9.1, rfl⟩)) (fun q => ok_cal hy (fun r2 h2 => ok_if (fun q2 => ok_some (Or.inr ⟨fun h9 => yes_f h2 q2 h9.2, rfl⟩)) (fun q2 => ?_)))))
  have a1 := yes_t h q
  have a2 := yes_t h2 q2
  refine ok_cal (k_pair M (i := x) (j := y) (by omega) (by omega)) (fun r4 h4 => ok_gd (by omega) (ok_some (Or.inl ⟨a1, a2, ?_⟩)))
  rw [show r4.toNat = 12 * x.toNat + y.toNat by omega]
theorem k_leadsFrom (hN : WN d) (hC : CN (M 3) (M 4) (M 5) (M 6) (M 7) (M 8) (M 9) (M 10) d) (r : Int) (hr : 0 ≤ r ∧ r < nR d) (a : Int) : OK (fX0_leadsFrom M r a) (fun x => x = ldF d r.toNat a) := by
  have n20 := hN.2.1
  obtain ⟨q1, q2, q3, -⟩ := hC.2.2.2.1 r.toNat (by omega)
  unfold fX0_leadsFrom ldF
  rw [q1, q2, q3]
  refine ok_gd (by omega) (ok_if (fun z => ok_gd (by omega) (ok_some (by rw [if_pos z]))) (fun z => ok_jn (ok_gd (by omega) (ok_if (fun z2 => ok_gd (by omega) (ok_if (fun z3 => ok_gd (by omega) (ok_some (by rw [if_neg z, if_pos ⟨z2, z3⟩]))) (fun z3 => ok_some (by rw [if_neg z, if_neg (fun h9 => z3 h9.2)])))) (fun z2 => ok_some (by rw [if_neg z, if_neg (fun h9 => z2 h9.1)]))))))
theorem k_nextCrossingL (hN : WN d) (hC : CN (M 3) (M 4) (M 5) (M 6) (M 7) (M 8) (M 9) (M 10) d) {a t : Int} (ha : 0 ≤ a ∧ a < nC d) (ht : 0 ≤ t ∧ t < nC d) {g : Int} (hg : g = M 10 (12 * a.toNat + t.toNat)) (h : g ≠ -6) : ∀ (n : Nat) (v : Int), 0 ≤ v → v ≤ nR d → 20 < (n : Int) + v → OK (fX0_nextCrossing_L14 a t M n (ncF d (fun i j => M 10 (12 * i + j)) a t v.toNat) g v) (fun r => r = ncF d (fun i j => M 10 (12 * i + j)) a t (nR d).toNat) := by
  have n20 := hN.2.1
  have hDM := hC.2.2.2.2
  intro n
  induction n with
  | zero => intro v h0 h1 h2; omega
  | succ n ih =>
    intro v h0 h1 h2
    unfold fX0_nextCrossing_L14
    rw [hC.2.1]
    refine ok_f h (ok_if (fun z => ok_some (by rw [show v = nR d by omega])) (fun z => ?_))
    have ihv := ih (v + 1) (by omega) (by omega) (by omega)
    have e5 : (v + 1).toNat = v.toNat + 1 := by omega
    have el : ncF d (fun i j => M 10 (12 * i + j)) a t (v.toNat + 1) = if cdF d (fun i j => M 10 (12 * i + j)) a t v.toNat ∧ (ncF d (fun i j => M 10 (12 * i + j)) a t v.toNat = -6 ∨ ldF d v.toNat a < ncF d (fun i j => M 10 (12 * i + j)) a t v.toNat) then ldF d v.toNat a else ncF d (fun i j => M 10 (12 * i + j)) a t v.toNat := rfl
    rw [e5, el] at ihv
    have inr1 : inR (v + 1) := ⟨by omega, by omega⟩
    have elen : M 9 v.toNat = len d v.toNat := (hC.2.2.2.1 v.toNat (by omega)).2.2.2
    have lb := len_b hN (r := v.toNat) (by omega)
    have keep : ¬ (cdF d (fun i j => M 10 (12 * i + j)) a t v.toNat ∧ (ncF d (fun i j => M 10 (12 * i + j)) a t v.toNat = -6 ∨ ldF d v.toNat a < ncF d (fun i j => M 10 (12 * i + j)) a t v.toNat)) → OK (fX0_nextCrossing_L14 a t M n (ncF d (fun i j => M 10 (12 * i + j)) a t v.toNat) g (v + 1)) (fun r => r = ncF d (fun i j => M 10 (12 * i + j)) a t (nR d).toNat) := fun h9 => by rw [if_neg h9] at ihv; exact ihv
    refine ok_jn (ok_cal (k_leadsFrom hN hC v ⟨h0, by omega⟩ a) (fun r10 h10 => ok_cal (k_leastBetween hN hC r10 t) (fun r11 h11 => ?_)))
    by_cases hl : ldF d v.toNat a = -6
    · have : r11 = -6 := by omega
      exact ok_t this (ok_gd inr1 (keep (fun h9 => h9.1.1 hl)))
    · obtain ⟨b1, b2⟩ := ld_eg hN (by omega) hl
      have e11 : r11 = M 10 (12 * (ldF d v.toNat a).toNat + t.toNat) := by
        rcases h11 with ⟨-, -, x⟩ | ⟨x, -⟩
        · rw [x, h10]
        · exact absurd ⟨by omega, ht⟩ x
      have hb := DM_b (eg_b hN) hDM (i := (ldF d v.toNat a).toNat) (j := t.toNat) (by omega) (by omega)
      rw [← e11] at hb
      refine ok_if (fun z2 => ok_gd inr1 (keep (fun h9 => h9.1.2.1 (by dsimp only; rw [← e11]; exact z2)))) (fun z2 => ?_)
      rw [elen]
      refine ok_gd ⟨by omega, ⟨by omega, by omega⟩⟩ (ok_if (fun z3 => ok_jn ?_) (fun z3 => ok_gd inr1 (keep (fun h9 => z3 ?_))))
      · have hcd : cdF d (fun i j => M 10 (12 * i + j)) a t v.toNat := ⟨hl, by dsimp only; rw [← e11]; exact z2, by dsimp only; rw [← e11, ← hg]; exact z3⟩
        refine ok_if (fun z4 => ok_gd inr1 ?_) (fun z4 => ok_if (fun z5 => ok_gd inr1 (keep (fun h9 => ?_))) (fun z5 => ok_gd inr1 ?_))
        · rw [if_pos ⟨hcd, Or.inl z4⟩, ← h10] at ihv; exact ihv
        · rcases h9.2 with h9 | h9
          · exact z4 h9
          · omega
        · rw [if_pos ⟨hcd, Or.inr (by omega)⟩, ← h10] at ihv; exact ihv
      · have := h9.1.2.2
        dsimp only at this
        rw [← e11, ← hg] at this
        exact this
theorem k_nextCrossing (hN : WN d) (hC : CN (M 3) (M 4) (M 5) (M 6) (M 7) (M 8) (M 9) (M 10) d) {a t : Int} (ha : 0 ≤ a ∧ a < nC d) (ht : 0 ≤ t ∧ t < nC d) (h : M 10 (12 * a.toNat + t.toNat) ≠ -6) : OK (fX0_nextCrossing M a t) (fun r => r = ncF d (fun i j => M 10 (12 * i + j)) a t (nR d).toNat) := by
  unfold fX0_nextCrossing
  refine ok_cal (k_leastBetween hN hC a t) (fun r h1 => ?_)
  have e : r = M 10 (12 * a.toNat + t.toNat) := by
    rcases h1 with ⟨-, -, x⟩ | ⟨x, -⟩
    · exact x
    · exact absurd ⟨ha, ht⟩ x
  exact k_nextCrossingL hN hC ha ht e (by rw [e]; exact h) 1000 0 (by omega) hN.2.1.1 (by omega)
theorem k_onWayL (hN : WN d) (hC : CN (M 3) (M 4) (M 5) (M 6) (M 7) (M 8) (M 9) (M 10) d) (x1 x2 x3 : Int) {t : Int} (ht : 0 ≤ t ∧ t < nC d) : ∀ (n : Nat) (a v : Int), (0 ≤ a ∧ a < nC d) → M 10 (12 * a.toNat + t.toNat) ≠ -6 → 0 ≤ v → v ≤ x3 → (nearer (fun i j => M 10 (12 * i + j)) (nC d).toNat a.toNat t.toNat : Int) + v ≤ 11 → 12 < (n : Int) + v → OK (fX0_crossingOnWay_L54 x1 x2 x3 M n a t v) (fun r => r = thr d (fun i j => M 10 (12 * i + j)) t (x3 - v).toNat a) := by
  intro n
  induction n with
  | zero => intro a v h0 h1 h2 h3 h4 h5; omega
  | succ n ih =>
    intro a v h0 h1 h2 h3 h4 h5
    unfold fX0_crossingOnWay_L54
    refine ok_if (fun z => ok_some ?_) (fun z => ok_f (by omega) (ok_if (fun z2 => ok_some ?_) (fun z2 => ?_)))
    · rw [show (x3 - v).toNat = 0 by omega]; rfl
    · rw [show (x3 - v).toNat = (x3 - v - 1).toNat + 1 by omega]
      unfold thr
      rw [if_pos z2]
    · obtain ⟨p1, p2, p3⟩ := ncF_on hN hC.2.2.2.2 h0 ht z2 h1
      refine ok_cal (k_nextCrossing hN hC h0 ht h1) (fun r9 h9 => ok_gd ⟨by omega, by omega⟩ ?_)
      rw [← h9] at p1 p2 p3
      refine ok_mono (ih r9 (v + 1) p1 p2 (by omega) (by omega) (by omega) (by omega)) (fun r hr => ?_)
      rw [hr, show (x3 - v).toNat = (x3 - (v + 1)).toNat + 1 by omega]
      conv => { rhs; unfold thr }
      rw [if_neg z2, ← h9]
end CT
section MT
variable {M : Mm} {G : Nat → Nat → Int}
theorem k_onwardL (hN : WN (mB M)) (hG : DM (nC (mB M)) (eg (mB M)) G) (hF : farOf (nC (mB M)) G (M 80)) {a t : Int} (ha : 0 ≤ a ∧ a < nC (mB M)) (ht : 0 ≤ t ∧ t < nC (mB M)) (h : G a.toNat t.toNat ≠ -6) : ∀ (n : Nat) (v : Int), 0 ≤ v → v ≤ nR (mB M) → 20 < (n : Int) + v → OK (fX5_onward_L6 a t M n (ncF (mB M) G a t v.toNat) v) (fun r => r = ncF (mB M) G a t (nR (mB M)).toNat) := by
  have n20 := hN.2.1
  have n12 := hN.1
  intro n
  induction n with
  | zero => intro v h0 h1 h2; omega
  | succ n ih =>
    intro v h0 h1 h2
    unfold fX5_onward_L6
    refine ok_if (fun z => ok_some (by rw [show v = nR (mB M) from Int.le_antisymm h1 z])) (fun z => ?_)
    have z' : v < nR (mB M) := Int.not_le.mp z
    have ihv := ih (v + 1) (by omega) (by omega) (by omega)
    have e5 : (v + 1).toNat = v.toNat + 1 := by omega
    have el : ncF (mB M) G a t (v.toNat + 1) = if cdF (mB M) G a t v.toNat ∧ (ncF (mB M) G a t v.toNat = -6 ∨ ldF (mB M) v.toNat a < ncF (mB M) G a t v.toNat) then ldF (mB M) v.toNat a else ncF (mB M) G a t v.toNat := rfl
    rw [e5, el] at ihv
    have inr1 : inR (v + 1) := ⟨by omega, by omega⟩
    have lb := len_b hN (r := v.toNat) (by omega)
    have hbat := DM_b (eg_b hN) hG (i := a.toNat) (j := t.toNat) (by omega) (by omega)
    have hfat := hF a.toNat t.toNat (by omega) (by omega)
    rw [if_neg h] at hfat
    have hnc : ncF (mB M) G a t v.toNat = -6 ∨ 0 ≤ ncF (mB M) G a t v.toNat := by
      rcases ncF_spec (mB M) G a t v.toNat with ⟨x, -⟩ | ⟨r, r1, r2, r3⟩
      · exact Or.inl x
      · rw [r2]; exact Or.inr (ld_eg hN (by omega) r3.1).1.1
    refine ok_jnK (fun K6 => OK (K6 (ncF (mB M) G a t v.toNat) v (ldF (mB M) v.toNat a)) (fun r => r = ncF (mB M) G a t (nR (mB M)).toNat)) (ok_jn ?_) (fun K6 hK6 => ?_)
    · by_cases hl : ldF (mB M) v.toNat a = -6
      · refine ok_t (by omega) (ok_gd inr1 ?_)
        rw [if_neg (fun h9 => h9.1.1 hl)] at ihv; exact ihv
      · obtain ⟨b1, b2⟩ := ld_eg hN (by omega) hl
        have hfc := hF (ldF (mB M) v.toNat a).toNat t.toNat (by omega) (by omega)
        have hbc := DM_b (eg_b hN) hG (i := (ldF (mB M) v.toNat a).toNat) (j := t.toNat) (by omega) (by omega)
        refine ok_f (by omega) (ok_cal (k_length M hN v ⟨h0, z'⟩) (fun r11 h11 => ?_))
        rw [show (12 * ldF (mB M) v.toNat a + t).toNat = 12 * (ldF (mB M) v.toNat a).toNat + t.toNat by omega, show (12 * a + t).toNat = 12 * a.toNat + t.toNat by omega, hfc, hfat]
        have hfb : 0 ≤ (if G (ldF (mB M) v.toNat a).toNat t.toNat = -6 then (1000000 : Int) else G (ldF (mB M) v.toNat a).toNat t.toNat) ∧ (if G (ldF (mB M) v.toNat a).toNat t.toNat = -6 then (1000000 : Int) else G (ldF (mB M) v.toNat a).toNat t.toNat) ≤ 1000000 := by split <;> omega
        refine ok_gd ⟨⟨by omega, by omega⟩, ⟨by omega, by omega⟩, by omega, ⟨by omega, by omega⟩, ⟨by omega, by omega⟩, ⟨by omega, by omega⟩, by omega⟩ (ok_if (fun z3 => ok_jn (ok_jn ?_)) (fun z3 => ok_gd inr1 ?_))
        · have hG6 : G (ldF (mB M) v.toNat a).toNat t.toNat ≠ -6 := fun h9 => by rw [if_pos h9] at z3; omega
          rw [if_neg hG6] at z3
          have hcd : cdF (mB M) G a t v.toNat := ⟨hl, hG6, by omega⟩
          refine ok_if (fun z4 => ok_gd inr1 ?_) (fun z4 => ok_if (fun z5 => ok_gd inr1 ?_) (fun z5 => ok_gd inr1 ?_))
          · rw [if_pos ⟨hcd, Or.inl (by omega)⟩] at ihv; exact ihv
          · rw [if_neg (fun h9 => by rcases h9.2 with h9 | h9 <;> omega)] at ihv; exact ihv
          · rw [if_pos ⟨hcd, Or.inr (by omega)⟩] at ihv; exact ihv
        · rw [if_neg (fun h9 => z3 (by rw [if_neg h9.1.2.1]; have := h9.1.2.2; omega))] at ihv; exact ihv
    · have el2 : ldF (mB M) v.toNat a = if M 74 v.toNat = a then M 75 v.toNat else if M 75 v.toNat = a ∧ M 76 v.toNat = 0 then M 74 v.toNat else -6 := rfl
      rw [el2] at hK6
      refine ok_gd (by omega) (ok_if (fun z1 => ok_gd (by omega) ?_) (fun z1 => ok_jn (ok_gd (by omega) (ok_if (fun z2 => ok_gd (by omega) (ok_if (fun z3 => ok_gd (by omega) ?_) (fun z3 => ?_))) (fun z2 => ?_)))))
      · rw [if_pos z1] at hK6; exact hK6
      · rw [if_neg z1, if_pos ⟨z2, z3⟩] at hK6; exact hK6
      · rw [if_neg z1, if_neg (fun h9 => z3 h9.2)] at hK6; exact hK6
      · rw [if_neg z1, if_neg (fun h9 => z2 h9.1)] at hK6; exact hK6
theorem k_onward (hN : WN (mB M)) (hG : DM (nC (mB M)) (eg (mB M)) G) (hF : farOf (nC (mB M)) G (M 80)) {a t : Int} (ha : 0 ≤ a ∧ a < nC (mB M)) (ht : 0 ≤ t ∧ t < nC (mB M)) (h : G a.toNat t.toNat ≠ -6) : OK (fX5_onward M a t) (fun r => r = ncF (mB M) G a t (nR (mB M)).toNat) := by
  unfold fX5_onward
  exact k_onwardL hN hG hF ha ht h 1000 0 (by omega) hN.2.1.1 (by omega)
theorem k_throughL (hN : WN (mB M)) (hG : DM (nC (mB M)) (eg (mB M)) G) (hF : farOf (nC (mB M)) G (M 80)) (x1 x2 : Int) {t : Int} (ht : 0 ≤ t ∧ t < nC (mB M)) : ∀ (n : Nat) (a v : Int), (0 ≤ a ∧ a < nC (mB M)) → G a.toNat t.toNat ≠ -6 → 0 ≤ v → v ≤ x2 → (nearer G (nC (mB M)).toNat a.toNat t.toNat : Int) + v ≤ 11 → 12 < (n : Int) + v → OK (fX5_through_L155 x1 x2 n a t v M) (fun r => r.1 = thr (mB M) G t (x2 - v).toNat a ∧ r.2 = M) := by
  intro n
  induction n with
  | zero => intro a v h0 h1 h2 h3 h4 h5; omega
  | succ n ih =>
    intro a v h0 h1 h2 h3 h4 h5
    unfold fX5_through_L155
    refine ok_if (fun z => ok_some ⟨?_, rfl⟩) (fun z => ok_if (fun z2 => ok_some ⟨?_, rfl⟩) (fun z2 => ?_))
    · rw [show (x2 - v).toNat = 0 by omega]; rfl
    · rw [show (x2 - v).toNat = (x2 - v - 1).toNat + 1 by omega]
      unfold thr
      rw [if_pos z2]
    · obtain ⟨p1, p2, p3⟩ := ncF_on hN hG h0 ht z2 h1
      refine ok_cal (k_onward hN hG hF h0 ht h1) (fun r9 h9 => ok_gd ⟨by omega, by omega⟩ ?_)
      rw [← h9] at p1 p2 p3
      refine ok_mono (ih r9 (v + 1) p1 p2 (by omega) (by omega) (by omega) (by omega)) (fun r hr => ⟨?_, hr.2⟩)
      rw [hr.1, show (x2 - v).toNat = (x2 - (v + 1)).toNat + 1 by omega]
      conv => { rhs; unfold thr }
      rw [if_neg z2, ← h9]
end MT
