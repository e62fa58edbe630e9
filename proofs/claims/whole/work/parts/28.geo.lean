/-! what is near, and the cells -/
def held (x a b : Int) : Int := imax (imin a b) (imin x (imax a b))
def twd (a b t : Int) : Int := if a = b then a else if b ≤ a then a - t else a + t
theorem held_lt {x a b : Int} (h : a ≤ b) : held x a b = if x < a then a else if b < x then b else x := by
  unfold held imax imin
  (repeat' split) <;> omega
theorem held_gt {x a b : Int} (h : b ≤ a) : held x a b = if x < b then b else if a < x then a else x := by
  unfold held imax imin
  (repeat' split) <;> omega
theorem geo1 {a b t x : Int} (hab : a ≠ b) (ht : 0 ≤ t ∧ t ≤ iabs (a - b)) : iabs (twd a b t - x) = iabs (held x a b - x) + iabs (t - iabs (held x a b - a)) ∧ 0 ≤ iabs (held x a b - a) ∧ iabs (held x a b - a) ≤ iabs (a - b) := by
  unfold twd
  rw [if_neg hab]
  by_cases h : b ≤ a
  · rw [if_pos h, held_gt h]
    unfold iabs at ht ⊢
    rw [if_pos (show 0 ≤ a - b by omega)] at ht ⊢
    by_cases h1 : x < b
    · rw [if_pos h1]; (repeat' split) <;> omega
    · rw [if_neg h1]
      by_cases h2 : a < x
      · rw [if_pos h2]; (repeat' split) <;> omega
      · rw [if_neg h2]; (repeat' split) <;> omega
  · rw [if_neg h, held_lt (show a ≤ b by omega)]
    unfold iabs at ht ⊢
    rw [if_neg (show ¬ 0 ≤ a - b by omega)] at ht ⊢
    by_cases h1 : x < a
    · rw [if_pos h1]; (repeat' split) <;> omega
    · rw [if_neg h1]
      by_cases h2 : b < x
      · rw [if_pos h2]; (repeat' split) <;> omega
      · rw [if_neg h2]; (repeat' split) <;> omega
theorem geo0 {a t x : Int} : twd a a t = a ∧ held x a a = a := by
  refine ⟨by unfold twd; rw [if_pos rfl], ?_⟩
  rw [held_lt (Int.le_refl a)]
  (repeat' split) <;> omega
def apR (d : Dt) (r : Nat) (x y : Int) : Int := iabs (held x (cx d (rF d r)) (cx d (rL d r)) - x) + iabs (held y (cy d (rF d r)) (cy d (rL d r)) - y)
def ofR (d : Dt) (r : Nat) (x y : Int) : Int := iabs (held x (cx d (rF d r)) (cx d (rL d r)) - cx d (rF d r)) + iabs (held y (cy d (rF d r)) (cy d (rL d r)) - cy d (rF d r))
def dsR (d : Dt) (r : Nat) (t x y : Int) : Int := iabs (twd (cx d (rF d r)) (cx d (rL d r)) t - x) + iabs (twd (cy d (rF d r)) (cy d (rL d r)) t - y)
theorem iabs0 : iabs 0 = 0 := rfl
theorem geo2 {d : Dt} (hN : WN d) {r : Nat} (hr : (r : Int) < nR d) {t : Int} (ht : 0 ≤ t ∧ t ≤ len d r) (x y : Int) : dsR d r t x y = apR d r x y + iabs (t - ofR d r x y) ∧ 0 ≤ ofR d r x y ∧ ofR d r x y ≤ len d r := by
  have f1 := rF_lt hN hr
  have f2 := rL_lt hN hr
  obtain ⟨-, -, hne, hrow, -⟩ := hN.2.2.2.2 r hr
  have hpos : ¬ (cx d (rF d r) = cx d (rL d r) ∧ cy d (rF d r) = cy d (rL d r)) := fun hh => hne (by rw [← f1.1, ← f2.1, hN.2.2.2.1 _ _ f1.2.2 f2.2.2 hh.1 hh.2])
  unfold dsR apR ofR
  unfold len at ht ⊢
  generalize cx d (rF d r) = a at *
  generalize cx d (rL d r) = b at *
  generalize cy d (rF d r) = p at *
  generalize cy d (rL d r) = q at *
  rcases hrow with h | h
  · subst h
    have hpq : p ≠ q := fun h => hpos ⟨rfl, h⟩
    obtain ⟨e1, e2⟩ := geo0 (a := a) (t := t) (x := x)
    rw [e1, e2, Int.sub_self, iabs0] at *
    have := geo1 (a := p) (b := q) (t := t) (x := y) hpq (by omega)
    have e3 : (0 : Int) + iabs (held y p q - p) = iabs (held y p q - p) := by omega
    rw [e3]
    omega
  · subst h
    have hpq : a ≠ b := fun h => hpos ⟨h, rfl⟩
    obtain ⟨e1, e2⟩ := geo0 (a := p) (t := t) (x := y)
    rw [e1, e2, Int.sub_self, iabs0] at *
    have := geo1 (a := a) (b := b) (t := t) (x := x) hpq (by omega)
    have e3 : iabs (held x a b - a) + 0 = iabs (held x a b - a) := by omega
    rw [e3]
    omega
theorem held_b {x a b : Int} (ha : 0 ≤ a ∧ a ≤ 63) (hb : 0 ≤ b ∧ b ≤ 63) : 0 ≤ held x a b ∧ held x a b ≤ 63 := by
  by_cases h : a ≤ b
  · rw [held_lt h]; (repeat' split) <;> omega
  · rw [held_gt (by omega)]; (repeat' split) <;> omega
section CGEO
variable {M : Mm} {d : Dt}
theorem k_nearestX (hN : WN d) (hC : CN (M 3) (M 4) (M 5) (M 6) (M 7) (M 8) (M 9) (M 10) d) {v x : Int} (hv : 0 ≤ v ∧ v < nR d) : OK (fX0_nearestX M v x) (fun r => r = held x (cx d (rF d v.toNat)) (cx d (rL d v.toNat))) ∧ OK (fX0_nearestY M v x) (fun r => r = held x (cy d (rF d v.toNat)) (cy d (rL d v.toNat))) := by
  have hr : ((v.toNat : Nat) : Int) < nR d := by omega
  have n1 := hN.2.1
  have f1 := rF_lt hN hr
  have f2 := rL_lt hN hr
  have c4 := hC.2.2.2.1 _ hr
  have i1 : (M 6 v.toNat).toNat = rF d v.toNat := by rw [c4.1]; rfl
  have i2 : (M 7 v.toNat).toNat = rL d v.toNat := by rw [c4.2.1]; rfl
  have x1 := hC.2.2.1 _ f1.2.2
  have x2 := hC.2.2.1 _ f2.2.2
  constructor
  · unfold fX0_nearestX fX0_held
    refine ok_gd (by rw [c4.1, c4.2.1]; omega) (ok_some ?_)
    show _ = _
    rw [i1, i2, x1.1, x2.1]
    rfl
  · unfold fX0_nearestY fX0_held
    refine ok_gd (by rw [c4.1, c4.2.1]; omega) (ok_some ?_)
    show _ = _
    rw [i1, i2, x1.2, x2.2]
    rfl
theorem k_apartFromRoad (hN : WN d) (hC : CN (M 3) (M 4) (M 5) (M 6) (M 7) (M 8) (M 9) (M 10) d) {v x y : Int} (hv : 0 ≤ v ∧ v < nR d) (hx : 0 ≤ x ∧ x ≤ 63) (hy : 0 ≤ y ∧ y ≤ 63) : OK (fX0_apartFromRoad M v x y) (fun r => r = apR d v.toNat x y) := by
  have hr : ((v.toNat : Nat) : Int) < nR d := by omega
  have f1 := rF_lt hN hr
  have f2 := rL_lt hN hr
  have b1 := hN.2.2.1 _ f1.2.2
  have b2 := hN.2.2.1 _ f2.2.2
  have q1 := held_b (x := x) b1.1 b2.1
  have q2 := held_b (x := y) b1.2 b2.2
  unfold fX0_apartFromRoad apR
  refine ok_cal (k_hasRoad M v) (fun r1 h1 => ok_f (fun h => yes_f h1 h (by rw [hC.2.1]; exact hv)) ?_)
  refine ok_cal (k_nearestX hN hC hv).1 (fun r2 h2 => ok_gd (by omega) (ok_cal (k_nearestX hN hC hv).2 (fun r4 h4 => ok_gd (by omega) (ok_gd ?_ (ok_some ?_)))))
  · unfold iabs; (repeat' split) <;> omega
  · rw [h2, h4]
theorem k_nearestSpot (hN : WN d) (hC : CN (M 3) (M 4) (M 5) (M 6) (M 7) (M 8) (M 9) (M 10) d) {v x y : Int} (hv : 0 ≤ v ∧ v < nR d) (hx : 0 ≤ x ∧ x ≤ 63) (hy : 0 ≤ y ∧ y ≤ 63) : OK (fX0_nearestSpot M v x y) (fun r => r = 100 * v + ofR d v.toNat x y) := by
  have hr : ((v.toNat : Nat) : Int) < nR d := by omega
  have n1 := hN.2.1
  have f1 := rF_lt hN hr
  have f2 := rL_lt hN hr
  have b1 := hN.2.2.1 _ f1.2.2
  have b2 := hN.2.2.1 _ f2.2.2
  have c4 := hC.2.2.2.1 _ hr
  have i1 : (M 6 v.toNat).toNat = rF d v.toNat := by rw [c4.1]; rfl
  have x1 := hC.2.2.1 _ f1.2.2
  have q1 := held_b (x := x) b1.1 b2.1
  have q2 := held_b (x := y) b1.2 b2.2
  unfold fX0_nearestSpot ofR
  refine ok_cal (k_hasRoad M v) (fun r1 h1 => ok_f (fun h => yes_f h1 h (by rw [hC.2.1]; exact hv)) ?_)
  rw [i1, x1.1, x1.2]
  refine ok_cal (k_nearestX hN hC hv).1 (fun r2 h2 => ok_gd (by rw [c4.1]; omega) (ok_bnd (fun t4 e4 => ok_cal (k_nearestX hN hC hv).2 (fun r5 h5 => ok_gd (by rw [c4.1]; omega) (ok_bnd (fun t7 e7 => ?_))))))
  have z4 : 0 ≤ t4 ∧ t4 ≤ 63 := by rw [e4]; unfold iabs; split <;> omega
  have z7 : 0 ≤ t7 ∧ t7 ≤ 63 := by rw [e7]; unfold iabs; split <;> omega
  refine ok_gd (by omega) (ok_some ?_)
  rw [h2] at e4
  rw [h5] at e7
  rw [← e4, ← e7]
  omega
end CGEO
section MGEO
variable {M : Mm}
theorem k_towards {a b t : Int} (ha : 0 ≤ a ∧ a ≤ 63) (hb : 0 ≤ b ∧ b ≤ 63) (ht : 0 ≤ t ∧ t ≤ 63) : OK (fX5_towards M a b t) (fun r => r = twd a b t) := by
  unfold fX5_towards twd
  refine ok_if (fun h => ok_some (by rw [if_pos h])) (fun h => ok_if (fun h2 => ok_gd (by omega) (ok_some (by rw [if_neg h, if_pos h2]))) (fun h2 => ok_gd (by omega) (ok_some (by rw [if_neg h, if_neg h2]))))
theorem k_spotXY (hN : WN (mB M)) {v t : Int} (hv : 0 ≤ v ∧ v < nR (mB M)) (ht : 0 ≤ t ∧ t ≤ 63) : OK (fX5_spotX M v t) (fun r => r = twd (cx (mB M) (rF (mB M) v.toNat)) (cx (mB M) (rL (mB M) v.toNat)) t) ∧ OK (fX5_spotY M v t) (fun r => r = twd (cy (mB M) (rF (mB M) v.toNat)) (cy (mB M) (rL (mB M) v.toNat)) t) := by
  have hr : ((v.toNat : Nat) : Int) < nR (mB M) := by omega
  have n0 := hN.1
  have n1 := hN.2.1
  have f1 := rF_lt hN hr
  have f2 := rL_lt hN hr
  have b1 := hN.2.2.1 _ f1.2.2
  have b2 := hN.2.2.1 _ f2.2.2
  have g1 : M 74 v.toNat = ((rF (mB M) v.toNat : Nat) : Int) := f1.1.symm
  have g2 : M 75 v.toNat = ((rL (mB M) v.toNat : Nat) : Int) := f2.1.symm
  constructor
  · unfold fX5_spotX
    refine ok_gd (by omega) (ok_cal (P1 := fun r => r = twd (cx (mB M) (rF (mB M) v.toNat)) (cx (mB M) (rL (mB M) v.toNat)) t) (k_towards b1.1 b2.1 ht) (fun r h => ok_some h))
  · unfold fX5_spotY
    refine ok_gd (by omega) (ok_cal (P1 := fun r => r = twd (cy (mB M) (rF (mB M) v.toNat)) (cy (mB M) (rL (mB M) v.toNat)) t) (k_towards b1.2 b2.2 ht) (fun r h => ok_some h))
theorem twd_b {a b t : Int} (ha : 0 ≤ a ∧ a ≤ 63) (hb : 0 ≤ b ∧ b ≤ 63) (ht : 0 ≤ t ∧ t ≤ 63) : -200 ≤ twd a b t ∧ twd a b t ≤ 200 := by
  unfold twd
  (repeat' split) <;> omega
theorem k_dist (hN : WN (mB M)) {v t x y : Int} (hv : 0 ≤ v ∧ v < nR (mB M)) (ht : 0 ≤ t ∧ t ≤ 63) (hx : 0 ≤ x ∧ x ≤ 63) (hy : 0 ≤ y ∧ y ≤ 63) {r8 r9 : Int} (h8 : r8 = twd (cx (mB M) (rF (mB M) v.toNat)) (cx (mB M) (rL (mB M) v.toNat)) t) (h9 : r9 = twd (cy (mB M) (rF (mB M) v.toNat)) (cy (mB M) (rL (mB M) v.toNat)) t) : OK (fX5_apart M r8 r9 x y) (fun r => r = dsR (mB M) v.toNat t x y) := by
  have hr : ((v.toNat : Nat) : Int) < nR (mB M) := by omega
  have f1 := rF_lt hN hr
  have f2 := rL_lt hN hr
  have b1 := hN.2.2.1 _ f1.2.2
  have b2 := hN.2.2.1 _ f2.2.2
  have z1 := twd_b b1.1 b2.1 ht
  have z2 := twd_b b1.2 b2.2 ht
  refine ok_mono (k_apart M r8 r9 x y (by omega)) (fun r h => ?_)
  rw [h, h8, h9]
  rfl
theorem k_nearestL (hN : WN (mB M)) {v x y : Int} (hv : 0 ≤ v ∧ v < nR (mB M)) (hx : 0 ≤ x ∧ x ≤ 63) (hy : 0 ≤ y ∧ y ≤ 63) : ∀ (n : Nat) (w u : Int), 1 ≤ u → u ≤ len (mB M) v.toNat + 1 → 64 < (n : Int) + u → w = (if u - 1 < ofR (mB M) v.toNat x y then u - 1 else ofR (mB M) v.toNat x y) → OK (fX5_nearest_L6 v x y M n w u) (fun r => r = ofR (mB M) v.toNat x y) := by
  have hr : ((v.toNat : Nat) : Int) < nR (mB M) := by omega
  have hl := len_b hN hr
  intro n
  induction n with
  | zero => intro w u h0 h1 h2; omega
  | succ n ih =>
    intro w u h0 h1 h2 h3
    have go := (geo2 hN hr (t := 0) (by omega) x y).2
    have hw : 0 ≤ w ∧ w ≤ len (mB M) v.toNat := by rw [h3]; split <;> omega
    unfold fX5_nearest_L6
    refine ok_cal (k_length M hN v hv) (fun r3 e3 => ?_)
    refine ok_if (fun h => ok_some ?_) (fun h => ?_)
    · rw [h3]; split <;> omega
    · refine ok_jn ?_
      refine ok_cal (k_spotXY hN hv (t := u) (by omega)).1 (fun r8 e8 => ok_cal (k_spotXY hN hv (t := u) (by omega)).2 (fun r9 e9 => ok_cal (k_dist hN hv (t := u) (by omega) hx hy e8 e9) (fun r10 e10 => ?_)))
      refine ok_cal (k_spotXY hN hv (t := w) (by omega)).1 (fun r11 e11 => ok_cal (k_spotXY hN hv (t := w) (by omega)).2 (fun r12 e12 => ok_cal (k_dist hN hv (t := w) (by omega) hx hy e11 e12) (fun r13 e13 => ?_)))
      have g1 := (geo2 hN hr (t := u) (by omega) x y).1
      have g2 := (geo2 hN hr (t := w) (by omega) x y).1
      rw [g1] at e10
      rw [g2] at e13
      unfold iabs at e10 e13
      refine ok_if (fun h7 => ok_gd (by omega) (ih w (u + 1) (by omega) (by omega) (by omega) ?_)) (fun h7 => ok_gd (by omega) (ih u (u + 1) (by omega) (by omega) (by omega) ?_))
      · (repeat' split) <;> (try split at h3) <;> (try split at e10) <;> (try split at e13) <;> omega
      · (repeat' split) <;> (try split at h3) <;> (try split at e10) <;> (try split at e13) <;> omega
theorem k_nearest (hN : WN (mB M)) {v x y : Int} (hv : 0 ≤ v ∧ v < nR (mB M)) (hx : 0 ≤ x ∧ x ≤ 63) (hy : 0 ≤ y ∧ y ≤ 63) : OK (fX5_nearest M v x y) (fun r => r = ofR (mB M) v.toNat x y) := by
  have hr : ((v.toNat : Nat) : Int) < nR (mB M) := by omega
  have hl := len_b hN hr
  have go := (geo2 hN hr (t := 0) (by omega) x y).2
  unfold fX5_nearest
  refine k_nearestL hN hv hx hy 1000 0 1 (by omega) (by omega) (by omega) ?_
  split <;> omega
end MGEO
