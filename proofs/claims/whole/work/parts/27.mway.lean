/-! the reference's ways -/
def frC (x : Int) : Int := if x = -6 then 1000000 else x
section MWAY
variable {M : Mm} {G : Nat → Nat → Int}
theorem k_out (hN : WN (mB M)) (hG : DM (nC (mB M)) (eg (mB M)) G) (hF : farOf (nC (mB M)) G (M 80)) {s t h : Int} (hs : Sp (mB M) s) (ht : Sp (mB M) t) (hh : 0 ≤ h ∧ h ≤ 4) : OK (fX5_out M h s t) (fun r => r = frC (oL (mB M) G s t h)) := by
  have a := Sp_b hN hs
  have b := Sp_b hN ht
  have n0 := hN.1
  have n1 := hN.2.1
  have wa := hN.2.2.2.2 _ a.1
  have wt := hN.2.2.2.2 _ b.1
  have f1 := rF_lt hN a.1
  have f2 := rL_lt hN a.1
  have f3 := rF_lt hN b.1
  have f4 := rL_lt hN b.1
  have l1 := len_b hN a.1
  have l2 := len_b hN b.1
  have s1 := hs.2.2
  have s2 := ht.2.2
  have hE := eg_b hN
  have g1 := DM_b hE hG f1.2.2 f3.2.2
  have g2 := DM_b hE hG f1.2.2 f4.2.2
  have g3 := DM_b hE hG f2.2.2 f3.2.2
  have g4 := DM_b hE hG f2.2.2 f4.2.2
  have r1 := hF _ _ f1.2.2 f3.2.2
  have r2 := hF _ _ f1.2.2 f4.2.2
  have r3 := hF _ _ f2.2.2 f3.2.2
  have r4 := hF _ _ f2.2.2 f4.2.2
  have kl : ∀ v : Int, v = ((sr s : Nat) : Int) → OK (fX5_length M v) (fun r => r = len (mB M) (sr s)) := by
    intro v hv
    have h2 := k_length M hN v (by have := a.1; rw [hv]; exact ⟨by omega, this⟩)
    have e : v.toNat = sr s := by omega
    rw [e] at h2
    exact h2
  have kt : ∀ v : Int, v = ((sr t : Nat) : Int) → OK (fX5_length M v) (fun r => r = len (mB M) (sr t)) := by
    intro v hv
    have h2 := k_length M hN v (by have := b.1; rw [hv]; exact ⟨by omega, this⟩)
    have e : v.toNat = sr t := by omega
    rw [e] at h2
    exact h2
  have m74 : ∀ r : Nat, M 74 r = rf (mB M) r := fun _ => rfl
  have m75 : ∀ r : Nat, M 75 r = rl (mB M) r := fun _ => rfl
  have m76 : ∀ r : Nat, M 76 r = rw' (mB M) r := fun _ => rfl
  unfold fX5_out
  refine ok_bnd (fun t1 e1 => ok_bnd (fun t2 e2 => ok_bnd (fun t3 e3 => ok_bnd (fun t4 e4 => ?_))))
  rw [a.2.2.1] at e1
  rw [a.2.2.2.1] at e2
  rw [b.2.2.1] at e3
  rw [b.2.2.2.1] at e4
  have i1 : t1.toNat = sr s := by omega
  have i3 : t3.toNat = sr t := by omega
  have z1 : 0 ≤ t1 ∧ t1 < 20 := by have := a.1; omega
  have z3 : 0 ≤ t3 ∧ t3 < 20 := by have := b.1; omega
  refine ok_if (fun h0 => ?_) (fun h0 => ?_)
  · rw [h0, oL_0]
    have al : (rw' (mB M) (sr s) = 0 ∨ so s ≤ so t) → sr s = sr t → OK (cal (fX5_off M t2 t4) (fun r79 => some r79)) (fun r => r = frC (o0 (mB M) s t)) := by
      intro h5 h6
      refine ok_cal (k_off M t2 t4 (by omega) (by omega)) (fun r hr => ok_some ?_)
      unfold o0
      rw [if_pos ⟨h6, h5⟩, hr, e2, e4]
      unfold frC iabs
      (repeat' split) <;> omega
    have no : ¬ (sr s = sr t ∧ (rw' (mB M) (sr s) = 0 ∨ so s ≤ so t)) → OK (some (1000000 : Int)) (fun r => r = frC (o0 (mB M) s t)) := by
      intro h5
      refine ok_some ?_
      unfold o0
      rw [if_neg h5]
      rfl
    refine ok_jn (ok_if (fun h5 => ?_) (fun h5 => no (fun h6 => h5 (by rw [e1, e3, h6.1]))))
    have e5 : sr s = sr t := by omega
    refine ok_jn (ok_if (fun h6 => al (Or.inr (by omega)) e5) (fun h6 => ok_gd z1 ?_))
    rw [i1, m76]
    refine ok_if (fun h7 => al (Or.inl h7) e5) (fun h7 => no ?_)
    rintro ⟨-, h8 | h8⟩
    · exact h7 h8
    · omega
  · have hw1 : rw' (mB M) (sr s) = 0 ∨ rw' (mB M) (sr s) = 1 := wa.2.2.2.2
    have hw2 : rw' (mB M) (sr t) = 0 ∨ rw' (mB M) (sr t) = 1 := wt.2.2.2.2
    -- the common end
    have fin : ∀ (v50 v51 v52 x y w : Int) (p q : Nat) (A B : Int), v50 = ((sr t : Nat) : Int) → v51 = so t → x = ((p : Nat) : Int) → y = ((q : Nat) : Int) → (p : Int) < nC (mB M) → (q : Int) < nC (mB M) → (w = A ∧ 0 ≤ A ∧ A ≤ 63) → (v52 = 0 ∧ B = so t ∨ v52 = 1 ∧ B = len (mB M) (sr t) - so t) → OK (jn (fun (w57 : Int) (w58 : Int) => gd ((inR (w58 + w57))) (if (1000000 : Int) ≤ (w58 + w57) then some (1000000 : Int) else some (w58 + w57))) (fun (K59 : Int → Int → Option (Int)) => gd ((inR ((12 : Int) * x)) ∧ (inR (((12 : Int) * x) + y)) ∧ (0 ≤ (((12 : Int) * x) + y) ∧ (((12 : Int) * x) + y) < 144) ∧ (inR (w + (M 80 (((12 : Int) * x) + y).toNat)))) (if v52 = 0 then K59 v51 (w + (M 80 (((12 : Int) * x) + y).toNat)) else cal (fX5_length M v50) (fun (r61 : Int) => gd ((inR (r61 - v51))) (K59 (r61 - v51) (w + (M 80 (((12 : Int) * x) + y).toNat))))))) (fun r => r = frC (via A (G p q) B)) := by
      intro v50 v51 v52 x y w p q A B h50 h51 hx hy hp hq hw hv
      have i : (12 * x + y).toNat = 12 * p + q := by omega
      rw [i, hF p q hp hq]
      have hg := DM_b hE hG hp hq
      have ends : ∀ c, c = B → OK (gd ((inR ((w + (if G p q = -6 then 1000000 else G p q)) + c))) (if (1000000 : Int) ≤ ((w + (if G p q = -6 then 1000000 else G p q)) + c) then some (1000000 : Int) else some ((w + (if G p q = -6 then 1000000 else G p q)) + c))) (fun r => r = frC (via A (G p q) B)) := by
        intro c hc
        have hB : 0 ≤ B ∧ B ≤ 63 := by omega
        unfold via frC
        by_cases h9 : G p q = -6
        · rw [if_pos h9, if_pos h9]
          exact ok_gd (by omega) (ok_t (by omega) (ok_some rfl))
        · rw [if_neg h9, if_neg h9]
          exact ok_gd (by omega) (ok_f (by omega) (ok_some (by rw [if_neg (by omega)]; omega)))
      refine ok_jn (ok_gd (by split <;> omega) ?_)
      rcases hv with ⟨h52, hB⟩ | ⟨h52, hB⟩
      · exact ok_t h52 (ends v51 (by omega))
      · refine ok_f (by omega) (ok_cal (kt v50 h50) (fun r hr => ok_gd (by omega) (ends (r - v51) (by omega))))
    have hcase : h = 1 ∨ h = 2 ∨ h = 3 ∨ h = 4 := by omega
    rcases hcase with rfl | rfl | rfl | rfl
    · rw [oL_1]
      unfold o1
      refine ok_jn (ok_f (by omega) (ok_jn (ok_f (by decide) (ok_jn (ok_jn (ok_f (by decide) (ok_gd z1 ?_)))))))
      rw [i1, m76]
      rcases hw1 with hw | hw
      rotate_left
      · exact ok_t hw (ok_some (by rw [if_neg (by rw [hw]; decide)]; rfl))
      rw [if_pos hw]
      refine ok_f (by omega) (ok_jn (ok_t rfl ?_))
      refine ok_jn (ok_f (by decide) (ok_gd z1 (ok_jn (ok_t rfl (ok_gd z3 (ok_jn ?_))))))
      refine ok_f (by decide) ?_
      exact fin t3 t4 _ _ _ t2 (rF (mB M) (sr s)) (rF (mB M) (sr t)) (so s) (so t) e3 e4 (by rw [i1]; exact f1.1.symm) (by rw [i3]; exact f3.1.symm) f1.2.2 f3.2.2 ⟨e2, by omega⟩ (Or.inl ⟨rfl, rfl⟩)
    · rw [oL_2]
      unfold o2
      refine ok_jn (ok_f (by omega) (ok_jn (ok_t (by decide) (ok_jn (ok_jn (ok_f (by decide) (ok_gd z1 ?_)))))))
      rw [i1, m76]
      rcases hw1 with hw | hw
      rotate_left
      · exact ok_t hw (ok_some (by rw [if_neg (fun h9 => by have := h9.1; omega)]; rfl))
      refine ok_f (by omega) (ok_jn (ok_f (by decide) (ok_gd z3 ?_)))
      rw [i3, m76]
      rcases hw2 with hw3 | hw3
      rotate_left
      · exact ok_t hw3 (ok_some (by rw [if_neg (fun h9 => by have := h9.2; omega)]; rfl))
      rw [if_pos (show rw' (mB M) (sr s) = 0 ∧ rw' (mB M) (sr t) = 0 from ⟨hw, hw3⟩)]
      refine ok_f (by omega) ?_
      refine ok_jn (ok_f (by decide) (ok_gd z1 (ok_jn (ok_f (by decide) (ok_gd z3 (ok_jn ?_))))))
      refine ok_f (by decide) ?_
      exact fin t3 t4 _ _ _ t2 (rF (mB M) (sr s)) (rL (mB M) (sr t)) (so s) (len (mB M) (sr t) - so t) e3 e4 (by rw [i1]; exact f1.1.symm) (by rw [i3]; exact f4.1.symm) f1.2.2 f4.2.2 ⟨e2, by omega⟩ (Or.inr ⟨rfl, rfl⟩)
    · rw [oL_3]
      unfold o3
      refine ok_jn (ok_t (by omega) (ok_jn (ok_f (by decide) (ok_jn (ok_jn (ok_t rfl ?_))))))
      refine ok_jn (ok_t rfl ?_)
      refine ok_jn (ok_t rfl (ok_gd z1 (ok_jn (ok_t rfl (ok_gd z3 (ok_jn ?_))))))
      refine ok_t rfl (ok_cal (kl t1 e1) (fun r hr => ok_gd (by omega) ?_))
      show OK _ (fun r => r = frC (via _ _ _))
      exact fin t3 t4 _ _ _ (r - t2) (rL (mB M) (sr s)) (rF (mB M) (sr t)) (len (mB M) (sr s) - so s) (so t) e3 e4 (by rw [i1]; exact f2.1.symm) (by rw [i3]; exact f3.1.symm) f2.2.2 f3.2.2 ⟨by omega, by omega⟩ (Or.inl ⟨rfl, rfl⟩)
    · rw [oL_4]
      unfold o4
      refine ok_jn (ok_t (by omega) (ok_jn (ok_t (by decide) (ok_jn (ok_jn (ok_t rfl ?_))))))
      refine ok_jn (ok_f (by decide) (ok_gd z3 ?_))
      rw [i3, m76]
      rcases hw2 with hw3 | hw3
      rotate_left
      · exact ok_t hw3 (ok_some (by rw [if_neg (by omega)]; rfl))
      rw [if_pos hw3]
      refine ok_f (by omega) ?_
      refine ok_jn (ok_t rfl (ok_gd z1 (ok_jn (ok_f (by decide) (ok_gd z3 (ok_jn ?_))))))
      refine ok_t rfl (ok_cal (kl t1 e1) (fun r hr => ok_gd (by omega) ?_))
      exact fin t3 t4 _ _ _ (r - t2) (rL (mB M) (sr s)) (rL (mB M) (sr t)) (len (mB M) (sr s) - so s) (len (mB M) (sr t) - so t) e3 e4 (by rw [i1]; exact f2.1.symm) (by rw [i3]; exact f4.1.symm) f2.2.2 f4.2.2 ⟨by omega, by omega⟩ (Or.inr ⟨rfl, rfl⟩)
theorem k_leastOutL (hN : WN (mB M)) (hG : DM (nC (mB M)) (eg (mB M)) G) (hF : farOf (nC (mB M)) G (M 80)) {s t : Int} (hs : Sp (mB M) s) (ht : Sp (mB M) t) : ∀ (n : Nat) (v : Int), 0 ≤ v → v ≤ 5 → 5 < (n : Int) + v → OK (fX5_leastOut_L6 s t M n (wb (oL (mB M) G s t) v.toNat) v) (fun r => r = wo (mB M) G s t) := by
  intro n
  induction n with
  | zero => intro v h0 h1 h2; omega
  | succ n ih =>
    intro v h0 h1 h2
    unfold fX5_leastOut_L6
    refine ok_if (fun h => ok_some ?_) (fun h => ?_)
    · have : v = 5 := by omega
      subst this
      rfl
    · have ev : ((v.toNat : Nat) : Int) = v := by omega
      have e5 : (v + 1).toNat = v.toNat + 1 := by omega
      have H := wlb (oL (mB M) G s t) v.toNat
      have nxt : ∀ w, w = wb (oL (mB M) G s t) (v.toNat + 1) → OK (gd (inR (v + 1)) (fX5_leastOut_L6 s t M n w (v + 1))) (fun r => r = wo (mB M) G s t) := by
        intro w hw
        have := ih (v + 1) (by omega) (by omega) (by omega)
        rw [e5, ← hw] at this
        exact ok_gd (by omega) this
      have ob := oL_b hN hG hs ht v
      refine ok_jn (ok_jn (ok_cal (k_out hN hG hF hs ht ⟨h0, by omega⟩) (fun r hr => ?_)))
      have hs1 : wb (oL (mB M) G s t) (v.toNat + 1) = if oL (mB M) G s t v = -6 then wb (oL (mB M) G s t) v.toNat else if wl (oL (mB M) G s t) v.toNat = -6 ∨ oL (mB M) G s t v < wl (oL (mB M) G s t) v.toNat then v else wb (oL (mB M) G s t) v.toNat := by
        conv => { lhs; unfold wb }
        rw [ev]
      unfold frC at hr
      by_cases hz : oL (mB M) G s t v = -6
      · rw [if_pos hz] at hr
        exact ok_t (by omega) (nxt _ (by rw [hs1, if_pos hz]))
      · rw [if_neg hz] at hr
        refine ok_f (by omega) (ok_jn ?_)
        rw [if_neg hz] at hs1
        rcases H with ⟨p1, p2, p3⟩ | ⟨p1, p2, p3, p4, p5, p6⟩
        · refine ok_t (by omega) (nxt v ?_)
          rw [hs1, if_pos (Or.inl p2)]
        · refine ok_f (by omega) (ok_cal (k_out hN hG hF hs ht (h := wb (oL (mB M) G s t) v.toNat) ⟨p1, by omega⟩) (fun r2 hr2 => ?_))
          have hr3 : r2 = wl (oL (mB M) G s t) v.toNat := by
            rw [hr2, ← p3]
            unfold frC
            rw [if_neg p4]
          refine ok_if (fun h7 => nxt _ (by rw [hs1, if_neg (by omega)])) (fun h7 => nxt v (by rw [hs1, if_pos (Or.inr (by omega))]))
theorem k_leastOut (hN : WN (mB M)) (hG : DM (nC (mB M)) (eg (mB M)) G) (hF : farOf (nC (mB M)) G (M 80)) {s t : Int} (hs : Sp (mB M) s) (ht : Sp (mB M) t) : OK (fX5_leastOut M s t) (fun r => r = wo (mB M) G s t) := by
  unfold fX5_leastOut
  exact k_leastOutL hN hG hF hs ht 1000 0 (by omega) (by omega) (by omega)
theorem k_wayOf (hN : WN (mB M)) (hG : DM (nC (mB M)) (eg (mB M)) G) (hF : farOf (nC (mB M)) G (M 80)) {s t : Int} (hs : Sp (mB M) s) (ht : Sp (mB M) t) : OK (fX5_wayOf M s t) (fun r => r = wy (mB M) G s t) := by
  have H := wy_b hN hG hs ht
  unfold fX5_wayOf
  refine ok_cal (k_leastOut hN hG hF hs ht) (fun r hr => ?_)
  rcases H with ⟨p1, p2⟩ | ⟨p1, p2, p3⟩
  · exact ok_f (by omega) (ok_some p1.symm)
  · refine ok_t (by omega) ?_
    rw [hr]
    refine ok_cal (k_out hN hG hF hs ht (by omega)) (fun r2 hr2 => ok_some ?_)
    rw [hr2, ← p3]
    unfold frC
    rw [if_neg (by omega)]
end MWAY
