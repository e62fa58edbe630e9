/-! spots, and the ways between them -/
def sr (s : Int) : Nat := (s / 100).toNat
def so (s : Int) : Int := s % 100
def Sp (d : Dt) (s : Int) : Prop := 0 ≤ s ∧ s < 100 * nR d ∧ so s ≤ len d (sr s)
def via (a g b : Int) : Int := if g = -6 then -6 else a + g + b
def o0 (d : Dt) (s t : Int) : Int := if sr s = sr t ∧ (rw' d (sr s) = 0 ∨ so s ≤ so t) then iabs (so t - so s) else -6
def o1 (d : Dt) (G : Nat → Nat → Int) (s t : Int) : Int := if rw' d (sr s) = 0 then via (so s) (G (rF d (sr s)) (rF d (sr t))) (so t) else -6
def o2 (d : Dt) (G : Nat → Nat → Int) (s t : Int) : Int := if rw' d (sr s) = 0 ∧ rw' d (sr t) = 0 then via (so s) (G (rF d (sr s)) (rL d (sr t))) (len d (sr t) - so t) else -6
def o3 (d : Dt) (G : Nat → Nat → Int) (s t : Int) : Int := via (len d (sr s) - so s) (G (rL d (sr s)) (rF d (sr t))) (so t)
def o4 (d : Dt) (G : Nat → Nat → Int) (s t : Int) : Int := if rw' d (sr t) = 0 then via (len d (sr s) - so s) (G (rL d (sr s)) (rL d (sr t))) (len d (sr t) - so t) else -6
def oL (d : Dt) (G : Nat → Nat → Int) (s t h : Int) : Int := if h = 0 then o0 d s t else if h = 1 then o1 d G s t else if h = 2 then o2 d G s t else if h = 3 then o3 d G s t else o4 d G s t
theorem oL_0 {d : Dt} {G : Nat → Nat → Int} {s t : Int} : oL d G s t 0 = o0 d s t := by unfold oL; rw [if_pos rfl]
theorem oL_1 {d : Dt} {G : Nat → Nat → Int} {s t : Int} : oL d G s t 1 = o1 d G s t := by unfold oL; rw [if_neg (by decide), if_pos rfl]
theorem oL_2 {d : Dt} {G : Nat → Nat → Int} {s t : Int} : oL d G s t 2 = o2 d G s t := by unfold oL; rw [if_neg (by decide), if_neg (by decide), if_pos rfl]
theorem oL_3 {d : Dt} {G : Nat → Nat → Int} {s t : Int} : oL d G s t 3 = o3 d G s t := by unfold oL; rw [if_neg (by decide), if_neg (by decide), if_neg (by decide), if_pos rfl]
theorem oL_4 {d : Dt} {G : Nat → Nat → Int} {s t : Int} : oL d G s t 4 = o4 d G s t := by unfold oL; rw [if_neg (by decide), if_neg (by decide), if_neg (by decide), if_neg (by decide)]
theorem Sp_b {d : Dt} (hN : WN d) {s : Int} (h : Sp d s) : ((sr s : Nat) : Int) < nR d ∧ ((sr s : Nat) : Int) = s / 100 ∧ s.tdiv 100 = ((sr s : Nat) : Int) ∧ s.tmod 100 = so s ∧ (0 ≤ so s ∧ so s ≤ 63) ∧ s = 100 * ((sr s : Nat) : Int) + so s ∧ (0 ≤ s ∧ s < 2000) := by
  obtain ⟨h0, h1, h2⟩ := h
  have n1 := hN.2.1
  have e1 : ((sr s : Nat) : Int) = s / 100 := by unfold sr; omega
  have e2 : ((sr s : Nat) : Int) < nR d := by omega
  have hl := len_b hN e2
  have e3 : so s = s % 100 := rfl
  refine ⟨e2, e1, by rw [Int.tdiv_eq_ediv_of_nonneg h0]; exact e1.symm, by rw [Int.tmod_eq_emod_of_nonneg h0]; rfl, by omega, by omega, by omega⟩
theorem oL_b {d : Dt} (hN : WN d) {G : Nat → Nat → Int} (hG : DM (nC d) (eg d) G) {s t : Int} (hs : Sp d s) (ht : Sp d t) (h : Int) : oL d G s t h = -6 ∨ (0 ≤ oL d G s t h ∧ oL d G s t h ≤ 882) := by
  have a := Sp_b hN hs
  have b := Sp_b hN ht
  have l1 := len_b hN a.1
  have l2 := len_b hN b.1
  have p1 := (rF_lt hN a.1).2.2
  have p2 := (rL_lt hN a.1).2.2
  have p3 := (rF_lt hN b.1).2.2
  have p4 := (rL_lt hN b.1).2.2
  have hE := eg_b hN
  have g1 := DM_b hE hG p1 p3
  have g2 := DM_b hE hG p1 p4
  have g3 := DM_b hE hG p2 p3
  have g4 := DM_b hE hG p2 p4
  have s1 := hs.2.2
  have s2 := ht.2.2
  unfold oL o0 o1 o2 o3 o4 via iabs
  (repeat' split) <;> omega
theorem k_hasSpot (M : Mm) (d : Dt) (hN : WN d) (hr : M 3 1 = nR d) (hl : ∀ r : Nat, (r : Int) < nR d → M 9 r = len d r) (x : Int) : OK (fX0_hasSpot M x) (fun r => yes r (Sp d x)) := by
  have n1 := hN.2.1
  unfold fX0_hasSpot
  refine ok_if (fun h => ?_) (fun h => ok_some (Or.inr ⟨rfl, fun h2 => h h2.1⟩))
  refine ok_jn (ok_bnd (fun t ht => ?_))
  rw [Int.tdiv_eq_ediv_of_nonneg h] at ht
  have e1 : ((sr x : Nat) : Int) = t := by unfold sr; omega
  refine ok_if (fun h2 => ok_some (Or.inr ⟨rfl, fun h3 => ?_⟩)) (fun h2 => ?_)
  · have := h3.2.1; omega
  · refine ok_gd (by omega) ?_
    have e2 : t.toNat = sr x := by omega
    rw [e2, hl (sr x) (by omega), Int.tmod_eq_emod_of_nonneg h]
    refine ok_if (fun h3 => ok_some (Or.inr ⟨rfl, fun h4 => ?_⟩)) (fun h3 => ok_some (Or.inl ⟨rfl, h, by omega, ?_⟩))
    · have h5 := h4.2.2; unfold so at h5; omega
    · unfold so; omega
theorem k_isSpot (M : Mm) (hN : WN (mB M)) (x : Int) : OK (fX5_isSpot M x) (fun r => yes r (Sp (mB M) x)) := by
  have n1 : 0 ≤ M 71 6 ∧ M 71 6 ≤ 20 := hN.2.1
  unfold fX5_isSpot
  refine ok_jn (ok_gd (by omega) (ok_cal (k_in M x 0 _) (fun r hr => ?_)))
  refine ok_if (fun h => ok_some (Or.inr ⟨rfl, fun h2 => ?_⟩)) (fun h => ?_)
  · have h3 : x < 100 * M 71 6 := h2.2.1
    exact yes_f hr h ⟨h2.1, by omega⟩
  · have h2 := yes_t hr h
    have e1 : ((sr x : Nat) : Int) = x / 100 := by unfold sr; omega
    rw [Int.tdiv_eq_ediv_of_nonneg h2.1, Int.tmod_eq_emod_of_nonneg h2.1]
    refine ok_cal (k_length M hN (x / 100) (by omega)) (fun r3 h3 => ?_)
    have e2 : (x / 100).toNat = sr x := rfl
    rw [e2] at h3
    refine ok_if (fun h4 => ok_some (Or.inr ⟨rfl, fun h5 => ?_⟩)) (fun h4 => ok_some (Or.inl ⟨rfl, h2.1, ?_, ?_⟩))
    · have h6 := h5.2.2; unfold so at h6; omega
    · show x < 100 * M 71 6; omega
    · unfold so; omega
section CLASSWAY
variable {M : Mm} {d : Dt}
theorem k_lengthOut (hN : WN d) (hC : CN (M 3) (M 4) (M 5) (M 6) (M 7) (M 8) (M 9) (M 10) d) {s t h : Int} (hs : Sp d s) (ht : Sp d t) (hh : 0 ≤ h ∧ h ≤ 4) : OK (fX0_lengthOut M s t h) (fun r => r = oL d (fun i j => M 10 (12 * i + j)) s t h) := by
  have a := Sp_b hN hs
  have b := Sp_b hN ht
  have sm := CN_small hN hC
  obtain ⟨c1, c2, c3, c4, c5⟩ := hC
  have n0 := hN.1
  have n1 := hN.2.1
  have ra := c4 _ a.1
  have rb := c4 _ b.1
  have f1 := rF_lt hN a.1
  have f2 := rL_lt hN a.1
  have f3 := rF_lt hN b.1
  have f4 := rL_lt hN b.1
  have l1 := len_b hN a.1
  have l2 := len_b hN b.1
  have s1 := hs.2.2
  have s2 := ht.2.2
  have ta : (s.tdiv 100).toNat = sr s := by rw [a.2.2.1]; exact tn _
  have tb : (t.tdiv 100).toNat = sr t := by rw [b.2.2.1]; exact tn _
  have hlv : ∀ w, OK (fX0_leaveLength M s w) (fun r => r = if w = 0 then (if rw' d (sr s) = 0 then so s else -6) else len d (sr s) - so s) := by
    intro w
    unfold fX0_leaveLength
    refine ok_bnd (fun t1 e1 => ok_bnd (fun t2 e2 => ?_))
    rw [a.2.2.2.1] at e2
    have e3 : t1.toNat = sr s := by rw [e1]; exact ta
    rw [a.2.2.1] at e1
    refine ok_if (fun hw => ok_gd (by omega) ?_) (fun hw => ok_gd (by rw [e3, ra.2.2.2]; omega) (ok_some ?_))
    · rw [e3, ra.2.2.1, if_pos hw]
      refine ok_if (fun h9 => ok_some (by rw [if_pos h9]; exact e2)) (fun h9 => ok_some (by rw [if_neg h9]))
    · rw [e3, ra.2.2.2, if_neg hw, e2]
  have hcm : ∀ w, OK (fX0_comeLength M t w) (fun r => r = if w = 0 then so t else (if rw' d (sr t) = 0 then len d (sr t) - so t else -6)) := by
    intro w
    unfold fX0_comeLength
    refine ok_bnd (fun t1 e1 => ok_bnd (fun t2 e2 => ?_))
    rw [b.2.2.2.1] at e2
    have e3 : t1.toNat = sr t := by rw [e1]; exact tb
    rw [b.2.2.1] at e1
    refine ok_if (fun hw => ok_some (by rw [if_pos hw]; exact e2)) (fun hw => ok_gd (by omega) ?_)
    rw [e3, rb.2.2.1, if_neg hw]
    refine ok_if (fun h9 => ok_gd (by rw [rb.2.2.2]; omega) (ok_some (by rw [if_pos h9, rb.2.2.2, e2]))) (fun h9 => ok_some (by rw [if_neg h9]))
  have hea : ∀ w, OK (fX0_endOf M s w) (fun r => r = if w = 0 then rf d (sr s) else rl d (sr s)) := by
    intro w
    unfold fX0_endOf
    refine ok_bnd (fun t1 e1 => ?_)
    have e3 : t1.toNat = sr s := by rw [e1]; exact ta
    rw [a.2.2.1] at e1
    refine ok_if (fun hw => ok_gd (by omega) (ok_some (by rw [e3, ra.1, if_pos hw]))) (fun hw => ok_gd (by omega) (ok_some (by rw [e3, ra.2.1, if_neg hw])))
  have heb : ∀ w, OK (fX0_endOf M t w) (fun r => r = if w = 0 then rf d (sr t) else rl d (sr t)) := by
    intro w
    unfold fX0_endOf
    refine ok_bnd (fun t1 e1 => ?_)
    have e3 : t1.toNat = sr t := by rw [e1]; exact tb
    rw [b.2.2.1] at e1
    refine ok_if (fun hw => ok_gd (by omega) (ok_some (by rw [e3, rb.1, if_pos hw]))) (fun hw => ok_gd (by omega) (ok_some (by rw [e3, rb.2.1, if_neg hw])))
  have hll : OK (fX0_leavesByLast M h) (fun r => r = if h < 3 then 0 else 1) := by
    unfold fX0_leavesByLast
    refine ok_if (fun h9 => ok_some (by rw [if_pos h9])) (fun h9 => ok_some (by rw [if_neg h9]))
  have hcl : OK (fX0_comesByLast M h) (fun r => r = if h = 2 ∨ h = 4 then 1 else 0) := by
    unfold fX0_comesByLast
    refine ok_jn (ok_if (fun h9 => ok_some (by rw [if_pos (Or.inl h9)])) (fun h9 => ok_if (fun h8 => ok_some (by rw [if_pos (Or.inr h8)])) (fun h8 => ok_some (by rw [if_neg (by omega)]))))
  unfold fX0_lengthOut
  refine ok_if (fun h0 => ?_) (fun h0 => ?_)
  · refine ok_cal (P1 := fun r => r = o0 d s t) ?_ (fun r hr => ok_some (by rw [hr]; unfold oL; rw [if_pos h0]))
    unfold fX0_lengthAlong o0
    refine ok_bnd (fun t1 e1 => ?_)
    rw [a.2.2.1] at e1
    rw [b.2.2.1]
    refine ok_if (fun h2 => ?_) (fun h2 => ok_some (by rw [if_neg (fun h9 => h2 (by omega))]))
    have e5 : sr s = sr t := by omega
    have e3 : t1.toNat = sr s := by omega
    have e6 : iabs (t - s) = iabs (so t - so s) := by
      have := a.2.2.2.2.2.1
      have := b.2.2.2.2.2.1
      congr 1
      omega
    refine ok_jn (ok_gd (by omega) ?_)
    rw [e3, ra.2.2.1]
    refine ok_if (fun h3 => ok_gd (by omega) (ok_some ?_)) (fun h3 => ok_if (fun h4 => ok_gd (by omega) (ok_some ?_)) (fun h4 => ok_some ?_))
    · rw [if_pos ⟨e5, Or.inl h3⟩]; exact e6
    · rw [if_pos ⟨e5, Or.inr (by omega)⟩]; exact e6
    · rw [if_neg]
      rintro ⟨-, h9 | h9⟩
      · exact h3 h9
      · omega
  · refine ok_jn (ok_cal hll (fun r2 h2 => ok_cal (hlv r2) (fun r3 h3 => ok_cal hll (fun r4 h4 => ok_cal (hea r4) (fun r5 h5 => ok_cal hcl (fun r6 h6 => ok_cal (heb r6) (fun r7 h7 => ?_)))))))
    have b5 : 0 ≤ r5 ∧ r5 < nC d := by rw [h5]; split <;> omega
    have b7 : 0 ≤ r7 ∧ r7 < nC d := by rw [h7]; split <;> omega
    refine ok_cal (k_pair M (i := r5) (j := r7) (by omega) (by omega)) (fun r8 h8 => ok_gd h8.2 (ok_cal hcl (fun r9 h9 => ok_cal (hcm r9) (fun r10 h10 => ?_))))
    have i8 : r8.toNat = 12 * r5.toNat + r7.toNat := by omega
    rw [i8]
    have hg := sm r5.toNat r7.toNat (by omega) (by omega)
    have hval : oL d (fun i j => M 10 (12 * i + j)) s t h = if r3 = -6 ∨ M 10 (12 * r5.toNat + r7.toNat) = -6 ∨ r10 = -6 then -6 else r3 + M 10 (12 * r5.toNat + r7.toNat) + r10 := by
      have hcase : h = 1 ∨ h = 2 ∨ h = 3 ∨ h = 4 := by omega
      rcases hcase with rfl | rfl | rfl | rfl
      · have q2 : r2 = 0 := h2
        have q4 : r4 = 0 := h4
        have q6 : r6 = 0 := h6
        have q9 : r9 = 0 := h9
        rw [q2, if_pos rfl] at h3
        rw [q4, if_pos rfl] at h5
        rw [q6, if_pos rfl] at h7
        rw [q9, if_pos rfl] at h10
        have i5 : r5.toNat = rF d (sr s) := by rw [h5]; rfl
        have i7 : r7.toNat = rF d (sr t) := by rw [h7]; rfl
        rw [i5, i7, h3, h10]
        rw [oL_1]
        unfold o1 via
        dsimp only
        (repeat' split) <;> omega
      · have q2 : r2 = 0 := h2
        have q4 : r4 = 0 := h4
        have q6 : r6 = 1 := h6
        have q9 : r9 = 1 := h9
        rw [q2, if_pos rfl] at h3
        rw [q4, if_pos rfl] at h5
        rw [q6, if_neg (by decide)] at h7
        rw [q9, if_neg (by decide)] at h10
        have i5 : r5.toNat = rF d (sr s) := by rw [h5]; rfl
        have i7 : r7.toNat = rL d (sr t) := by rw [h7]; rfl
        rw [i5, i7, h3, h10]
        rw [oL_2]
        unfold o2 via
        dsimp only
        (repeat' split) <;> omega
      · have q2 : r2 = 1 := h2
        have q4 : r4 = 1 := h4
        have q6 : r6 = 0 := h6
        have q9 : r9 = 0 := h9
        rw [q2, if_neg (by decide)] at h3
        rw [q4, if_neg (by decide)] at h5
        rw [q6, if_pos rfl] at h7
        rw [q9, if_pos rfl] at h10
        have i5 : r5.toNat = rL d (sr s) := by rw [h5]; rfl
        have i7 : r7.toNat = rF d (sr t) := by rw [h7]; rfl
        rw [i5, i7, h3, h10]
        rw [oL_3]
        unfold o3 via
        dsimp only
        (repeat' split) <;> omega
      · have q2 : r2 = 1 := h2
        have q4 : r4 = 1 := h4
        have q6 : r6 = 1 := h6
        have q9 : r9 = 1 := h9
        rw [q2, if_neg (by decide)] at h3
        rw [q4, if_neg (by decide)] at h5
        rw [q6, if_neg (by decide)] at h7
        rw [q9, if_neg (by decide)] at h10
        have i5 : r5.toNat = rL d (sr s) := by rw [h5]; rfl
        have i7 : r7.toNat = rL d (sr t) := by rw [h7]; rfl
        rw [i5, i7, h3, h10]
        rw [oL_4]
        unfold o4 via
        dsimp only
        (repeat' split) <;> omega
    have b3 : r3 = -6 ∨ (0 ≤ r3 ∧ r3 ≤ 63) := by rw [h3]; (repeat' split) <;> omega
    have b10 : r10 = -6 ∨ (0 ≤ r10 ∧ r10 ≤ 63) := by rw [h10]; (repeat' split) <;> omega
    rw [hval]
    refine ok_if (fun q => ok_some (by rw [if_pos (Or.inl q)])) (fun q => ok_if (fun q2 => ok_some (by rw [if_pos (Or.inr (Or.inl q2))])) (fun q2 => ok_if (fun q3 => ok_some (by rw [if_pos (Or.inr (Or.inr q3))])) (fun q3 => ok_gd (by omega) (ok_some (by rw [if_neg (by omega)])))))
end CLASSWAY
/-! the least of the five -/
def wl (o : Int → Int) : Nat → Int
  | 0 => -6
  | n + 1 => if o n = -6 then wl o n else if wl o n = -6 ∨ o n < wl o n then o n else wl o n
def wb (o : Int → Int) : Nat → Int
  | 0 => -6
  | n + 1 => if o n = -6 then wb o n else if wl o n = -6 ∨ o n < wl o n then (n : Int) else wb o n
theorem wlb (o : Int → Int) : ∀ n : Nat, (wb o n = -6 ∧ wl o n = -6 ∧ ∀ m : Nat, m < n → o m = -6) ∨ (0 ≤ wb o n ∧ wb o n < n ∧ wl o n = o (wb o n) ∧ wl o n ≠ -6 ∧ (∀ m : Nat, m < n → o m = -6 ∨ wl o n ≤ o m) ∧ ∀ m : Nat, (m : Int) < wb o n → o m = -6 ∨ wl o n < o m)
  | 0 => Or.inl ⟨rfl, rfl, fun m h => by omega⟩
  | n + 1 => by
    have ih := wlb o n
    have hlt : ∀ m : Nat, m < n + 1 → m < n ∨ m = n := fun m h => by omega
    by_cases h1 : o n = -6
    · have e1 : wl o (n + 1) = wl o n := by conv => { lhs; unfold wl }; rw [if_pos h1]
      have e2 : wb o (n + 1) = wb o n := by conv => { lhs; unfold wb }; rw [if_pos h1]
      rw [e1, e2]
      rcases ih with ⟨a, b, c⟩ | ⟨a, b, c, e, f, g⟩
      · refine Or.inl ⟨a, b, fun m hm => ?_⟩
        rcases hlt m hm with h | rfl
        · exact c m h
        · exact h1
      · refine Or.inr ⟨a, by omega, c, e, fun m hm => ?_, g⟩
        rcases hlt m hm with h | rfl
        · exact f m h
        · exact Or.inl h1
    · by_cases h2 : wl o n = -6 ∨ o n < wl o n
      · have e1 : wl o (n + 1) = o n := by conv => { lhs; unfold wl }; rw [if_neg h1, if_pos h2]
        have e2 : wb o (n + 1) = n := by conv => { lhs; unfold wb }; rw [if_neg h1, if_pos h2]
        rw [e1, e2]
        refine Or.inr ⟨by omega, by omega, rfl, h1, fun m hm => ?_, fun m hm => ?_⟩
        · rcases hlt m hm with h | rfl
          · rcases ih with ⟨a, b, c⟩ | ⟨a, b, c, e, f, g⟩
            · exact Or.inl (c m h)
            · rcases f m h with k | k
              · exact Or.inl k
              · exact Or.inr (by omega)
          · exact Or.inr (by omega)
        · have h : m < n := by omega
          rcases ih with ⟨a, b, c⟩ | ⟨a, b, c, e, f, g⟩
          · exact Or.inl (c m h)
          · rcases f m h with k | k
            · exact Or.inl k
            · exact Or.inr (by omega)
      · have e1 : wl o (n + 1) = wl o n := by conv => { lhs; unfold wl }; rw [if_neg h1, if_neg h2]
        have e2 : wb o (n + 1) = wb o n := by conv => { lhs; unfold wb }; rw [if_neg h1, if_neg h2]
        rw [e1, e2]
        rcases ih with ⟨a, b, c⟩ | ⟨a, b, c, e, f, g⟩
        · exact absurd (Or.inl b) h2
        · refine Or.inr ⟨a, by omega, c, e, fun m hm => ?_, g⟩
          rcases hlt m hm with h | rfl
          · exact f m h
          · exact Or.inr (by omega)
/-- LENGTH of the way, and the way out -/
def wy (d : Dt) (G : Nat → Nat → Int) (s t : Int) : Int := wl (oL d G s t) 5
def wo (d : Dt) (G : Nat → Nat → Int) (s t : Int) : Int := wb (oL d G s t) 5
theorem wy_b {d : Dt} (hN : WN d) {G : Nat → Nat → Int} (hG : DM (nC d) (eg d) G) {s t : Int} (hs : Sp d s) (ht : Sp d t) : (wy d G s t = -6 ∧ wo d G s t = -6) ∨ ((0 ≤ wy d G s t ∧ wy d G s t ≤ 882) ∧ (0 ≤ wo d G s t ∧ wo d G s t < 5) ∧ wy d G s t = oL d G s t (wo d G s t)) := by
  rcases wlb (oL d G s t) 5 with ⟨a, b, c⟩ | ⟨a, b, c, e, f, g⟩
  · exact Or.inl ⟨b, a⟩
  · have h := oL_b hN hG hs ht (wb (oL d G s t) 5)
    unfold wy wo
    exact Or.inr ⟨by omega, ⟨a, b⟩, c⟩
section CLASSWAY2
variable {M : Mm} {d : Dt}
theorem k_wayLengthL (hN : WN d) (hC : CN (M 3) (M 4) (M 5) (M 6) (M 7) (M 8) (M 9) (M 10) d) {s t : Int} (hs : Sp d s) (ht : Sp d t) : ∀ (n : Nat) (v : Int), 0 ≤ v → v ≤ 5 → 5 < (n : Int) + v → OK (fX0_wayLength_L25 s t M n (wl (oL d (fun i j => M 10 (12 * i + j)) s t) v.toNat) v) (fun r => r = wy d (fun i j => M 10 (12 * i + j)) s t) := by
  intro n
  induction n with
  | zero => intro v h0 h1 h2; omega
  | succ n ih =>
    intro v h0 h1 h2
    unfold fX0_wayLength_L25
    refine ok_if (fun h => ok_some ?_) (fun h => ?_)
    · have : v = 5 := by omega
      subst this
      rfl
    · have ev : ((v.toNat : Nat) : Int) = v := by omega
      have e5 : (v + 1).toNat = v.toNat + 1 := by omega
      have nxt : ∀ w, w = wl (oL d (fun i j => M 10 (12 * i + j)) s t) (v.toNat + 1) → OK (gd (inR (v + 1)) (fX0_wayLength_L25 s t M n w (v + 1))) (fun r => r = wy d (fun i j => M 10 (12 * i + j)) s t) := by
        intro w hw
        have := ih (v + 1) (by omega) (by omega) (by omega)
        rw [e5, ← hw] at this
        exact ok_gd (by omega) this
      refine ok_jn (ok_cal (k_lengthOut hN hC hs ht ⟨h0, by omega⟩) (fun r hr => ?_))
      have hs1 : wl (oL d (fun i j => M 10 (12 * i + j)) s t) (v.toNat + 1) = if r = -6 then wl (oL d (fun i j => M 10 (12 * i + j)) s t) v.toNat else if wl (oL d (fun i j => M 10 (12 * i + j)) s t) v.toNat = -6 ∨ r < wl (oL d (fun i j => M 10 (12 * i + j)) s t) v.toNat then r else wl (oL d (fun i j => M 10 (12 * i + j)) s t) v.toNat := by
        conv => { lhs; unfold wl }
        rw [ev, hr]
      generalize wl (oL d (fun i j => M 10 (12 * i + j)) s t) v.toNat = cur at *
      refine ok_if (fun q => nxt cur (by rw [hs1, if_pos q])) (fun q => ok_jn (ok_if (fun q2 => nxt r (by rw [hs1, if_neg q, if_pos (Or.inl q2)])) (fun q2 => ok_if (fun q3 => nxt cur (by rw [hs1, if_neg q, if_neg (by omega)])) (fun q3 => nxt r (by rw [hs1, if_neg q, if_pos (Or.inr (by omega))])))))
theorem CN_sp (hC : CN (M 3) (M 4) (M 5) (M 6) (M 7) (M 8) (M 9) (M 10) d) : M 3 1 = nR d ∧ ∀ r : Nat, (r : Int) < nR d → M 9 r = len d r := ⟨hC.2.1, fun r hr => (hC.2.2.2.1 r hr).2.2.2⟩
theorem k_wayLength (hN : WN d) (hC : CN (M 3) (M 4) (M 5) (M 6) (M 7) (M 8) (M 9) (M 10) d) {s t : Int} (hs : Sp d s) (ht : Sp d t) : OK (fX0_wayLength M s t) (fun r => r = wy d (fun i j => M 10 (12 * i + j)) s t) := by
  have h := CN_sp hC
  unfold fX0_wayLength
  refine ok_cal (k_hasSpot M d hN h.1 h.2 s) (fun r1 h1 => ok_f (fun q => yes_f h1 q hs) (ok_cal (k_hasSpot M d hN h.1 h.2 t) (fun r2 h2 => ok_f (fun q => yes_f h2 q ht) ?_)))
  exact k_wayLengthL hN hC hs ht 1000 0 (by omega) (by omega) (by omega)
theorem k_wayOutL (hN : WN d) (hC : CN (M 3) (M 4) (M 5) (M 6) (M 7) (M 8) (M 9) (M 10) d) {s t : Int} (hs : Sp d s) (ht : Sp d t) : ∀ (n : Nat) (v : Int), 0 ≤ v → v ≤ 5 → 5 < (n : Int) + v → (∀ m : Nat, (m : Int) < v → wy d (fun i j => M 10 (12 * i + j)) s t = -6 ∨ oL d (fun i j => M 10 (12 * i + j)) s t m ≠ wy d (fun i j => M 10 (12 * i + j)) s t) → OK (fX0_wayOut_L10 s t M n (wy d (fun i j => M 10 (12 * i + j)) s t) v) (fun r => r = wo d (fun i j => M 10 (12 * i + j)) s t) := by
  have H := wlb (oL d (fun i j => M 10 (12 * i + j)) s t) 5
  intro n
  induction n with
  | zero => intro v h0 h1 h2; omega
  | succ n ih =>
    intro v h0 h1 h2 h3
    unfold fX0_wayOut_L10
    refine ok_if (fun h => ok_some ?_) (fun h => ?_)
    · rcases H with ⟨a, b, c⟩ | ⟨a, b, c, e, f, g⟩
      · exact a.symm
      · exact absurd h e
    · rcases H with ⟨a, b, c⟩ | ⟨a, b, c, e, f, g⟩
      · exact absurd b h
      · have ew : (((wb (oL d (fun i j => M 10 (12 * i + j)) s t) 5).toNat : Nat) : Int) = wb (oL d (fun i j => M 10 (12 * i + j)) s t) 5 := by omega
        refine ok_if (fun h4 => ?_) (fun h4 => ?_)
        · have := h3 (wb (oL d (fun i j => M 10 (12 * i + j)) s t) 5).toNat (by omega)
          rw [ew] at this
          rcases this with k | k
          · exact absurd k h
          · exact absurd c.symm k
        · refine ok_cal (k_lengthOut hN hC hs ht ⟨h0, by omega⟩) (fun r hr => ?_)
          have ev : ((v.toNat : Nat) : Int) = v := by omega
          refine ok_if (fun h5 => ok_some ?_) (fun h5 => ok_gd (by omega) (ih (v + 1) (by omega) (by omega) (by omega) (fun m hm => ?_)))
          · -- v is the first
            have h6 : ¬ v < wb (oL d (fun i j => M 10 (12 * i + j)) s t) 5 := by
              intro h6
              rcases g v.toNat (by omega) with k | k
              · rw [ev] at k; rw [← hr, h5] at k; exact h k
              · rw [ev, ← hr, h5] at k
                exact absurd k (by unfold wy; omega)
            have h7 : ¬ wb (oL d (fun i j => M 10 (12 * i + j)) s t) 5 < v := by
              intro h7
              have := h3 (wb (oL d (fun i j => M 10 (12 * i + j)) s t) 5).toNat (by omega)
              rw [ew] at this
              rcases this with k | k
              · exact absurd k h
              · exact absurd c.symm k
            unfold wo
            omega
          · by_cases hmv : m = v.toNat
            · rw [hmv, ev, ← hr]; exact Or.inr h5
            · exact h3 m (by omega)
theorem k_wayOut (hN : WN d) (hC : CN (M 3) (M 4) (M 5) (M 6) (M 7) (M 8) (M 9) (M 10) d) {s t : Int} (hs : Sp d s) (ht : Sp d t) : OK (fX0_wayOut M s t) (fun r => r = wo d (fun i j => M 10 (12 * i + j)) s t) := by
  unfold fX0_wayOut
  refine ok_cal (k_wayLength hN hC hs ht) (fun r hr => ?_)
  rw [hr]
  exact k_wayOutL hN hC hs ht 1000 0 (by omega) (by omega) (by omega) (fun m hm => by omega)
end CLASSWAY2
