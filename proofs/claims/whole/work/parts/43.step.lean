/-! steps: the class, the reference -/
def spF (pc sp ch : Nat → Int) (f : Nat) : Int := if pc f = -6 then -6 else sp (20 * f + (ch f).toNat)
def ssF (pc bf sp ch : Nat → Int) (f : Nat) : Int := if pc f = -6 ∨ bf f = -6 then -6 else sp (20 * (bf f).toNat + (ch (bf f).toNat).toNat)
def slF (d : Dt) (G : Nat → Nat → Int) (pc bf sp ch : Nat → Int) (f : Nat) : Int := if pc f = -6 ∨ bf f = -6 then -6 else wy d G (ssF pc bf sp ch f) (spF pc sp ch f)
theorem TS_bf {n : Int} {cn pc bf co bk : Nat → Int} (hT : TS n cn pc bf co bk) {f : Nat} (hf : (f : Int) < n) (hp : pc f ≠ -6) (hb : bf f ≠ -6) : ∃ g : Nat, g < f ∧ bf f = (g : Int) ∧ pc g = pc f ∧ nx n pc g f := by
  obtain ⟨-, -, h6⟩ := hT f hf
  rcases h6 with h6 | ⟨-, -, -, h6⟩
  · exact absurd h6.2 hp
  · rcases h6 with ⟨-, h6, -⟩ | ⟨g, g1, g2, g3⟩
    · exact absurd h6 hb
    · rcases g3 with g3 | g3
      · exact ⟨g, g1, g3.2.1, g3.1.symm, g1, hf, hp, g2⟩
      · exact absurd g3.2 hb
/-- the class's rows -/
def CL (b : Nat) (M : Mm) (d : Dt) : Prop := CN (M (b + 1)) (M (b + 2)) (M (b + 3)) (M (b + 4)) (M (b + 5)) (M (b + 6)) (M (b + 7)) (M (b + 8)) d ∧ (∀ j : Nat, j < 4 → M (b + 10) j = ru d j) ∧ TC (M (b + 11)) (M (b + 12)) (M (b + 13)) (M (b + 14)) (M (b + 15)) (M (b + 16)) (M (b + 17)) (M (b + 18)) (M (b + 19)) (M (b + 20)) (fun i j => M (b + 8) (12 * i + j)) d ∧ ∃ S : Nat → Nat → Prop, ∀ f : Nat, (f : Int) < nF d → ST (nF d) (M (b + 14)) (M (b + 15)) (M (b + 16)) (M (b + 19)) (M (b + 20)) (M (b + 21)) (M (b + 22)) S f
def Wd (d : Dt) : Prop := WN d ∧ WRu d ∧ WF d
section CLS
variable {M : Mm} {d : Dt}
/-- the class's rows now, with their names -/
theorem CL_2 (h : CL 2 M d) : CN (M 3) (M 4) (M 5) (M 6) (M 7) (M 8) (M 9) (M 10) d ∧ (∀ j : Nat, j < 4 → M 12 j = ru d j) ∧ (M 13 2 = nF d ∧ (∀ j : Nat, (j : Int) < nF d → M 14 j = fx d j ∧ M 15 j = fy d j) ∧ TR d (fun i j => M 10 (12 * i + j)) (M 16) (M 17) (M 18) (M 19) (M 20) (M 21) (M 22) (nF d) ∧ ∀ f : Nat, (f : Int) < nF d → M 16 f = 0 → M 18 f = -6) ∧ ∃ S : Nat → Nat → Prop, ∀ f : Nat, (f : Int) < nF d → ST (nF d) (M 16) (M 17) (M 18) (M 21) (M 22) (M 23) (M 24) S f := h
theorem CL_TS (hW : Wd d) (h : CL 2 M d) : TS (nF d) (M 16) (M 17) (M 18) (M 21) (M 22) := by
  obtain ⟨hC, -, ⟨-, -, hT, -⟩, -⟩ := CL_2 h
  exact TR_TS hW.1 hW.2.1 hW.2.2 hC.2.2.2.2 hT (Int.le_refl _)
theorem CL_V (h : CL 2 M d) {f : Nat} (hf : (f : Int) < nF d) (hp : M 17 f ≠ -6) : (0 ≤ M 23 f ∧ M 23 f < M 16 f) ∧ M 21 (20 * f + (M 23 f).toNat) ≠ -6 := by
  obtain ⟨-, -, -, S, hS⟩ := CL_2 h
  obtain ⟨-, hv, -⟩ := (hS f hf).2 hp
  exact ⟨hv.1, hv.2.1⟩
theorem CL_g (h : CL 2 M d) {f : Nat} (hf : (f : Int) < nF d) (hp : M 17 f = -6) : M 23 f = -6 ∧ M 24 f = 0 := by
  obtain ⟨-, -, -, S, hS⟩ := CL_2 h
  exact (hS f hf).1 hp
theorem CL_sp (hW : Wd d) (h : CL 2 M d) {f k : Nat} (hf : (f : Int) < nF d) (hk : (k : Int) < M 16 f) : Sp d (M 19 (20 * f + k)) := by
  obtain ⟨-, -, ⟨-, -, hT, -⟩, -⟩ := CL_2 h
  obtain ⟨-, -, -, -, -, -, hs, -⟩ := CD_k hW.1 hW.2.1 (hT f hf).1 hk
  exact hs
theorem CL_sf (hW : Wd d) (h : CL 2 M d) {f : Nat} (hf : (f : Int) < nF d) (hp : M 17 f ≠ -6) : Sp d (spF (M 17) (M 19) (M 23) f) := by
  have hv := (CL_V h hf hp).1
  unfold spF
  rw [if_neg hp]
  exact CL_sp hW h hf (by omega)
theorem k_chosenSpot (hW : Wd d) (h : CL 2 M d) (x : Int) (hx : 0 ≤ x ∧ x < nF d) : OK (fX3_chosenSpot M x) (fun r => r = spF (M 17) (M 19) (M 23) x.toNat) := by
  have hT := CL_TS hW h
  have e2 := (CL_2 h).2.2.1.1
  have n16 := hW.2.2.1
  have hh := k_hasFix 2 M x
  have e2' : M (2 + 11) 2 = nF d := e2
  rw [e2'] at hh
  unfold fX3_chosenSpot
  refine ok_cal hh (fun r1 h1 => ok_f (fun q => yes_f h1 q hx) (ok_gd (by omega) ?_))
  have hc := k_hasCandidate 2 M x (M 23 x.toNat) (by rw [e2']; omega)
  rw [e2'] at hc
  have hc2 : OK (fX3_hasCandidate 2 M x (M 23 x.toNat)) (fun r => yes r ((0 ≤ x ∧ x < nF d) ∧ 0 ≤ M 23 x.toNat ∧ M 23 x.toNat < M 16 x.toNat)) := hc
  have c16 := (hT x.toNat (by omega)).1
  unfold spF
  by_cases hp : M 17 x.toNat = -6
  · have hg := CL_g h (f := x.toNat) (by omega) hp
    rw [if_pos hp]
    refine ok_cal hc2 (fun r2 h2 => ok_if (fun q => ok_some rfl) (fun q => ?_))
    have := yes_t h2 q
    omega
  · have hv := CL_V h (f := x.toNat) (by omega) hp
    rw [if_neg hp]
    refine ok_cal hc2 (fun r2 h2 => ok_f (fun q => yes_f h2 q ⟨hx, hv.1⟩) (ok_cal (k_slot M (f := x) (k := M 23 x.toNat) (by omega) (by omega)) (fun r3 h3 => ok_gd h3.2 (ok_some ?_))))
    rw [show r3.toNat = 20 * x.toNat + (M 23 x.toNat).toNat by omega]
theorem k_stepStart (hW : Wd d) (h : CL 2 M d) (x : Int) (hx : 0 ≤ x ∧ x < nF d) : OK (fX3_stepStart M x) (fun r => r = ssF (M 17) (M 18) (M 19) (M 23) x.toNat) := by
  have hT := CL_TS hW h
  have e2 := (CL_2 h).2.2.1.1
  have n16 := hW.2.2.1
  have e2' : M (2 + 11) 2 = nF d := e2
  have hg := k_isGap 2 M x (by rw [e2']; omega)
  rw [e2'] at hg
  have hg2 : OK (fX3_isGap 2 M x) (fun r => yes r (¬ (0 ≤ x ∧ x < nF d) ∨ M 17 x.toNat = -6)) := hg
  unfold fX3_stepStart ssF
  refine ok_jn (ok_cal hg2 (fun r2 h2 => ok_if (fun q => ok_gd (by omega) ?_) (fun q => ok_some ?_)))
  · have hp : M 17 x.toNat ≠ -6 := fun h9 => yes_f h2 q (Or.inr h9)
    refine ok_if (fun z => ok_some (by rw [if_pos (Or.inr z)])) (fun z => ok_gd (by omega) ?_)
    obtain ⟨g, g1, g2, g3, -⟩ := TS_bf hT (f := x.toNat) (by omega) hp z
    rw [g2]
    refine ok_cal (k_chosenSpot hW h (g : Int) ⟨by omega, by omega⟩) (fun r3 h3 => ok_some ?_)
    rw [h3, tn, if_neg (by omega)]
    unfold spF
    rw [if_neg (by omega)]
  · rcases yes_t h2 q with h9 | h9
    · exact absurd hx h9
    · rw [if_pos (Or.inl h9)]
theorem CL_ss (hW : Wd d) (h : CL 2 M d) {f : Nat} (hf : (f : Int) < nF d) (hp : M 17 f ≠ -6) (hb : M 18 f ≠ -6) : Sp d (ssF (M 17) (M 18) (M 19) (M 23) f) := by
  have hT := CL_TS hW h
  obtain ⟨g, g1, g2, g3, -⟩ := TS_bf hT hf hp hb
  have := CL_sf hW h (f := g) (by omega) (by omega)
  unfold spF at this
  unfold ssF
  rw [if_neg (by omega)] at this
  rw [if_neg (by omega), g2, tn]
  exact this
theorem k_stepLength (hW : Wd d) (h : CL 2 M d) (x : Int) (hx : 0 ≤ x ∧ x < nF d) : OK (fX3_stepLength M x) (fun r => r = slF d (fun i j => M 10 (12 * i + j)) (M 17) (M 18) (M 19) (M 23) x.toNat) := by
  unfold fX3_stepLength slF
  refine ok_cal (k_stepStart hW h x hx) (fun r1 h1 => ?_)
  by_cases hp : M 17 x.toNat = -6 ∨ M 18 x.toNat = -6
  · have : r1 = -6 := by rw [h1]; unfold ssF; rw [if_pos hp]
    rw [if_pos hp]
    exact ok_t this (ok_some rfl)
  · have s1 := CL_ss hW h (f := x.toNat) (by omega) (fun h9 => hp (Or.inl h9)) (fun h9 => hp (Or.inr h9))
    have s2 := CL_sf hW h (f := x.toNat) (by omega) (fun h9 => hp (Or.inl h9))
    have : r1 ≠ -6 := by have := s1.1; rw [← h1] at this; omega
    rw [if_neg hp]
    refine ok_f this (ok_cal (k_chosenSpot hW h x hx) (fun r2 h2 => ?_))
    rw [h1, h2]
    exact ok_cal (k_wayLength hW.1 (CL_2 h).1 s1 s2) (fun r3 h3 => ok_some h3)
/-- the ends by which a way leaves and comes -/
def eA (d : Dt) (h s : Int) : Int := if h < 3 then rf d (sr s) else rl d (sr s)
def eB (d : Dt) (h s : Int) : Int := if h = 2 ∨ h = 4 then rl d (sr s) else rf d (sr s)
def thF (d : Dt) (G : Nat → Nat → Int) (s t k : Int) : Int := if wo d G s t = -6 ∨ wo d G s t = 0 ∨ k < 0 then -6 else thr d G (eB d (wo d G s t) t) k.toNat (eA d (wo d G s t) s)
theorem ends_b (hN : WN d) {G : Nat → Nat → Int} (hG : DM (nC d) (eg d) G) {s t : Int} (hs : Sp d s) (ht : Sp d t) (h6 : wo d G s t ≠ -6) (h0 : wo d G s t ≠ 0) : (0 ≤ eA d (wo d G s t) s ∧ eA d (wo d G s t) s < nC d) ∧ (0 ≤ eB d (wo d G s t) t ∧ eB d (wo d G s t) t < nC d) ∧ G (eA d (wo d G s t) s).toNat (eB d (wo d G s t) t).toNat ≠ -6 := by
  obtain ⟨s1, -⟩ := Sp_b hN hs
  obtain ⟨t1, -⟩ := Sp_b hN ht
  obtain ⟨a1, -, a2⟩ := rF_lt hN s1
  obtain ⟨b1, -, b2⟩ := rL_lt hN s1
  obtain ⟨c1, -, c2⟩ := rF_lt hN t1
  obtain ⟨e1, -, e2⟩ := rL_lt hN t1
  rcases wy_b hN hG hs ht with ⟨-, w⟩ | ⟨w1, w2, w3⟩
  · exact absurd w h6
  · have via6 : ∀ {a g b : Int}, via a g b ≠ -6 → g ≠ -6 := fun h h9 => h (by unfold via; rw [if_pos h9])
    have w4 : oL d G s t (wo d G s t) ≠ -6 := by rw [← w3]; omega
    generalize wo d G s t = w at *
    have hw : w = 1 ∨ w = 2 ∨ w = 3 ∨ w = 4 := by omega
    unfold eA eB
    rcases hw with rfl | rfl | rfl | rfl
    · rw [oL_1] at w4
      unfold o1 at w4
      rw [if_pos (by decide), if_neg (by decide)]
      split at w4
      · exact ⟨by omega, by omega, via6 w4⟩
      · exact absurd rfl w4
    · rw [oL_2] at w4
      unfold o2 at w4
      rw [if_pos (by decide), if_pos (by decide)]
      split at w4
      · exact ⟨by omega, by omega, via6 w4⟩
      · exact absurd rfl w4
    · rw [oL_3] at w4
      unfold o3 at w4
      rw [if_neg (by decide), if_neg (by decide)]
      exact ⟨by omega, by omega, via6 w4⟩
    · rw [oL_4] at w4
      unfold o4 at w4
      rw [if_neg (by decide), if_pos (by decide)]
      split at w4
      · exact ⟨by omega, by omega, via6 w4⟩
      · exact absurd rfl w4
theorem k_endOf (hN : WN d) (hC : CN (M 3) (M 4) (M 5) (M 6) (M 7) (M 8) (M 9) (M 10) d) {s : Int} (hs : Sp d s) (b : Int) : OK (fX0_endOf M s b) (fun r => r = if b = 0 then rf d (sr s) else rl d (sr s)) := by
  obtain ⟨s1, -, s2, -⟩ := Sp_b hN hs
  have n20 := hN.2.1
  obtain ⟨q1, q2, -⟩ := hC.2.2.2.1 (sr s) s1
  unfold fX0_endOf
  refine ok_bnd (fun t ht => ?_)
  rw [s2] at ht
  rw [ht, tn]
  refine ok_if (fun z => ok_gd (by omega) (ok_some (by rw [if_pos z]; exact q1))) (fun z => ok_gd (by omega) (ok_some (by rw [if_neg z]; exact q2)))
theorem k_crossingOnWay (hN : WN d) (hC : CN (M 3) (M 4) (M 5) (M 6) (M 7) (M 8) (M 9) (M 10) d) {s t : Int} (hs : Sp d s) (ht : Sp d t) (k : Int) : OK (fX0_crossingOnWay M s t k) (fun r => r = thF d (fun i j => M 10 (12 * i + j)) s t k) := by
  have hG := hC.2.2.2.2
  unfold fX0_crossingOnWay thF
  refine ok_cal (k_wayOut hN hC hs ht) (fun r1 h1 => ?_)
  rw [← h1]
  refine ok_if (fun z => ok_some (by rw [if_pos (Or.inl z)])) (fun z => ok_if (fun z2 => ok_some (by rw [if_pos (Or.inr (Or.inl z2))])) (fun z2 => ok_if (fun z3 => ?_) (fun z3 => ok_some (by rw [if_pos (Or.inr (Or.inr (by omega)))]))))
  have hb := ends_b hN hG hs ht (by rw [← h1]; exact z) (by rw [← h1]; exact z2)
  rw [← h1] at hb
  have l1 : OK (fX0_leavesByLast M r1) (fun r => (r1 < 3 ∧ r = 0) ∨ (¬ r1 < 3 ∧ r = 1)) := by
    unfold fX0_leavesByLast
    exact ok_if (fun q => ok_some (Or.inl ⟨q, rfl⟩)) (fun q => ok_some (Or.inr ⟨q, rfl⟩))
  have l2 : OK (fX0_comesByLast M r1) (fun r => ((r1 = 2 ∨ r1 = 4) ∧ r = 1) ∨ (¬ (r1 = 2 ∨ r1 = 4) ∧ r = 0)) := by
    unfold fX0_comesByLast
    exact ok_jn (ok_if (fun q => ok_some (Or.inl ⟨Or.inl q, rfl⟩)) (fun q => ok_if (fun q2 => ok_some (Or.inl ⟨Or.inr q2, rfl⟩)) (fun q2 => ok_some (Or.inr ⟨by omega, rfl⟩))))
  refine ok_cal l1 (fun r2 h2 => ok_cal (k_endOf hN hC hs r2) (fun r3 h3 => ok_cal l2 (fun r4 h4 => ok_cal (k_endOf hN hC ht r4) (fun r5 h5 => ?_))))
  have e3 : r3 = eA d r1 s := by
    rw [h3]; unfold eA
    rcases h2 with ⟨a, b⟩ | ⟨a, b⟩
    · rw [if_pos b, if_pos a]
    · rw [if_neg (by omega), if_neg a]
  have e5 : r5 = eB d r1 t := by
    rw [h5]; unfold eB
    rcases h4 with ⟨a, b⟩ | ⟨a, b⟩
    · rw [if_neg (by omega), if_pos a]
    · rw [if_pos b, if_neg a]
  rw [if_neg (by omega), ← e3, ← e5]
  rw [← e3, ← e5] at hb
  have n11 := nearer_11 hN (G := fun i j => M 10 (12 * i + j)) (a := r3) (t := r5) hb.1
  have := k_onWayL hN hC s t k hb.2.1 1000 r3 0 hb.1 hb.2.2 (by omega) z3 (by omega) (by omega)
  rw [show k - 0 = k by omega] at this
  exact this
theorem k_stepCrossing (hW : Wd d) (h : CL 2 M d) (x : Int) (hx : 0 ≤ x ∧ x < nF d) (k : Int) : OK (fX3_stepCrossing M x k) (fun r => r = if M 17 x.toNat = -6 ∨ M 18 x.toNat = -6 then -6 else thF d (fun i j => M 10 (12 * i + j)) (ssF (M 17) (M 18) (M 19) (M 23) x.toNat) (spF (M 17) (M 19) (M 23) x.toNat) k) := by
  unfold fX3_stepCrossing
  refine ok_cal (k_stepStart hW h x hx) (fun r1 h1 => ?_)
  by_cases hp : M 17 x.toNat = -6 ∨ M 18 x.toNat = -6
  · have : r1 = -6 := by rw [h1]; unfold ssF; rw [if_pos hp]
    rw [if_pos hp]
    exact ok_t this (ok_some rfl)
  · have s1 := CL_ss hW h (f := x.toNat) (by omega) (fun h9 => hp (Or.inl h9)) (fun h9 => hp (Or.inr h9))
    have s2 := CL_sf hW h (f := x.toNat) (by omega) (fun h9 => hp (Or.inl h9))
    have : r1 ≠ -6 := by have := s1.1; rw [← h1] at this; omega
    rw [if_neg hp]
    refine ok_f this (ok_cal (k_chosenSpot hW h x hx) (fun r2 h2 => ?_))
    rw [h1, h2]
    exact ok_cal (k_crossingOnWay hW.1 (CL_2 h).1 s1 s2 k) (fun r3 h3 => ok_some h3)
end CLS
