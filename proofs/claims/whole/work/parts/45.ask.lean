/-! calls that ask: class and reference answer alike -/
section ASK
variable {M : Mm}
theorem c_hasFix (hI : Inv M) (x : Int) : OK (fX3_hasFix 2 M x) (fun r => yes r (0 ≤ x ∧ x < nF (mB M))) := by
  have e : M (2 + 11) 2 = nF (mB M) := (CL_2 hI.2.1).2.2.1.1
  have h := k_hasFix 2 M x
  rw [e] at h
  exact h
theorem q_best (hI : Inv M) (x : Int) : OK (fX4_best M x) (fun r => OK (fX5_best M x) (fun q => r = q.1 ∧ Inv q.2)) := by
  obtain ⟨hW, hCL, -⟩ := id hI
  unfold fX4_best fX5_best
  refine ok_cal (c_hasFix hI x) (fun r1 h1 => ok_if (fun q => ok_some ?_) (fun q => ?_))
  · exact ok_cal (m_isFix hW.2.2 x) (fun r2 h2 => ok_if (fun _ => ok_some ⟨rfl, hI⟩) (fun q2 => absurd (yes_t h2 q2) (yes_f h1 q)))
  · have hx := yes_t h1 q
    have n16 := hW.2.2.1
    refine ok_cal (k_chosenSpot hW hCL x hx) (fun r2 h2 => ok_some ?_)
    refine ok_cal (m_isFix hW.2.2 x) (fun r3 h3 => ok_f (fun q3 => yes_f h3 q3 hx) (ok_cal (k_lay hI) (fun M2 hl => ok_gd (by omega) ?_)))
    obtain ⟨hA, hC, hL, hI2⟩ := hl
    have hq := hL.2.2.1 x.toNat (by omega)
    have hpc := TS_pc (CL_TS hW hC) (f := x.toNat) (by omega)
    have er : spF (M2 17) (M2 19) (M2 23) x.toNat = r2 := by rw [h2, hA.1 17 (by decide) (by decide), hA.1 19 (by decide) (by decide), hA.1 23 (by decide) (by decide)]
    rw [hq.2.1]
    refine ok_if (fun z => ?_) (fun z => ok_some ⟨?_, hI2⟩)
    · obtain ⟨a0, a1, a2, a3, a4, -⟩ := LA_at hW hC hL (f := x.toNat) (by omega) (by omega)
      rw [show ((x.toNat : Nat) : Int) = x by omega] at a3
      rw [a1, a3, a4]
      exact ok_gd ⟨⟨by omega, by omega⟩, by omega, ⟨by omega, by omega⟩, by omega⟩ (ok_some ⟨er.symm, hI2⟩)
    · rw [← er]; unfold spF; rw [if_pos (by omega)]
theorem q_decided (hI : Inv M) (x : Int) : OK (fX4_decided M x) (fun r => OK (fX5_decided M x) (fun q => r = q.1 ∧ Inv q.2)) := by
  obtain ⟨hW, hCL, -⟩ := id hI
  unfold fX4_decided fX5_decided
  refine ok_cal (c_hasFix hI x) (fun r1 h1 => ok_if (fun q => ok_some ?_) (fun q => ?_))
  · exact ok_cal (m_isFix hW.2.2 x) (fun r2 h2 => ok_if (fun _ => ok_some ⟨rfl, hI⟩) (fun q2 => absurd (yes_t h2 q2) (yes_f h1 q)))
  · have hx := yes_t h1 q
    have n16 := hW.2.2.1
    have key : ∀ r2 : Int, (M 24 x.toNat = 0 → r2 = -6) → (M 24 x.toNat ≠ 0 → r2 = spF (M 17) (M 19) (M 23) x.toNat) → OK (cal (fX5_isFix M x) (fun r1 => if r1 = 0 then some ((-1 : Int), M) else cal (fX5_layAll M) (fun M2 => cal (fX5_isDecided M2 x) (fun r3 => if r3 = 0 then some ((-6 : Int), M2) else gd ((inR ((20 : Int) * x)) ∧ (0 ≤ x ∧ x < 16) ∧ (inR (((20 : Int) * x) + (M2 88 x.toNat))) ∧ (0 ≤ (((20 : Int) * x) + (M2 88 x.toNat)) ∧ (((20 : Int) * x) + (M2 88 x.toNat)) < 320)) (some ((M2 81 (((20 : Int) * x) + (M2 88 x.toNat)).toNat), M2)))))) (fun q => r2 = q.1 ∧ Inv q.2) := by
      intro r2 k0 k1
      refine ok_cal (m_isFix hW.2.2 x) (fun r3 h3 => ok_f (fun q3 => yes_f h3 q3 hx) (ok_cal (k_lay hI) (fun M2 hl => ?_)))
      obtain ⟨hA, hC, hL, hI2⟩ := hl
      have e24 : M2 24 = M 24 := hA.1 24 (by decide) (by decide)
      refine ok_cal (m_isDecided hW hC hL x hx) (fun r4 h4 => ok_if (fun z => ok_some ⟨k0 (by rw [← e24, ← h4]; exact z), hI2⟩) (fun z => ?_))
      have z2 : M 24 x.toNat ≠ 0 := by rw [← e24, ← h4]; exact z
      have hp : M2 17 x.toNat ≠ -6 := fun h9 => by
        have := (CL_g hC (f := x.toNat) (by omega) h9).2
        rw [e24] at this; exact z2 this
      have er : spF (M2 17) (M2 19) (M2 23) x.toNat = r2 := by rw [k1 z2, hA.1 17 (by decide) (by decide), hA.1 19 (by decide) (by decide), hA.1 23 (by decide) (by decide)]
      obtain ⟨a0, a1, a2, a3, a4, -⟩ := LA_at hW hC hL (f := x.toNat) (by omega) hp
      rw [show ((x.toNat : Nat) : Int) = x by omega] at a3
      rw [a1, a3, a4]
      exact ok_gd ⟨⟨by omega, by omega⟩, by omega, ⟨by omega, by omega⟩, by omega⟩ (ok_some ⟨er.symm, hI2⟩)
    refine ok_gd (by omega) (ok_if (fun z => ok_some (key _ (fun _ => rfl) (fun h9 => absurd z h9))) (fun z => ok_cal (k_chosenSpot hW hCL x hx) (fun r2 h2 => ok_some (key _ (fun h9 => absurd h9 z) (fun _ => h2)))))
theorem q_piece (hI : Inv M) (x : Int) : OK (fX4_piece M x) (fun r => OK (fX5_piece M x) (fun q => r = q.1 ∧ Inv q.2)) := by
  obtain ⟨hW, hCL, -⟩ := id hI
  unfold fX4_piece fX5_piece
  refine ok_cal (c_hasFix hI x) (fun r1 h1 => ok_if (fun q => ok_some ?_) (fun q => ?_))
  · exact ok_cal (m_isFix hW.2.2 x) (fun r2 h2 => ok_if (fun _ => ok_some ⟨rfl, hI⟩) (fun q2 => absurd (yes_t h2 q2) (yes_f h1 q)))
  · have hx := yes_t h1 q
    have n16 := hW.2.2.1
    refine ok_gd (by omega) (ok_some ?_)
    refine ok_cal (m_isFix hW.2.2 x) (fun r3 h3 => ok_f (fun q3 => yes_f h3 q3 hx) (ok_cal (k_lay hI) (fun M2 hl => ok_gd (by omega) (ok_some ⟨?_, hl.2.2.2⟩))))
    obtain ⟨hA, hC, hL, hI2⟩ := hl
    show M 17 x.toNat = M2 86 x.toNat
    rw [(hL.2.2.1 x.toNat (by omega)).2.1, hA.1 17 (by decide) (by decide)]
theorem q_step (hI : Inv M) (x : Int) : OK (fX4_step M x) (fun r => OK (fX5_step M x) (fun q => r = q.1 ∧ Inv q.2)) := by
  obtain ⟨hW, hCL, -⟩ := id hI
  unfold fX4_step fX5_step
  refine ok_cal (c_hasFix hI x) (fun r1 h1 => ok_if (fun q => ok_some ?_) (fun q => ?_))
  · exact ok_cal (m_isFix hW.2.2 x) (fun r2 h2 => ok_if (fun _ => ok_some ⟨rfl, hI⟩) (fun q2 => absurd (yes_t h2 q2) (yes_f h1 q)))
  · have hx := yes_t h1 q
    refine ok_cal (k_stepLength hW hCL x hx) (fun r2 h2 => ok_some ?_)
    refine ok_cal (m_isFix hW.2.2 x) (fun r3 h3 => ok_f (fun q3 => yes_f h3 q3 hx) (ok_cal (k_lay hI) (fun M2 hl => ?_)))
    obtain ⟨hA, hC, hL, hI2⟩ := hl
    refine ok_cal (m_stepOf hW hC hL x hx) (fun r4 h4 => ok_some ⟨?_, hI2⟩)
    rw [hA.1 10 (by decide) (by decide), hA.1 17 (by decide) (by decide), hA.1 18 (by decide) (by decide), hA.1 19 (by decide) (by decide), hA.1 23 (by decide) (by decide)] at h4
    show r2 = r4
    rw [h2, h4]
theorem q_candidate (hI : Inv M) (x k w : Int) : OK (fX4_candidate M x k w) (fun r => OK (fX5_candidate M x k w) (fun q => r = q.1 ∧ Inv q.2)) := by
  obtain ⟨hW, hCL, -⟩ := id hI
  unfold fX4_candidate
  refine ok_cal (c_hasFix hI x) (fun r1 h1 => ok_if (fun q => ok_some ?_) (fun q => ?_))
  · unfold fX5_candidate
    exact ok_cal (m_isFix hW.2.2 x) (fun r2 h2 => ok_if (fun _ => ok_some ⟨rfl, hI⟩) (fun q2 => absurd (yes_t h2 q2) (yes_f h1 q)))
  · have hx := yes_t h1 q
    have n16 := hW.2.2.1
    have c20 := (CL_TS hW hCL x.toNat (by omega)).1
    have out : ¬ (0 ≤ w ∧ w ≤ 3) → OK (fX5_candidate M x k w) (fun q => (-2 : Int) = q.1 ∧ Inv q.2) := fun h9 => by
      unfold fX5_candidate
      exact ok_cal (m_isFix hW.2.2 x) (fun r3 h3 => ok_f (fun q3 => yes_f h3 q3 hx) (ok_cal (k_in M w 0 3) (fun r4 h4 => ok_if (fun _ => ok_some ⟨rfl, hI⟩) (fun q4 => absurd (yes_t h4 q4) h9))))
    refine ok_if (fun z => ok_some (out (by omega))) (fun z => ok_if (fun z2 => ?_) (fun z2 => ok_some (out (by omega))))
    have ins : ∀ (r : Int), (k = -1 → r = M 16 x.toNat) → (k ≠ -1 → ¬ (0 ≤ k ∧ k < M 16 x.toNat) → r = -6) → (k ≠ -1 → (0 ≤ k ∧ k < M 16 x.toNat) → r = if w = 0 then M 19 (20 * x.toNat + k.toNat) else if w = 1 then M 20 (20 * x.toNat + k.toNat) else if w = 2 then M 21 (20 * x.toNat + k.toNat) else M 22 (20 * x.toNat + k.toNat)) → OK (fX5_candidate M x k w) (fun q => r = q.1 ∧ Inv q.2) := by
      intro r k1 k2 k3
      unfold fX5_candidate
      refine ok_cal (m_isFix hW.2.2 x) (fun r3 h3 => ok_f (fun q3 => yes_f h3 q3 hx) (ok_cal (k_in M w 0 3) (fun r4 h4 => ok_f (fun q4 => yes_f h4 q4 ⟨by omega, by omega⟩) (ok_cal (k_lay hI) (fun M3 hl => ?_)))))
      obtain ⟨hA, hC, hL, hI2⟩ := hl
      have hq := hL.2.2.1 x.toNat (by omega)
      rw [hA.1 16 (by decide) (by decide), hA.1 19 (by decide) (by decide), hA.1 20 (by decide) (by decide), hA.1 21 (by decide) (by decide), hA.1 22 (by decide) (by decide)] at hq
      rw [hq.1]
      refine ok_if (fun z3 => ok_gd (by omega) (ok_some ⟨k1 z3, hI2⟩)) (fun z3 => ok_gd ⟨by omega, ⟨by omega, by omega⟩⟩ (ok_cal (k_in M3 k 0 (M 16 x.toNat - 1)) (fun r5 h5 => ok_if (fun q5 => ok_some ⟨k2 z3 (fun h9 => yes_f h5 q5 ⟨by omega, by omega⟩), hI2⟩) (fun q5 => ?_))))
      have hk := yes_t h5 q5
      have hq2 := hq.2.2.2 k.toNat (by omega)
      have k4 := k3 z3 (by omega)
      refine ok_gd ⟨⟨by omega, by omega⟩, ⟨by omega, by omega⟩⟩ (ok_bnd (fun t ht => ?_))
      rw [show t.toNat = 20 * x.toNat + k.toNat by omega, hq2.1, hq2.2.1, hq2.2.2.1, hq2.2.2.2]
      refine ok_if (fun w0 => ok_gd (by omega) (ok_some ⟨?_, hI2⟩)) (fun w0 => ok_if (fun w1 => ok_gd (by omega) (ok_some ⟨?_, hI2⟩)) (fun w1 => ok_if (fun w2 => ok_gd (by omega) (ok_some ⟨?_, hI2⟩)) (fun w2 => ok_gd (by omega) (ok_some ⟨?_, hI2⟩))))
      · rw [if_pos w0] at k4; exact k4
      · rw [if_neg w0, if_pos w1] at k4; exact k4
      · rw [if_neg w0, if_neg w1, if_pos w2] at k4; exact k4
      · rw [if_neg w0, if_neg w1, if_neg w2] at k4; exact k4
    refine ok_if (fun z3 => ok_gd (by omega) (ok_some (ins _ (fun _ => rfl) (fun h9 => absurd z3 h9) (fun h9 => absurd z3 h9)))) (fun z3 => ?_)
    have e2 : M (2 + 11) 2 = nF (mB M) := (CL_2 hCL).2.2.1.1
    have hc := k_hasCandidate 2 M x k (by rw [e2]; omega)
    rw [e2] at hc
    have hc2 : OK (fX3_hasCandidate 2 M x k) (fun r => yes r ((0 ≤ x ∧ x < nF (mB M)) ∧ 0 ≤ k ∧ k < M 16 x.toNat)) := hc
    have tell : OK (fX3_tellCandidate M x k w) (fun r => (¬ (0 ≤ k ∧ k < M 16 x.toNat) → r = -6) ∧ ((0 ≤ k ∧ k < M 16 x.toNat) → r = if w = 0 then M 19 (20 * x.toNat + k.toNat) else if w = 1 then M 20 (20 * x.toNat + k.toNat) else if w = 2 then M 21 (20 * x.toNat + k.toNat) else M 22 (20 * x.toNat + k.toNat))) := by
      unfold fX3_tellCandidate
      refine ok_cal hc2 (fun r5 h5 => ok_if (fun q5 => ok_some ⟨fun _ => rfl, fun h9 => absurd ⟨hx, h9⟩ (yes_f h5 q5)⟩) (fun q5 => ?_))
      have hk := (yes_t h5 q5).2
      have hs := k_slot M (f := x) (k := k) (by omega) (by omega)
      refine ok_if (fun w0 => ok_cal hs (fun r6 h6 => ok_gd h6.2 (ok_some ⟨fun h9 => absurd hk h9, fun _ => ?_⟩))) (fun w0 => ok_if (fun w1 => ok_cal hs (fun r6 h6 => ok_gd h6.2 (ok_some ⟨fun h9 => absurd hk h9, fun _ => ?_⟩))) (fun w1 => ok_if (fun w2 => ok_cal hs (fun r6 h6 => ok_gd h6.2 (ok_some ⟨fun h9 => absurd hk h9, fun _ => ?_⟩))) (fun w2 => ok_cal hs (fun r6 h6 => ok_gd h6.2 (ok_some ⟨fun h9 => absurd hk h9, fun _ => ?_⟩)))))
      · rw [if_pos w0, show r6.toNat = 20 * x.toNat + k.toNat by omega]
      · rw [if_neg w0, if_pos w1, show r6.toNat = 20 * x.toNat + k.toNat by omega]
      · rw [if_neg w0, if_neg w1, if_pos w2, show r6.toNat = 20 * x.toNat + k.toNat by omega]
      · rw [if_neg w0, if_neg w1, if_neg w2, show r6.toNat = 20 * x.toNat + k.toNat by omega]
    exact ok_cal tell (fun r h => ok_some (ins r (fun h9 => absurd h9 z3) (fun _ => h.1) (fun _ => h.2)))
theorem q_through (hI : Inv M) (x k : Int) : OK (fX4_through M x k) (fun r => OK (fX5_through M x k) (fun q => r = q.1 ∧ Inv q.2)) := by
  obtain ⟨hW, hCL, -⟩ := id hI
  unfold fX4_through fX5_through
  refine ok_cal (c_hasFix hI x) (fun r1 h1 => ok_if (fun q => ok_some ?_) (fun q => ?_))
  · exact ok_cal (m_isFix hW.2.2 x) (fun r2 h2 => ok_if (fun _ => ok_some ⟨rfl, hI⟩) (fun q2 => absurd (yes_t h2 q2) (yes_f h1 q)))
  · have hx := yes_t h1 q
    have n16 := hW.2.2.1
    refine ok_cal (k_stepCrossing hW hCL x hx k) (fun r2 h2 => ok_some ?_)
    refine ok_cal (m_isFix hW.2.2 x) (fun r3 h3 => ok_f (fun q3 => yes_f h3 q3 hx) (ok_cal (k_lay hI) (fun M2 hl => ?_)))
    obtain ⟨hA, hC, hL, hI2⟩ := hl
    rw [← hA.1 10 (by decide) (by decide), ← hA.1 17 (by decide) (by decide), ← hA.1 18 (by decide) (by decide), ← hA.1 19 (by decide) (by decide), ← hA.1 23 (by decide) (by decide)] at h2
    obtain ⟨f, hf⟩ : ∃ f : Nat, x.toNat = f := ⟨_, rfl⟩
    have hfx : x = (f : Int) := by omega
    refine ok_cal (m_stepOf hW hC hL x hx) (fun r4 h4 => ?_)
    rw [hf] at h2 h4 ⊢
    unfold slF at h4
    by_cases hp : M2 17 f = -6 ∨ M2 18 f = -6
    · rw [if_pos hp] at h2 h4
      exact ok_f (by omega) (ok_some ⟨h2, hI2⟩)
    · rw [if_neg hp] at h2 h4
      have hT := CL_TS hW hC
      have hp1 : M2 17 f ≠ -6 := fun h9 => hp (Or.inl h9)
      have hb : M2 18 f ≠ -6 := fun h9 => hp (Or.inr h9)
      have hq := hL.2.2.1 f (by omega)
      have hpc := TS_pc hT (f := f) (by omega)
      obtain ⟨g, g1, g2, g3, -⟩ := TS_bf hT (f := f) (by omega) hp1 hb
      obtain ⟨a0, a1, a2, a3, a4, -⟩ := LA_at hW hC hL (f := f) (by omega) hp1
      obtain ⟨b0, b1, b2, b3, b4, -⟩ := LA_at hW hC hL (f := g) (by omega) (by omega)
      have s1 := CL_ss hW hC (f := f) (by omega) hp1 hb
      have s2 := CL_sf hW hC (f := f) (by omega) hp1
      have es : ssF (M2 17) (M2 18) (M2 19) (M2 23) f = spF (M2 17) (M2 19) (M2 23) g := by
        unfold ssF spF
        rw [if_neg hp, if_neg (by omega), g2, tn]
      have hG := (CL_2 hC).1.2.2.2.2
      have hF := hL.2.1
      have eb := hL.1
      rw [hq.2.2.1 (by omega), g2, tn, b1, a1, hfx, b3, a3, b4, a4, ← es]
      generalize ssF (M2 17) (M2 18) (M2 19) (M2 23) f = s at *
      generalize spF (M2 17) (M2 19) (M2 23) f = t at *
      rw [← eb] at hW hG hF h2 h4 s1 s2
      have wb := wy_b hW.1 hG s1 s2
      rw [← h4] at wb
      unfold thF at h2
      refine ok_if (fun z => ok_gd ⟨by omega, ⟨by omega, by omega⟩, by omega, by omega, ⟨by omega, by omega⟩, by omega⟩ (ok_bnd (fun t4 e4 => ok_gd ⟨⟨by omega, by omega⟩, by omega, ⟨by omega, by omega⟩, by omega⟩ (ok_bnd (fun t5 e5 => ?_))))) (fun z => ok_some ⟨?_, hI2⟩)
      · rw [e4, e5]
        refine ok_cal (k_leastOut hW.1 hG hF s1 s2) (fun r6 h6 => ?_)
        rw [← h6] at h2 wb
        refine ok_if (fun z0 => ok_some ⟨by rw [if_pos (Or.inr (Or.inl z0))] at h2; exact h2, hI2⟩) (fun z0 => ok_if (fun zk => ?_) (fun zk => ok_some ⟨by rw [if_pos (Or.inr (Or.inr (by omega)))] at h2; exact h2, hI2⟩))
        have hb6 : 0 ≤ r6 ∧ r6 < 5 := by omega
        rw [if_neg (by omega)] at h2
        have hen := ends_b hW.1 hG s1 s2 (by rw [← h6]; omega) (by rw [← h6]; exact z0)
        rw [← h6] at hen
        have n11 := nearer_11 hW.1 (G := fun i j => M2 10 (12 * i + j)) (a := eA (mB M2) r6 s) (t := eB (mB M2) r6 t) hen.1
        have fin := k_throughL hW.1 hG hF x k hen.2.1 1000 (eA (mB M2) r6 s) 0 hen.1 hen.2.2 (by omega) zk (by omega) (by omega)
        rw [show k - 0 = k by omega, hfx] at fin
        have fin2 : OK (fX5_through_L155 (f : Int) k 1000 (eA (mB M2) r6 s) (eB (mB M2) r6 t) 0 M2) (fun q => r2 = q.1 ∧ Inv q.2) := ok_mono fin (fun r hr => ⟨by rw [hr.1]; exact h2, by rw [hr.2]; exact hI2⟩)
        obtain ⟨p1, -, p2, -⟩ := Sp_b hW.1 s1
        obtain ⟨p3, -, p4, -⟩ := Sp_b hW.1 s2
        have n20 := hW.1.2.1
        rw [p2, tn]
        have last : ∀ v9 : Int, v9 = eA (mB M2) r6 s → OK (jn (fun (v12 : Int) (w13 : Int) (M14 : Mm) => fX5_through_L155 (f : Int) k 1000 v12 w13 (0 : Int) M14) (fun (K15 : Int → Int → Mm → Option (Int × Mm)) => if (r6.tmod (2 : Int)) = 0 then gd ((0 ≤ ((sr t : Nat) : Int) ∧ ((sr t : Nat) : Int) < 20)) (K15 v9 (M2 75 (sr t)) M2) else gd ((0 ≤ ((sr t : Nat) : Int) ∧ ((sr t : Nat) : Int) < 20)) (K15 v9 (M2 74 (sr t)) M2))) (fun q => r2 = q.1 ∧ Inv q.2) := by
          intro v9 e9
          rw [e9]
          refine ok_jn (ok_if (fun zz => ok_gd (by omega) ?_) (fun zz => ok_gd (by omega) ?_))
          · have : M2 75 (sr t) = eB (mB M2) r6 t := by
              unfold eB
              rw [if_pos (by rw [Int.tmod_eq_emod_of_nonneg hb6.1] at zz; omega)]
              rfl
            rw [this]; exact fin2
          · have : M2 74 (sr t) = eB (mB M2) r6 t := by
              unfold eB
              rw [if_neg (by rw [Int.tmod_eq_emod_of_nonneg hb6.1] at zz; omega)]
              rfl
            rw [this]; exact fin2
        refine ok_jn (ok_if (fun z3 => ok_gd (by omega) ?_) (fun z3 => ok_gd (by omega) ?_))
        · dsimp only
          rw [p4, tn]
          exact last _ (by unfold eA; rw [if_neg (by omega)]; rfl)
        · dsimp only
          rw [p4, tn]
          exact last _ (by unfold eA; rw [if_pos (by omega)]; rfl)
      · rw [if_pos (Or.inl (by omega))] at h2; exact h2
end ASK
