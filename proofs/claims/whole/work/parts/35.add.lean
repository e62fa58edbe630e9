/-! the class: a fix comes -/
theorem k_hasFix (b : Nat) (M : Mm) (x : Int) : OK (fX3_hasFix b M x) (fun r => yes r (0 ≤ x ∧ x < M (b + 11) 2)) := by
  unfold fX3_hasFix jn yes
  (repeat' refine ok_if (fun _ => ?_) (fun _ => ?_)) <;> (refine ok_some ?_; omega)
theorem k_isGap (b : Nat) (M : Mm) (x : Int) (hn : M (b + 11) 2 ≤ 16) : OK (fX3_isGap b M x) (fun r => yes r (¬ (0 ≤ x ∧ x < M (b + 11) 2) ∨ M (b + 15) x.toNat = -6)) := by
  unfold fX3_isGap
  refine ok_jn (ok_cal (k_hasFix b M x) (fun r h => ?_))
  refine ok_if (fun q => ok_some (Or.inl ⟨rfl, Or.inl (yes_f h q)⟩)) (fun q => ?_)
  have h2 := yes_t h q
  refine ok_gd (by omega) (ok_if (fun q2 => ok_some (Or.inl ⟨rfl, Or.inr q2⟩)) (fun q2 => ok_some (Or.inr ⟨rfl, fun h3 => ?_⟩)))
  rcases h3 with h3 | h3
  · exact h3 h2
  · exact q2 h3
theorem k_lastFixedL (M : Mm) (hn : 0 ≤ M 13 2 ∧ M 13 2 ≤ 16) : ∀ (n : Nat) (v : Int), -1 ≤ v → v < M 13 2 → v + 1 < (n : Int) → lng (M 17) (M 13 2).toNat = lng (M 17) (v + 1).toNat → OK (fX3_lastFixed_L7 M n v) (fun r => r = lng (M 17) (M 13 2).toNat) := by
  intro n
  induction n with
  | zero => intro v h0 h1 h2; omega
  | succ n ih =>
    intro v h0 h1 h2 h3
    unfold fX3_lastFixed_L7
    refine ok_if (fun h => ok_some ?_) (fun h => ?_)
    · have : (v + 1).toNat = 0 := by omega
      rw [h3, this]; rfl
    · refine ok_cal (k_isGap 2 M v hn.2) (fun r hr => ?_)
      have hr2 : yes r (¬ (0 ≤ v ∧ v < M 13 2) ∨ M 17 v.toNat = -6) := hr
      have e5 : (v + 1).toNat = v.toNat + 1 := by omega
      have el : lng (M 17) (v.toNat + 1) = if M 17 v.toNat = -6 then lng (M 17) v.toNat else ((v.toNat : Nat) : Int) := rfl
      refine ok_if (fun q => ok_some ?_) (fun q => ok_gd (by omega) (ih (v + -1) (by omega) (by omega) (by omega) ?_))
      · have q2 := yes_f hr2 q
        rw [h3, e5, el, if_neg (fun h9 => q2 (Or.inr h9))]
        omega
      · have q2 := yes_t hr2 q
        have q3 : M 17 v.toNat = -6 := by
          rcases q2 with q2 | q2
          · omega
          · exact q2
        rw [h3, e5, el, if_pos q3]
        congr 1
        omega
theorem k_lastFixed (M : Mm) (hn : 0 ≤ M 13 2 ∧ M 13 2 ≤ 16) : OK (fX3_lastFixed M) (fun r => r = lng (M 17) (M 13 2).toNat) := by
  unfold fX3_lastFixed
  refine ok_gd (by omega) (ok_bnd (fun t ht => ?_))
  exact k_lastFixedL M hn 1000 t (by omega) (by omega) (by omega) (by rw [show t + 1 = M 13 2 by omega])
def dF (d : Dt) (x y : Int) : Dt := ((nC d, nR d, nF d + 1), cx d, cy d, rf d, rl d, rw' d, ru d, uf (fx d) (nF d).toNat x, uf (fy d) (nF d).toNat y)
/-- the class's fixes in their rows -/
def TC (o tx ty cn pc bf sp ap co bk : Nat → Int) (G : Nat → Nat → Int) (d : Dt) : Prop := o 2 = nF d ∧ (∀ j : Nat, (j : Int) < nF d → tx j = fx d j ∧ ty j = fy d j) ∧ TR d G cn pc bf sp ap co bk (nF d) ∧ ∀ f : Nat, (f : Int) < nF d → cn f = 0 → bf f = -6
theorem sameN_dF (d : Dt) (x y : Int) : sameN d (dF d x y) := ⟨rfl, rfl, rfl, rfl, rfl⟩
theorem CDp_CD {d : Dt} {f : Nat} {x y : Int} {cn sp ap : Nat → Int} {d' : Dt} (hs : sameN d d') (hx : fx d' f = x) (hy : fy d' f = y) (h : CDp d f x y (nR d) (cn f) sp ap) : CD d' f cn sp ap := by
  obtain ⟨e1, e2, e3, e4, -⟩ := hs
  have es : sB d' x y = sB d x y := by funext r; unfold sB; rw [e2, e3]
  unfold CD
  rw [hx, hy, es, e1, e3, e4]
  exact h
theorem k_addFix {d : Dt} (hN : WN d) (hR : WRu d) (hW : WF d) (M : Mm) (hC : CN (M 3) (M 4) (M 5) (M 6) (M 7) (M 8) (M 9) (M 10) d) (hru : ∀ j : Nat, j < 4 → M 12 j = ru d j) (hT : TC (M 13) (M 14) (M 15) (M 16) (M 17) (M 18) (M 19) (M 20) (M 21) (M 22) (fun i j => M 10 (12 * i + j)) d) (x y : Int) (hx : 0 ≤ x ∧ x ≤ 63) (hy : 0 ≤ y ∧ y ≤ 63) (hn : nF d < 16) (P : Mm → Prop)
    (hset : ∀ M1, (∀ a, (a < 13 ∨ 22 < a) → M1 a = M a) → (∀ j, j ≠ 2 → M1 13 j = M 13 j) → TC (M1 13) (M1 14) (M1 15) (M1 16) (M1 17) (M1 18) (M1 19) (M1 20) (M1 21) (M1 22) (fun i j => M 10 (12 * i + j)) (dF d x y) → OK (cal (fX3_settle 2 M1) (fun M3 => some M3)) P) : OK (fX3_addFix M x y) P := by
  obtain ⟨t1, t2, t3, t4⟩ := hT
  have hF := hW.1
  have hG := hC.2.2.2.2
  generalize hGd : (fun i j => M 10 (12 * i + j)) = G at *
  unfold fX3_addFix
  rw [t1]
  refine ok_t hn (ok_jnK (fun K => ∀ M1, (∀ a, (a < 13 ∨ 22 < a) → M1 a = M a) → (∀ j, j ≠ 2 → M1 13 j = M 13 j) → TC (M1 13) (M1 14) (M1 15) (M1 16) (M1 17) (M1 18) (M1 19) (M1 20) (M1 21) (M1 22) G (dF d x y) → OK (K M1) P) hset (fun K hK => ?_))
  refine ok_cal (k_lastFixed M (by rw [t1]; omega)) (fun r4 h4 => ?_)
  rw [t1] at h4
  have hf : 0 ≤ nF d ∧ nF d < 16 := by omega
  refine ok_gd hf (ok_bnd (fun M5 e5 => ok_gd hf (ok_bnd (fun M6 e6 => ok_gd (by omega) (ok_bnd (fun M7 e7 => ok_gd hf (ok_bnd (fun M8 e8 => ?_))))))))
  obtain ⟨F, hFn⟩ : ∃ F : Nat, (nF d).toNat = F := ⟨_, rfl⟩
  have hFi : ((F : Nat) : Int) = nF d := by omega
  rw [hFn] at e5 e6 e8 h4
  -- rows behind the first stores
  have o8 : ∀ a, a ≠ 13 → a ≠ 14 → a ≠ 15 → a ≠ 18 → M8 a = M a := fun a a1 a2 a3 a4 => by rw [e8, up_row a4, e7, up_row a1, e6, up_row a3, e5, up_row a2]
  have r13 : M8 13 = uf (M 13) 2 (nF d + 1) := by rw [e8, up_row (by decide), e7]; funext j; rw [up_at, e6, up_row (by decide), e5, up_row (by decide)]; rfl
  have r14 : M8 14 = uf (M 14) F x := by rw [e8, up_row (by decide), e7, up_row (by decide), e6, up_row (by decide), e5]; funext j; rw [up_at]; rfl
  have r15 : M8 15 = uf (M 15) F y := by rw [e8, up_row (by decide), e7, up_row (by decide), e6]; funext j; rw [up_at, e5, up_row (by decide)]; rfl
  have r18 : M8 18 = uf (M 18) F (-6) := by rw [e8]; funext j; rw [up_at, e7, up_row (by decide), e6, up_row (by decide), e5, up_row (by decide)]; rfl
  have hC8 : CN (M8 3) (M8 4) (M8 5) (M8 6) (M8 7) (M8 8) (M8 9) (M8 10) d := by
    rw [o8 3 (by decide) (by decide) (by decide) (by decide), o8 4 (by decide) (by decide) (by decide) (by decide), o8 5 (by decide) (by decide) (by decide) (by decide), o8 6 (by decide) (by decide) (by decide) (by decide), o8 7 (by decide) (by decide) (by decide) (by decide), o8 8 (by decide) (by decide) (by decide) (by decide), o8 9 (by decide) (by decide) (by decide) (by decide), o8 10 (by decide) (by decide) (by decide) (by decide)]
    exact hC
  have x8 : M8 14 F = x := by rw [r14]; exact if_pos rfl
  have y8 : M8 15 F = y := by rw [r15]; exact if_pos rfl
  have h12 : M8 12 = M 12 := o8 12 (by decide) (by decide) (by decide) (by decide)
  refine ok_cal (k_findCandidates hN M8 hC8 (by rw [h12]; exact hru 0 (by decide)) (nF d) hf (by rw [hFn, x8]; exact hx) (by rw [hFn, y8]; exact hy)) (fun M9 h9 => ?_)
  rw [hFn, x8, y8] at h9
  obtain ⟨q1, q2, q3, q4⟩ := h9
  have o9 : ∀ a, a ≠ 13 → a ≠ 14 → a ≠ 15 → a ≠ 16 → a ≠ 18 → a ≠ 19 → a ≠ 20 → M9 a = M a := fun a a1 a2 a3 a4 a5 a6 a7 => by rw [q1 a a4 a6 a7, o8 a a1 a2 a3 a5]
  have fx' : fx (dF d x y) F = x := by show uf (fx d) (nF d).toNat x F = x; rw [hFn]; exact if_pos rfl
  have fy' : fy (dF d x y) F = y := by show uf (fy d) (nF d).toNat y F = y; rw [hFn]; exact if_pos rfl
  have fxo : ∀ i, i < F → fx (dF d x y) i = fx d i ∧ fy (dF d x y) i = fy d i := fun i hi => ⟨if_neg (by omega), if_neg (by omega)⟩
  have hCD : CD (dF d x y) F (M9 16) (M9 19) (M9 20) := CDp_CD (sameN_dF d x y) fx' fy' q4
  have hN' : WN (dF d x y) := hN
  have hR' : WRu (dF d x y) := hR
  have cF := CD_n hN' hCD
  have hk9 : ∀ k : Nat, (k : Int) < M9 16 F → Sp d (M9 19 (20 * F + k)) ∧ 0 ≤ M9 20 (20 * F + k) ∧ M9 20 (20 * F + k) ≤ 8 := fun k hk => by
    obtain ⟨r, -, -, -, -, -, h6, h7⟩ := CD_k hN' hR' hCD hk
    exact ⟨h6, h7⟩
  -- the tables below the new fix
  have low : ∀ (cn2 pc2 bf2 sp2 ap2 co2 bk2 : Nat → Int), (∀ i, i < F → cn2 i = M 16 i ∧ pc2 i = M 17 i ∧ bf2 i = M 18 i) → (∀ j, j < 20 * F → sp2 j = M 19 j ∧ ap2 j = M 20 j ∧ co2 j = M 21 j ∧ bk2 j = M 22 j) → ∀ f : Nat, f < F → TR1 (dF d x y) G cn2 pc2 bf2 sp2 ap2 co2 bk2 f := by
    intro cn2 pc2 bf2 sp2 ap2 co2 bk2 g1 g2 f hf2
    refine TR1_congr (sameN_dF d x y) (fun i hi => fxo i (by omega)) (fun i hi => ⟨(g1 i (by omega)).1, (g1 i (by omega)).2.1, (TR_cn hN t3 (f := i) (by omega)).2⟩) (fun _ => (g1 f hf2).2.2) (fun i k hi hk => g2 _ (by omega)) (t3 f (by omega))
  have fin : ∀ M1 : Mm, (∀ a, (a < 13 ∨ 22 < a) → M1 a = M a) → M1 13 = uf (M 13) 2 (nF d + 1) → M1 14 = uf (M 14) F x → M1 15 = uf (M 15) F y → (∀ i, i < F → M1 16 i = M 16 i ∧ M1 17 i = M 17 i ∧ M1 18 i = M 18 i) → (∀ j, j < 20 * F → M1 19 j = M 19 j ∧ M1 20 j = M 20 j ∧ M1 21 j = M 21 j ∧ M1 22 j = M 22 j) → TR1 (dF d x y) G (M1 16) (M1 17) (M1 18) (M1 19) (M1 20) (M1 21) (M1 22) F → (M1 16 F = 0 → M1 18 F = -6) → OK (K M1) P := by
    intro M1 g1 g13 g14 g15 g2 g3 g4 g5
    refine hK M1 g1 (fun j hj => by rw [g13]; exact if_neg hj) ⟨by rw [g13]; rfl, fun j hj => ?_, fun f hf2 => ?_, fun f hf2 h0 => ?_⟩
    · rw [g14, g15]
      have hj2 : (j : Int) < nF d + 1 := hj
      by_cases hjF : j = F
      · rw [hjF, fx', fy']; exact ⟨if_pos rfl, if_pos rfl⟩
      · rw [(fxo j (by omega)).1, (fxo j (by omega)).2, ← (t2 j (by omega)).1, ← (t2 j (by omega)).2]; exact ⟨if_neg hjF, if_neg hjF⟩
    · have hf3 : (f : Int) < nF d + 1 := hf2
      by_cases hfF : f = F
      · rw [hfF]; exact g4
      · exact low _ _ _ _ _ _ _ g2 g3 f (by omega)
    · have hf3 : (f : Int) < nF d + 1 := hf2
      by_cases hfF : f = F
      · rw [hfF] at h0 ⊢; exact g5 h0
      · rw [(g2 f (by omega)).1] at h0
        rw [(g2 f (by omega)).2.2]
        exact t4 f (by omega) h0
  have lnF : ∀ pc2 : Nat → Int, (∀ i, i < F → pc2 i = M 17 i) → lng pc2 F = r4 := fun pc2 h => by rw [h4]; exact lng_congr F h
  have p17 : ∀ j, M9 17 j = M 17 j := fun j => by rw [o9 17 (by decide) (by decide) (by decide) (by decide) (by decide) (by decide) (by decide)]
  have p18 : M9 18 = uf (M 18) F (-6) := by rw [q1 18 (by decide) (by decide) (by decide)]; exact r18
  have p13 : M9 13 = uf (M 13) 2 (nF d + 1) := by rw [q1 13 (by decide) (by decide) (by decide)]; exact r13
  have p14 : M9 14 = uf (M 14) F x := by rw [q1 14 (by decide) (by decide) (by decide)]; exact r14
  have p15 : M9 15 = uf (M 15) F y := by rw [q1 15 (by decide) (by decide) (by decide)]; exact r15
  have p16 : ∀ i, i < F → M9 16 i = M 16 i := fun i hi => by rw [q3 i (by omega), o8 16 (by decide) (by decide) (by decide) (by decide)]
  have p19 : ∀ j, j < 20 * F → M9 19 j = M 19 j ∧ M9 20 j = M 20 j := fun j hj => by rw [(q2 j hj).1, (q2 j hj).2, o8 19 (by decide) (by decide) (by decide) (by decide), o8 20 (by decide) (by decide) (by decide) (by decide)]; exact ⟨rfl, rfl⟩
  have p21 : M9 21 = M 21 ∧ M9 22 = M 22 := ⟨o9 21 (by decide) (by decide) (by decide) (by decide) (by decide) (by decide) (by decide), o9 22 (by decide) (by decide) (by decide) (by decide) (by decide) (by decide) (by decide)⟩
  have pout : ∀ a, (a < 13 ∨ 22 < a) → M9 a = M a := fun a ha => o9 a (by omega) (by omega) (by omega) (by omega) (by omega) (by omega) (by omega)
  have h12' : M9 12 = M 12 := pout 12 (by omega)
  rw [hFn]
  refine ok_gd hf (ok_if (fun z0 => ok_gd hf (ok_bnd (fun Ma ea => ?_))) (fun z0 => ?_))
  · -- a gap
    have m17 : Ma 17 = uf (M9 17) F (-6) := by rw [ea]; funext j; rw [up_at]; rfl
    have oa : ∀ a, a ≠ 17 → Ma a = M9 a := fun a ha => by rw [ea, up_row ha]
    refine fin Ma (fun a ha => by rw [oa a (by omega), pout a ha]) (by rw [oa 13 (by decide)]; exact p13) (by rw [oa 14 (by decide)]; exact p14) (by rw [oa 15 (by decide)]; exact p15) (fun i hi => ?_) (fun j hj => ?_) ⟨by rw [oa 16 (by decide), oa 19 (by decide), oa 20 (by decide)]; exact hCD, Or.inl ⟨by rw [oa 16 (by decide)]; exact z0, by rw [m17]; exact if_pos rfl⟩⟩ (fun _ => by rw [oa 18 (by decide), p18]; exact if_pos rfl)
    · rw [oa 16 (by decide), oa 18 (by decide), m17, p18]
      unfold uf
      rw [if_neg (by omega), if_neg (by omega)]
      exact ⟨p16 i hi, p17 i, rfl⟩
    · rw [oa 19 (by decide), oa 20 (by decide), oa 21 (by decide), oa 22 (by decide), p21.1, p21.2]
      exact ⟨(p19 j hj).1, (p19 j hj).2, rfl, rfl⟩
  · -- one that begins a piece p behind M2 (tables of M2 as M9's but for rows 21, 22 at the new fix)
    have begins : ∀ (M2 : Mm) (p : Int), (∀ a, a ≠ 21 → a ≠ 22 → M2 a = M9 a) → outF F (M9 21) (M2 21) → outF F (M9 22) (M2 22) → (∀ co2 : Nat → Int, (∀ j, j < 20 * F → co2 j = M 21 j) → (r4 = -6 ∧ p = 0) ∨ (∃ g : Nat, g < F ∧ r4 = (g : Int) ∧ (∀ k : Nat, (k : Int) < M9 16 F → (jrT (dF d x y) G (M9 16) (M9 19) co2 F g k).1 = -6) ∧ p = M 17 g + 1)) → OK (cal (fX3_beginPiece M2 (nF d) p) (fun M12 => K M12)) P := by
      intro M2 p m1 m2 m3 m4
      have hk2 := k_beginPiece (d := d) M2 (nF d) p hf hR (by rw [m1 12 (by decide) (by decide), h12']; exact hru 1 (by decide)) (by rw [hFn, m1 16 (by decide) (by decide)]; exact cF) (by rw [hFn, m1 16 (by decide) (by decide), m1 20 (by decide) (by decide)]; exact fun k hk => (hk9 k hk).2)
      rw [hFn] at hk2
      refine ok_cal hk2 (fun Mb hb => ?_)
      obtain ⟨b1, b2, b3, b4, b5⟩ := hb
      have ob : ∀ a, a ≠ 17 → a ≠ 21 → a ≠ 22 → Mb a = M9 a := fun a a1 a2 a3 => by rw [b1 a a1 a2 a3, m1 a a2 a3]
      rw [m1 17 (by decide) (by decide)] at b2
      rw [m1 16 (by decide) (by decide), m1 20 (by decide) (by decide)] at b5
      have c21 : ∀ j, j < 20 * F → Mb 21 j = M 21 j ∧ Mb 22 j = M 22 j := fun j hj => by
        rw [b3 j (by omega), b4 j (by omega), m2 j (by omega), m3 j (by omega), p21.1, p21.2]; exact ⟨rfl, rfl⟩
      have e16 := ob 16 (by decide) (by decide) (by decide)
      have e19 := ob 19 (by decide) (by decide) (by decide)
      have e20 := ob 20 (by decide) (by decide) (by decide)
      have e18 := ob 18 (by decide) (by decide) (by decide)
      have pcF : Mb 17 F = p := by rw [b2]; exact if_pos rfl
      have pcl : ∀ i, i < F → Mb 17 i = M 17 i := fun i hi => by rw [b2]; unfold uf; rw [if_neg (by omega)]; exact p17 i
      have hTB : TB (dF d x y) (Mb 16) (Mb 20) (Mb 21) (Mb 22) F := by rw [e16, e20]; exact b5
      have bfF : Mb 18 F = -6 := by rw [e18, p18]; exact if_pos rfl
      refine fin Mb (fun a ha => by rw [ob a (by omega) (by omega) (by omega), pout a ha]) (by rw [ob 13 (by decide) (by decide) (by decide)]; exact p13) (by rw [ob 14 (by decide) (by decide) (by decide)]; exact p14) (by rw [ob 15 (by decide) (by decide) (by decide)]; exact p15) (fun i hi => ?_) (fun j hj => ?_) ⟨by rw [e16, e19, e20]; exact hCD, Or.inr ?_⟩ (fun _ => bfF)
      · rw [e16, e18, p18]
        refine ⟨p16 i hi, pcl i hi, if_neg (by omega)⟩
      · rw [e19, e20]
        exact ⟨(p19 j hj).1, (p19 j hj).2, (c21 j hj).1, (c21 j hj).2⟩
      · have hl := lnF (Mb 17) pcl
        rcases m4 (Mb 21) (fun j hj => (c21 j hj).1) with ⟨r6, rp⟩ | ⟨g, hg, rg, hd, rp⟩
        · exact Or.inl ⟨by rw [e16]; exact z0, by rw [hl]; exact r6, by rw [pcF]; exact rp, bfF, hTB⟩
        · exact Or.inr (Or.inr ⟨by rw [e16]; exact z0, g, hg, by rw [hl]; exact rg, by rw [e16, e19]; exact hd, by rw [pcF, pcl g hg]; exact rp, bfF, hTB⟩)
    have LS := lng_spec (M 17) F
    rw [← h4] at LS
    refine ok_if (fun z1 => begins M9 0 (fun _ _ _ => rfl) outF_rf outF_rf (fun _ _ => Or.inl ⟨z1, rfl⟩)) (fun z1 => ?_)
    rcases LS with ⟨q, -⟩ | ⟨g, hg, rg, hpg, -⟩
    · exact absurd q z1
    · have hgi : r4.toNat = g := by omega
      have cg := TR_cn hN t3 (f := g) (by omega)
      have hJ : JP d M9 (nF d) r4 19296 := by
        unfold JP
        rw [hFn, hgi, h12', pout 3 (by omega), pout 4 (by omega), pout 5 (by omega), pout 6 (by omega), pout 7 (by omega), pout 8 (by omega), pout 9 (by omega), pout 10 (by omega), p16 g hg, p14, p15]
        have wg := hW.2 g (by omega)
        refine ⟨hC, ⟨hru 1 (by decide), hru 2 (by decide), hru 3 (by decide)⟩, hf, by omega, by omega, cF, cg, fun i hi => ?_, hk9, ?_, ?_, by omega⟩
        · rw [(p19 _ (by omega)).1, p21.1]
          obtain ⟨-, -, -, -, -, -, hs2, -⟩ := CD_k hN hR (t3 g (by omega)).1 hi
          exact ⟨hs2, TR_cof hN hR hW hG t3 (Int.le_refl _) (by omega) hi⟩
        · unfold uf; rw [if_pos rfl, if_pos rfl]; exact ⟨hx, hy⟩
        · unfold uf; rw [if_neg (by omega), if_neg (by omega), (t2 g (by omega)).1, (t2 g (by omega)).2]; exact wg
      have e10 : (fun i j => M9 10 (12 * i + j)) = G := by rw [pout 10 (by omega)]; exact hGd
      have ejr : ∀ (co2 : Nat → Int) (k : Nat), (∀ j, j < 20 * F → co2 j = M 21 j) → (k : Int) < M9 16 F → jrT (dF d x y) G (M9 16) (M9 19) co2 F g k = jrM d M9 (nF d) r4 k := by
        intro co2 k hc hk
        unfold jrM jrT stM stF
        rw [e10, hFn, hgi, jcs_d (d := d) (d' := dF d x y) rfl rfl, fx', fy', (fxo g hg).1, (fxo g hg).2, p14, p15]
        unfold uf
        rw [if_pos rfl, if_pos rfl, if_neg (by omega), if_neg (by omega), (t2 g (by omega)).1, (t2 g (by omega)).2]
        exact jcs_congr _ (fun i hi => ⟨by rw [hc _ (by rw [p16 g hg] at hi; omega), p21.1], Or.inr rfl⟩)
      refine ok_cal2 (k_goesOn hN hR M9 (nF d) r4 19296 hJ) (fun r10 Mc hc => ?_)
      rw [hFn] at hc
      obtain ⟨s1, s2, s3, s4, s5⟩ := hc
      dsimp only at s1 s2 s3 s4 s5
      have s17 : Mc 17 r4.toNat = M 17 g := by rw [s1 17 (by decide) (by decide), hgi]; exact p17 g
      have pcg := TR_pcf t3 (f := g) (by omega)
      rw [s17]
      refine ok_if (fun z2 => ok_gd (by omega) (begins Mc (M 17 g + 1) s1 s2 s3 (fun co2 hc2 => Or.inr ⟨g, hg, rg, fun k hk => ?_, rfl⟩))) (fun z2 => ok_gd (by omega) (ok_bnd (fun Md ed => ok_gd hf (ok_bnd (fun Me ee => ?_)))))
      · rw [ejr co2 k hc2 hk]
        exact Classical.byContradiction (fun h9 => yes_f s5 z2 ⟨k, hk, h9⟩)
      · have oe : ∀ a, a ≠ 17 → a ≠ 18 → Me a = Mc a := fun a a1 a2 => by rw [ee, up_row a2, ed, up_row a1]
        have e17 : Me 17 = uf (Mc 17) F (M 17 g) := by rw [ee, up_row (by decide), ed]; funext j; rw [up_at]; rfl
        have e18 : Me 18 = uf (Mc 18) F r4 := by rw [ee]; funext j; rw [up_at, ed, up_row (by decide)]; rfl
        have e16 : Me 16 = M9 16 := by rw [oe 16 (by decide) (by decide), s1 16 (by decide) (by decide)]
        have e19 : Me 19 = M9 19 := by rw [oe 19 (by decide) (by decide), s1 19 (by decide) (by decide)]
        have e20 : Me 20 = M9 20 := by rw [oe 20 (by decide) (by decide), s1 20 (by decide) (by decide)]
        have e21 : Me 21 = Mc 21 := oe 21 (by decide) (by decide)
        have e22 : Me 22 = Mc 22 := oe 22 (by decide) (by decide)
        have c21 : ∀ j, j < 20 * F → Mc 21 j = M 21 j ∧ Mc 22 j = M 22 j := fun j hj => by rw [s2 j (by omega), s3 j (by omega), p21.1, p21.2]; exact ⟨rfl, rfl⟩
        have pcl : ∀ i, i < F → Me 17 i = M 17 i := fun i hi => by rw [e17]; unfold uf; rw [if_neg (by omega), s1 17 (by decide) (by decide)]; exact p17 i
        obtain ⟨k0, k1, k2⟩ := yes_t s5 z2
        refine fin Me (fun a ha => by rw [oe a (by omega) (by omega), s1 a (by omega) (by omega), pout a ha]) (by rw [oe 13 (by decide) (by decide), s1 13 (by decide) (by decide)]; exact p13) (by rw [oe 14 (by decide) (by decide), s1 14 (by decide) (by decide)]; exact p14) (by rw [oe 15 (by decide) (by decide), s1 15 (by decide) (by decide)]; exact p15) (fun i hi => ?_) (fun j hj => ?_) ⟨by rw [e16, e19, e20]; exact hCD, Or.inr (Or.inr (Or.inl ⟨by rw [e16]; exact z0, g, hg, by rw [lnF (Me 17) pcl]; exact rg, ?_, ?_, ?_, fun k hk => ?_⟩))⟩ (fun h0 => ?_)
        · refine ⟨by rw [e16]; exact p16 i hi, pcl i hi, ?_⟩
          rw [e18]; unfold uf; rw [if_neg (by omega), s1 18 (by decide) (by decide), p18]; exact if_neg (by omega)
        · rw [e19, e20, e21, e22]
          exact ⟨(p19 j hj).1, (p19 j hj).2, (c21 j hj).1, (c21 j hj).2⟩
        · rw [e16, e19, e21]
          exact ⟨k0, k1, by rw [ejr _ k0 (fun j hj => (c21 j hj).1) k1]; exact k2⟩
        · rw [pcl g hg, e17]; exact if_pos rfl
        · rw [e18]; unfold uf; rw [if_pos rfl]; exact rg
        · rw [e16] at hk
          rw [e16, e19, e20, e21, e22, ejr _ k (fun j hj => (c21 j hj).1) hk]
          exact s4 k hk
        · rw [e16] at h0; exact absurd h0 z0
