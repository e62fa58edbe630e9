/-! the reference lays all: the way there -/
def offA (M M' : Mm) : Prop := (∀ a, a ≠ 71 → (a < 80 ∨ 88 < a) → M' a = M a) ∧ ∀ j, j ≠ 20 → M' 71 j = M 71 j
theorem offA_rf {M : Mm} : offA M M := ⟨fun _ _ _ => rfl, fun _ _ => rfl⟩
theorem offA_tr {M M' M2 : Mm} (h : offA M M') (k : offA M' M2) : offA M M2 := ⟨fun a h1 h2 => by rw [k.1 a h1 h2, h.1 a h1 h2], fun j hj => by rw [k.2 j hj, h.2 j hj]⟩
theorem offA_of {M M' : Mm} (h : ∀ a, (a < 80 ∨ 88 < a) → M' a = M a) : offA M M' := ⟨fun a _ h2 => h a h2, fun j _ => by rw [h 71 (by omega)]⟩
theorem mB_A {M M' : Mm} (h : offA M M') : mB M' = mB M := by
  unfold mB
  rw [h.2 2 (by decide), h.2 6 (by decide), h.2 10 (by decide), h.1 72 (by decide) (by decide), h.1 73 (by decide) (by decide), h.1 74 (by decide) (by decide), h.1 75 (by decide) (by decide), h.1 76 (by decide) (by decide), h.1 77 (by decide) (by decide), h.1 78 (by decide) (by decide), h.1 79 (by decide) (by decide)]
def pcs (pc : Nat → Int) (n : Nat) : Int := if lng pc n = -6 then 0 else pc (lng pc n).toNat + 1
theorem pcs_gap {pc : Nat → Int} {n : Nat} (h : pc n = -6) : lng pc (n + 1) = lng pc n ∧ pcs pc (n + 1) = pcs pc n := by
  have e : lng pc (n + 1) = lng pc n := by conv => { lhs; unfold lng }; rw [if_pos h]
  exact ⟨e, by unfold pcs; rw [e]⟩
theorem pcs_non {pc : Nat → Int} {n : Nat} (h : pc n ≠ -6) : lng pc (n + 1) = (n : Int) ∧ pcs pc (n + 1) = pc n + 1 := by
  have e : lng pc (n + 1) = (n : Int) := by conv => { lhs; unfold lng }; rw [if_neg h]
  exact ⟨e, by unfold pcs; rw [e, if_neg (by omega), tn]⟩
theorem pcs_congr {pc pc' : Nat → Int} {n : Nat} (h : ∀ i, i < n → pc' i = pc i) : lng pc' n = lng pc n ∧ pcs pc' n = pcs pc n := by
  have e := lng_congr n h
  refine ⟨e, ?_⟩
  unfold pcs
  rw [e]
  split
  · rfl
  · rcases lng_spec pc n with ⟨a, -⟩ | ⟨g, a, b, -, -⟩
    · contradiction
    · rw [b, tn, h g a]
theorem k_layL14 (M0 : Mm) (hN : WN (mB M0)) (hR : WRu (mB M0)) (hW : WF (mB M0)) {G : Nat → Nat → Int} (hG : DM (nC (mB M0)) (eg (mB M0)) G) (k89 : Mm → Option Mm) (P : Mm → Prop)
    (hk : ∀ M : Mm, offA M0 M → farOf (nC (mB M0)) G (M 80) → TR (mB M0) G (M 85) (M 86) (M 87) (M 81) (M 82) (M 83) (M 84) (nF (mB M0)) → M 71 20 = pcs (M 86) (nF (mB M0)).toNat → OK (k89 M) P) :
    ∀ (n : Nat) (v3 v4 : Int) (M : Mm), 0 ≤ v4 → v4 ≤ nF (mB M0) → 16 < (n : Int) + v4 → offA M0 M → farOf (nC (mB M0)) G (M 80) → TR (mB M0) G (M 85) (M 86) (M 87) (M 81) (M 82) (M 83) (M 84) v4 → v3 = lng (M 86) v4.toNat → M 71 20 = pcs (M 86) v4.toNat → OK (fX5_layAll_L14 k89 n v3 v4 M) P := by
  intro n
  induction n with
  | zero => intro v3 v4 M h0 h1 h2; have := hW.1; omega
  | succ n ih =>
    intro v3 v4 M h0 h1 h2 hO hF hT h3 h4
    have hF16 := hW.1
    have eb := mB_A hO
    have e10 : M 71 10 = nF (mB M0) := by rw [← eb]; rfl
    unfold fX5_layAll_L14
    rw [e10]
    refine ok_if (fun h => ?_) (fun h => ?_)
    · have : v4 = nF (mB M0) := by omega
      rw [this] at hT h3 h4
      exact hk M hO hF hT h4
    generalize hd : mB M0 = d at hN hR hW hG hk h1 ih hT hF16 h eb e10 hF
    obtain ⟨F, hFn⟩ : ∃ F : Nat, v4.toNat = F := ⟨_, rfl⟩
    have hFi : (F : Int) = v4 := by omega
    have hf : 0 ≤ v4 ∧ v4 < 16 := by omega
    have inr1 : inR (v4 + 1) := ⟨by omega, by omega⟩
    rw [hFn] at h3 h4 ⊢
    have hxy := hW.2 F (by omega)
    refine ok_jnK (fun K32 => ∀ (w3 : Int) (M1 : Mm), offA M0 M1 → farOf (nC d) G (M1 80) → (∀ i, i < F → M1 85 i = M 85 i ∧ M1 86 i = M 86 i ∧ M1 87 i = M 87 i) → (∀ j, j < 20 * F → M1 81 j = M 81 j ∧ M1 82 j = M 82 j ∧ M1 83 j = M 83 j ∧ M1 84 j = M 84 j) → TR1 d G (M1 85) (M1 86) (M1 87) (M1 81) (M1 82) (M1 83) (M1 84) F → M1 71 20 = pcs (M1 86) (F + 1) → w3 = lng (M1 86) (F + 1) → OK (K32 w3 v4 M1) P) ?_ (fun K32 hK => ?_)
    · intro w3 M1 g1 g2 g3 g4 g5 g6 g7
      refine ok_gd inr1 (ih w3 (v4 + 1) M1 (by omega) (by omega) (by omega) g1 g2 (fun f hf2 => ?_) (by rw [show (v4 + 1).toNat = F + 1 by omega]; exact g7) (by rw [show (v4 + 1).toNat = F + 1 by omega]; exact g6))
      by_cases hfF : f = F
      · rw [hfF]; exact g5
      · refine TR1_congr ⟨rfl, rfl, rfl, rfl, rfl⟩ (fun i hi => ⟨rfl, rfl⟩) (fun i hi => ⟨(g3 i (by omega)).1, (g3 i (by omega)).2.1, (TR_cn hN hT (f := i) (by omega)).2⟩) (fun _ => (g3 f (by omega)).2.2) (fun i k hi hk => g4 _ (by omega)) (hT f (by omega))
    have eMd : mB M = d := eb
    have hlc := k_layCandidates M (by rw [eMd]; exact hN) (by rw [eMd]; exact hR) v4 hf (by rw [hFn]; have := hxy.1; rw [← eMd] at this; exact this) (by rw [hFn]; have := hxy.2; rw [← eMd] at this; exact this)
    rw [eMd, hFn] at hlc
    refine ok_cal hlc (fun M34 h34 => ok_gd hf (ok_bnd (fun M35 e35 => ok_gd hf ?_)))
    obtain ⟨c1, c2, c3, c4⟩ := h34
    have o35 : ∀ a, a ≠ 81 → a ≠ 82 → a ≠ 85 → a ≠ 86 → M35 a = M a := fun a a1 a2 a3 a4 => by rw [e35, up_row a4, c1 a a1 a2 a3]
    have r81 : M35 81 = M34 81 := by rw [e35, up_row (by decide)]
    have r82 : M35 82 = M34 82 := by rw [e35, up_row (by decide)]
    have r85 : M35 85 = M34 85 := by rw [e35, up_row (by decide)]
    have r86 : M35 86 = uf (M 86) F (-6) := by rw [e35]; funext j; rw [up_at, c1 86 (by decide) (by decide) (by decide)]; rfl
    have hCD : CD d F (M35 85) (M35 81) (M35 82) := by rw [r85, r81, r82]; exact c4
    have lo85 : ∀ i, i < F → M35 85 i = M 85 i := fun i hi => by rw [r85]; exact c3 i (by omega)
    have lo81 : ∀ j, j < 20 * F → M35 81 j = M 81 j ∧ M35 82 j = M 82 j := fun j hj => by rw [r81, r82]; exact c2 j hj
    have O35 : offA M0 M35 := offA_tr hO (offA_of (fun a ha => o35 a (by omega) (by omega) (by omega) (by omega)))
    have cF := CD_n hN hCD
    refine ok_if (fun z0 => ?_) (fun z0 => ?_)
    · -- a gap
      have p86 : M35 86 F = -6 := by rw [r86]; exact if_pos rfl
      have lo86 : ∀ i, i < F → M35 86 i = M 86 i := fun i hi => by rw [r86]; exact if_neg (by omega)
      have pg := pcs_gap p86
      have pcg := pcs_congr lo86
      refine hK v3 M35 O35 (by rw [o35 80 (by decide) (by decide) (by decide) (by decide)]; exact hF) (fun i hi => ⟨lo85 i hi, lo86 i hi, by rw [o35 87 (by decide) (by decide) (by decide) (by decide)]⟩) (fun j hj => ⟨(lo81 j hj).1, (lo81 j hj).2, by rw [o35 83 (by decide) (by decide) (by decide) (by decide)], by rw [o35 84 (by decide) (by decide) (by decide) (by decide)]⟩) ⟨hCD, Or.inl ⟨by omega, p86⟩⟩ ?_ ?_
      · rw [pg.2, pcg.2, o35 71 (by decide) (by decide) (by decide) (by decide)]; exact h4
      · rw [pg.1, pcg.1]; exact h3
    · have LS := lng_spec (M 86) F
      rw [← h3] at LS
      have hk9 : ∀ k : Nat, (k : Int) < M35 85 F → Sp d (M35 81 (20 * F + k)) ∧ 0 ≤ M35 82 (20 * F + k) ∧ M35 82 (20 * F + k) ≤ 8 := fun k hk => by
        obtain ⟨r, -, -, -, -, -, h6, h7⟩ := CD_k hN hR hCD hk
        exact ⟨h6, h7⟩
      have hpb : 0 ≤ M 71 20 ∧ M 71 20 ≤ 15 ∧ ∀ g : Nat, v3 = (g : Int) → M 71 20 = M 86 g + 1 := by
        rw [h4]
        unfold pcs
        rw [← h3]
        rcases LS with ⟨q, -⟩ | ⟨g, q1, q2, q3, -⟩
        · rw [if_pos q]; exact ⟨by omega, by omega, fun g hg => by omega⟩
        · rw [if_neg (by omega), show v3.toNat = g by omega]
          have := TR_pcf hT (f := g) (by omega)
          exact ⟨by omega, by omega, fun g' hg' => by rw [show g' = g by omega]⟩
      -- behind the last store
      refine ok_jnK (fun K38 => ∀ M2 : Mm, (∀ a, a ≠ 71 → a ≠ 83 → a ≠ 84 → a ≠ 87 → M2 a = M35 a) → (∀ j, j ≠ 20 → M2 71 j = M 71 j) → (0 ≤ M2 71 20 ∧ M2 71 20 ≤ 16) → (∀ i, i < F → M2 87 i = M 87 i) → (∀ j, j < 20 * F → M2 83 j = M 83 j ∧ M2 84 j = M 84 j) → (∀ pc : Nat → Int, (∀ i, i < F → pc i = M 86 i) → pc F = M2 71 20 - 1 → pc F ≠ -6 ∧ TR1 d G (M2 85) pc (M2 87) (M2 81) (M2 82) (M2 83) (M2 84) F) → OK (K38 v4 M2) P) ?_ (fun K38 hK38 => ?_)
      · intro M2 g1 g2 g3 g4 g5 g6
        refine ok_gd ⟨⟨by omega, by omega⟩, hf⟩ (ok_bnd (fun M39 e39 => ?_))
        rw [hFn] at e39
        have o39 : ∀ a, a ≠ 86 → M39 a = M2 a := fun a ha => by rw [e39, up_row ha]
        have p86 : ∀ j, M39 86 j = if j = F then M2 71 20 - 1 else M2 86 j := fun j => by rw [e39, up_at]
        have lo86 : ∀ i, i < F → M39 86 i = M 86 i := fun i hi => by rw [p86, if_neg (by omega), g1 86 (by decide) (by decide) (by decide) (by decide), r86]; exact if_neg (by omega)
        have pF : M39 86 F = M2 71 20 - 1 := by rw [p86, if_pos rfl]
        obtain ⟨g7, g8⟩ := g6 (M39 86) lo86 pF
        have pn := pcs_non g7
        refine hK v4 M39 ⟨fun a a1 a2 => ?_, fun j hj => ?_⟩ ?_ (fun i hi => ⟨?_, lo86 i hi, ?_⟩) (fun j hj => ⟨?_, ?_, ?_, ?_⟩) ?_ ?_ ?_
        · rw [o39 a (by omega), g1 a a1 (by omega) (by omega) (by omega)]; exact O35.1 a a1 a2
        · rw [o39 71 (by decide), g2 j hj]; exact hO.2 j hj
        · rw [o39 80 (by decide), g1 80 (by decide) (by decide) (by decide) (by decide), o35 80 (by decide) (by decide) (by decide) (by decide)]; exact hF
        · rw [o39 85 (by decide), g1 85 (by decide) (by decide) (by decide) (by decide)]; exact lo85 i hi
        · rw [o39 87 (by decide)]; exact g4 i hi
        · rw [o39 81 (by decide), g1 81 (by decide) (by decide) (by decide) (by decide)]; exact (lo81 j hj).1
        · rw [o39 82 (by decide), g1 82 (by decide) (by decide) (by decide) (by decide)]; exact (lo81 j hj).2
        · rw [o39 83 (by decide)]; exact (g5 j hj).1
        · rw [o39 84 (by decide)]; exact (g5 j hj).2
        · rw [o39 81 (by decide), o39 82 (by decide), o39 83 (by decide), o39 84 (by decide), o39 85 (by decide), o39 87 (by decide)]; exact g8
        · rw [pn.2, pF, o39 71 (by decide)]; omega
        · rw [pn.1]; omega
      -- one that begins
      refine ok_jnK (fun K44 => ∀ M2 : Mm, (∀ a, a ≠ 83 → a ≠ 84 → a ≠ 87 → M2 a = M35 a) → (∀ i, i < F → M2 87 i = M 87 i) → outF F (M 83) (M2 83) → outF F (M 84) (M2 84) → (v3 = -6 ∨ ∃ g : Nat, g < F ∧ v3 = (g : Int) ∧ ∀ co2 : Nat → Int, (∀ j, j < 20 * F → co2 j = M 83 j) → ∀ k : Nat, (k : Int) < M35 85 F → (jrT d G (M35 85) (M35 81) co2 F g k).1 = -6) → OK (K44 v4 M2) P) ?_ (fun K44 hK44 => ?_)
      · intro M2 g1 g2 g3 g4 g5
        have eb2 : mB M2 = d := by rw [← hd]; exact mB_A (offA_tr O35 (offA_of (fun a ha => g1 a (by omega) (by omega) (by omega))))
        have e71 : M2 71 = M 71 := by rw [g1 71 (by decide) (by decide) (by decide), o35 71 (by decide) (by decide) (by decide) (by decide)]
        have hb := k_mbegin M2 (by rw [eb2]; exact hR) v4 hf (by rw [hFn, g1 85 (by decide) (by decide) (by decide)]; exact cF) (by rw [hFn, g1 85 (by decide) (by decide) (by decide), g1 82 (by decide) (by decide) (by decide)]; exact fun k hk => (hk9 k hk).2) (by rw [e71]; omega)
        rw [hFn, eb2, e71, g1 85 (by decide) (by decide) (by decide), g1 82 (by decide) (by decide) (by decide)] at hb
        refine ok_cal hb (fun M45 h45 => ?_)
        obtain ⟨b1, b2, b3, b4, b5, b6⟩ := h45
        have p71 : M45 71 20 = M 71 20 + 1 := by rw [b2]; exact if_pos rfl
        refine hK38 M45 (fun a a1 a2 a3 a4 => by rw [b1 a a1 a2 a3 a4, g1 a a2 a3 a4]) (fun j hj => by rw [b2]; exact if_neg hj) (by omega) (fun i hi => by rw [b3]; unfold uf; rw [if_neg (by omega)]; exact g2 i hi) (fun j hj => ⟨by rw [b4 j (by omega), g3 j (by omega)], by rw [b5 j (by omega), g4 j (by omega)]⟩) (fun pc hp1 hp2 => ?_)
        have hl : lng pc F = v3 := by rw [h3]; exact lng_congr F hp1
        have q85 : M45 85 = M35 85 := by rw [b1 85 (by decide) (by decide) (by decide) (by decide), g1 85 (by decide) (by decide) (by decide)]
        have q81 : M45 81 = M35 81 := by rw [b1 81 (by decide) (by decide) (by decide) (by decide), g1 81 (by decide) (by decide) (by decide)]
        have q82 : M45 82 = M35 82 := by rw [b1 82 (by decide) (by decide) (by decide) (by decide), g1 82 (by decide) (by decide) (by decide)]
        have bfF : M45 87 F = -6 := by rw [b3]; exact if_pos rfl
        refine ⟨by omega, by rw [q85, q81, q82]; exact hCD, Or.inr ?_⟩
        rw [hl, q85, q82, q81, hp2, p71]
        rcases g5 with g5 | ⟨g, q1, q2, q3⟩
        · refine Or.inl ⟨by omega, g5, ?_, bfF, b6⟩
          rw [h4]; unfold pcs; rw [← h3, if_pos g5]; rfl
        · refine Or.inr (Or.inr ⟨by omega, g, q1, q2, q3 _ (fun j hj => by rw [b4 j (by omega), g3 j (by omega)]), ?_, bfF, b6⟩)
          rw [hp1 g q1, hpb.2.2 g q2]; omega
      refine ok_gd hf (ok_bnd (fun M46 e46 => ?_))
      have o46 : ∀ a, a ≠ 87 → M46 a = M35 a := fun a ha => by rw [e46, up_row ha]
      have r87 : ∀ j, M46 87 j = if j = F then v3 else M 87 j := fun j => by rw [e46, up_at, o35 87 (by decide) (by decide) (by decide) (by decide)]
      have e83 : M46 83 = M 83 := by rw [o46 83 (by decide), o35 83 (by decide) (by decide) (by decide) (by decide)]
      have e84 : M46 84 = M 84 := by rw [o46 84 (by decide), o35 84 (by decide) (by decide) (by decide) (by decide)]
      rcases LS with ⟨q, -⟩ | ⟨g, hg, rg, hpg, -⟩
      · exact ok_t (by omega) (hK44 M46 (fun a _ _ a3 => o46 a a3) (fun i hi => by rw [r87, if_neg (by omega)]) (by rw [e83]; exact outF_rf) (by rw [e84]; exact outF_rf) (Or.inl q))
      · refine ok_f (by omega) ?_
        have hgi : v3.toNat = g := by omega
        have cg := TR_cn hN hT (f := g) (by omega)
        have eb46 : mB M46 = d := by rw [← hd]; exact mB_A (offA_tr O35 (offA_of (fun a ha => o46 a (by omega))))
        have e81 : M46 81 = M35 81 := o46 81 (by decide)
        have e82 : M46 82 = M35 82 := o46 82 (by decide)
        have e85 : M46 85 = M35 85 := o46 85 (by decide)
        have e78 : M46 78 = fx d := by rw [← eb46]; rfl
        have e79 : M46 79 = fy d := by rw [← eb46]; rfl
        have hMP : MP G M46 v4 v3 19296 := by
          unfold MP
          rw [eb46, hFn, hgi, e85, e81, e82, e83, e78, e79, lo85 g hg]
          refine ⟨hN, hR, hG, by rw [o46 80 (by decide), o35 80 (by decide) (by decide) (by decide) (by decide)]; exact hF, hf, by omega, by omega, cF, cg, fun i hi => ?_, hk9, hxy, hW.2 g (by omega), by omega⟩
          rw [(lo81 _ (by omega)).1]
          obtain ⟨-, -, -, -, -, -, hs2, -⟩ := CD_k hN hR (hT g (by omega)).1 hi
          exact ⟨hs2, TR_cof hN hR hW hG hT h1 (by omega) hi⟩
        have ejr : ∀ (co2 : Nat → Int) (k : Nat), (∀ j, j < 20 * F → co2 j = M 83 j) → jrT d G (M35 85) (M35 81) co2 F g k = jrD G M46 v4 v3 k := by
          intro co2 k hc
          unfold jrD jrT stD stF
          rw [eb46, hFn, hgi, e78, e79, e85, e81, e83]
          exact jcs_congr _ (fun i hi => ⟨hc _ (by rw [lo85 g hg] at hi; omega), Or.inr rfl⟩)
        have hgo := k_goOn M46 v4 v3 19296 hMP
        rw [hFn, e83, e84, e85, e82, eb46] at hgo
        refine ok_cal2 hgo (fun r47 M48 h48 => ?_)
        obtain ⟨s1, s2, s3, s4, s5⟩ := h48
        dsimp only at s1 s2 s3 s4 s5
        have o48 : ∀ a, a ≠ 83 → a ≠ 84 → a ≠ 87 → M48 a = M35 a := fun a a1 a2 a3 => by rw [s1 a a1 a2, o46 a a3]
        have q87 : ∀ i, i < F → M48 87 i = M 87 i := fun i hi => by rw [s1 87 (by decide) (by decide), r87, if_neg (by omega)]
        refine ok_if (fun z2 => hK44 M48 o48 q87 s2 s3 (Or.inr ⟨g, hg, rg, fun co2 hc k hk => ?_⟩)) (fun z2 => hK38 M48 (fun a _ a2 a3 a4 => o48 a a2 a3 a4) (fun j hj => ?_) ?_ q87 (fun j hj => ⟨s2 j (by omega), s3 j (by omega)⟩) (fun pc hp1 hp2 => ?_))
        · rw [ejr co2 k hc]
          exact Classical.byContradiction (fun h9 => yes_f s5 z2 ⟨k, hk, h9⟩)
        · rw [o48 71 (by decide) (by decide) (by decide), o35 71 (by decide) (by decide) (by decide) (by decide)]
        · rw [o48 71 (by decide) (by decide) (by decide), o35 71 (by decide) (by decide) (by decide) (by decide)]; omega
        · rw [o48 71 (by decide) (by decide) (by decide), o35 71 (by decide) (by decide) (by decide) (by decide)] at hp2
          have hl : lng pc F = v3 := by rw [h3]; exact lng_congr F hp1
          have hp3 := hpb.2.2 g rg
          have := TR_pcf hT (f := g) (by omega)
          obtain ⟨k0, k1, k2⟩ := yes_t s5 z2
          refine ⟨by omega, by rw [o48 85 (by decide) (by decide) (by decide), o48 81 (by decide) (by decide) (by decide), o48 82 (by decide) (by decide) (by decide)]; exact hCD, Or.inr (Or.inr (Or.inl ?_))⟩
          rw [hl, o48 85 (by decide) (by decide) (by decide), o48 81 (by decide) (by decide) (by decide), o48 82 (by decide) (by decide) (by decide)]
          refine ⟨by omega, g, hg, rg, ⟨k0, k1, by rw [ejr _ k0 (fun j hj => s2 j (by omega))]; exact k2⟩, by rw [hp1 g hg]; omega, by rw [s1 87 (by decide) (by decide), r87, if_pos rfl]; exact rg, fun k hk => ?_⟩
          rw [ejr _ k (fun j hj => s2 j (by omega))]
          exact s4 k hk
