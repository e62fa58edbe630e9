/-! a fix begins a piece, or goes on -/
def outF (f : Nat) (u u' : Nat → Int) : Prop := ∀ j : Nat, ¬ (20 * f ≤ j ∧ j < 20 * f + 20) → u' j = u j
theorem outF_rf {f : Nat} {u : Nat → Int} : outF f u u := fun _ _ => rfl
theorem outF_uf {f k : Nat} {u u' : Nat → Int} {v : Int} (h : outF f u u') (hk : k < 20) : outF f u (uf u' (20 * f + k) v) := by
  intro j hj
  unfold uf
  rw [if_neg (by omega)]
  exact h j hj
theorem k_beginL {d : Dt} (M0 : Mm) (f p : Int) (hf : 0 ≤ f ∧ f < 16) (hR : WRu d) (hr : M0 12 1 = ru d 1) (cf : 0 ≤ M0 16 f.toNat ∧ M0 16 f.toNat ≤ 20) (ha : ∀ k : Nat, (k : Int) < M0 16 f.toNat → 0 ≤ M0 20 (20 * f.toNat + k) ∧ M0 20 (20 * f.toNat + k) ≤ 8) :
    ∀ (n : Nat) (v : Int) (M : Mm), 0 ≤ v → v ≤ M0 16 f.toNat → 20 < (n : Int) + v → (∀ a, a ≠ 21 → a ≠ 22 → M a = M0 a) → outF f.toNat (M0 21) (M 21) → outF f.toNat (M0 22) (M 22) → (∀ k : Nat, (k : Int) < v → M 21 (20 * f.toNat + k) = ru d 1 * M0 20 (20 * f.toNat + k) ∧ M 22 (20 * f.toNat + k) = -6) → OK (fX3_beginPiece_L9 f p n v M) (fun M' => (∀ a, a ≠ 21 → a ≠ 22 → M' a = M0 a) ∧ outF f.toNat (M0 21) (M' 21) ∧ outF f.toNat (M0 22) (M' 22) ∧ ∀ k : Nat, (k : Int) < M0 16 f.toNat → M' 21 (20 * f.toNat + k) = ru d 1 * M0 20 (20 * f.toNat + k) ∧ M' 22 (20 * f.toNat + k) = -6) := by
  intro n
  induction n with
  | zero => intro v M h0 h1 h2; omega
  | succ n ih =>
    intro v M h0 h1 h2 h3 h4 h5 h6
    have e16 := h3 16 (by decide) (by decide)
    have e12 : M 12 (1 : Int).toNat = ru d 1 := by rw [h3 12 (by decide) (by decide)]; exact hr
    have e20 := h3 20 (by decide) (by decide)
    unfold fX3_beginPiece_L9
    refine ok_gd hf ?_
    rw [e16, e12, e20]
    refine ok_if (fun h => ok_some ⟨h3, h4, h5, fun k hk => h6 k (by omega)⟩) (fun h => ?_)
    refine ok_cal (k_slot M hf (k := v) (by omega)) (fun r4 h4' => ok_cal (k_slot M hf (k := v) (by omega)) (fun r5 h5' => ?_))
    have i4 : r4.toNat = 20 * f.toNat + v.toNat := by omega
    have i5 : r5.toNat = 20 * f.toNat + v.toNat := by omega
    have hb := mul_b hR.2.1 (ha v.toNat (by omega))
    rw [i5]
    refine ok_gd (by omega) (ok_bnd (fun M6 e6 => ok_cal (k_slot M6 hf (k := v) (by omega)) (fun r7 h7 => ok_gd h7.2 (ok_bnd (fun M8 e8 => ok_gd (by omega) ?_)))))
    have i7 : r7.toNat = 20 * f.toNat + v.toNat := by omega
    rw [i4] at e6
    rw [i7] at e8
    have s21 : M8 21 = uf (M 21) (20 * f.toNat + v.toNat) (ru d 1 * M0 20 (20 * f.toNat + v.toNat)) := by rw [e8, up_row (by decide), e6]; funext j; rw [up_at]; rfl
    have s22 : M8 22 = uf (M 22) (20 * f.toNat + v.toNat) (-6) := by rw [e8]; funext j; rw [up_at, e6, up_row (by decide)]; rfl
    refine ih (v + 1) M8 (by omega) (by omega) (by omega) (fun a a1 a2 => by rw [e8, up_row a2, e6, up_row a1, h3 a a1 a2]) (by rw [s21]; exact outF_uf h4 (by omega)) (by rw [s22]; exact outF_uf h5 (by omega)) (fun k hk => ?_)
    rw [s21, s22]
    unfold uf
    by_cases hkv : k = v.toNat
    · rw [hkv, if_pos rfl, if_pos rfl]; exact ⟨rfl, rfl⟩
    · rw [if_neg (by omega), if_neg (by omega)]; exact h6 k (by omega)
theorem k_beginPiece {d : Dt} (M : Mm) (f p : Int) (hf : 0 ≤ f ∧ f < 16) (hR : WRu d) (hr : M 12 1 = ru d 1) (cf : 0 ≤ M 16 f.toNat ∧ M 16 f.toNat ≤ 20) (ha : ∀ k : Nat, (k : Int) < M 16 f.toNat → 0 ≤ M 20 (20 * f.toNat + k) ∧ M 20 (20 * f.toNat + k) ≤ 8) : OK (fX3_beginPiece M f p) (fun M' => (∀ a, a ≠ 17 → a ≠ 21 → a ≠ 22 → M' a = M a) ∧ M' 17 = uf (M 17) f.toNat p ∧ outF f.toNat (M 21) (M' 21) ∧ outF f.toNat (M 22) (M' 22) ∧ ∀ k : Nat, (k : Int) < M 16 f.toNat → M' 21 (20 * f.toNat + k) = ru d 1 * M 20 (20 * f.toNat + k) ∧ M' 22 (20 * f.toNat + k) = -6) := by
  unfold fX3_beginPiece
  refine ok_gd hf (ok_bnd (fun M1 e1 => ?_))
  have r1 : ∀ a, a ≠ 17 → M1 a = M a := fun a h => by rw [e1, up_row h]
  have e12 : M1 12 1 = ru d 1 := by rw [r1 12 (by decide)]; exact hr
  refine ok_mono (k_beginL (d := d) M1 f p hf hR e12 (by rw [r1 16 (by decide)]; exact cf) (by rw [r1 16 (by decide), r1 20 (by decide)]; exact ha) 1000 0 M1 (by omega) (by rw [r1 16 (by decide)]; omega) (by omega) (fun _ _ _ => rfl) outF_rf outF_rf (fun k hk => by omega)) (fun M' h => ?_)
  rw [r1 21 (by decide), r1 22 (by decide), r1 16 (by decide), r1 20 (by decide)] at h
  refine ⟨fun a a1 a2 a3 => by rw [h.1 a a2 a3, r1 a a1], ?_, h.2⟩
  rw [h.1 17 (by decide) (by decide), e1]; funext j; rw [up_at]; rfl
/-- rows 21 and 22 changed at the new fix alone: the join is the same -/
theorem JP_keep {d : Dt} {M M' : Mm} {f g B : Int} (h : JP d M f g B) (h1 : ∀ a, a ≠ 21 → a ≠ 22 → M' a = M a) (h2 : outF f.toNat (M 21) (M' 21)) : JP d M' f g B ∧ ∀ k : Nat, jrM d M' f g k = jrM d M f g k := by
  obtain ⟨hC, hr3, hf, hg, hfg, cf, cg, hgs, hfs, hxf, hxg, hB⟩ := h
  have e10 := h1 10 (by decide) (by decide)
  have e14 := h1 14 (by decide) (by decide)
  have e15 := h1 15 (by decide) (by decide)
  have e16 := h1 16 (by decide) (by decide)
  have e19 := h1 19 (by decide) (by decide)
  have e20 := h1 20 (by decide) (by decide)
  have g21 : ∀ i : Nat, (i : Int) < M 16 g.toNat → M' 21 (20 * g.toNat + i) = M 21 (20 * g.toNat + i) := fun i hi => h2 _ (by omega)
  constructor
  · unfold JP
    rw [h1 3 (by decide) (by decide), h1 4 (by decide) (by decide), h1 5 (by decide) (by decide), h1 6 (by decide) (by decide), h1 7 (by decide) (by decide), h1 8 (by decide) (by decide), h1 9 (by decide) (by decide), e10, h1 12 (by decide) (by decide), e14, e15, e16, e19, e20]
    exact ⟨hC, hr3, hf, hg, hfg, cf, cg, fun i hi => ⟨(hgs i hi).1, by rw [g21 i hi]; exact (hgs i hi).2⟩, hfs, hxf, hxg, hB⟩
  · intro k
    unfold jrM stM
    rw [e10, e14, e15, e16, e19]
    exact jcs_congr _ (fun i hi => ⟨g21 i (by omega), Or.inr rfl⟩)
theorem k_goesOnL {d : Dt} (hN : WN d) (hR : WRu d) (M0 : Mm) (f g : Int) (B : Int) (hJ : JP d M0 f g B) :
    ∀ (n : Nat) (a v : Int) (M : Mm), 0 ≤ v → v ≤ M0 16 f.toNat → 20 < (n : Int) + v → (∀ a, a ≠ 21 → a ≠ 22 → M a = M0 a) → outF f.toNat (M0 21) (M 21) → outF f.toNat (M0 22) (M 22) → (∀ k : Nat, (k : Int) < v → M 21 (20 * f.toNat + k) = jco d (jrM d M0 f g k) (M0 20 (20 * f.toNat + k)) ∧ M 22 (20 * f.toNat + k) = (jrM d M0 f g k).2) → yes a (∃ k : Nat, (k : Int) < v ∧ (jrM d M0 f g k).1 ≠ -6) → OK (fX3_goesOn_L5 f g n a v M) (fun x => (∀ a, a ≠ 21 → a ≠ 22 → x.2 a = M0 a) ∧ outF f.toNat (M0 21) (x.2 21) ∧ outF f.toNat (M0 22) (x.2 22) ∧ (∀ k : Nat, (k : Int) < M0 16 f.toNat → x.2 21 (20 * f.toNat + k) = jco d (jrM d M0 f g k) (M0 20 (20 * f.toNat + k)) ∧ x.2 22 (20 * f.toNat + k) = (jrM d M0 f g k).2) ∧ yes x.1 (∃ k : Nat, (k : Int) < M0 16 f.toNat ∧ (jrM d M0 f g k).1 ≠ -6)) := by
  have hst := stM_b hJ
  obtain ⟨hC, hr3, hf, hg, hfg, cf, cg, hgs, hfs, hxf, hxg, hB⟩ := id hJ
  have hG := hC.2.2.2.2
  intro n
  induction n with
  | zero => intro a v M h0 h1 h2; omega
  | succ n ih =>
    intro a v M h0 h1 h2 h3 h4 h5 h6 h7
    have e16 := h3 16 (by decide) (by decide)
    unfold fX3_goesOn_L5
    refine ok_gd hf ?_
    rw [e16]
    refine ok_if (fun h => ok_gd (yes_01 h7) (ok_some ⟨h3, h4, h5, fun k hk => h6 k (by omega), ?_⟩)) (fun h => ?_)
    · have : v = M0 16 f.toNat := by omega
      rw [this] at h7
      exact h7
    · obtain ⟨hJ2, hj⟩ := JP_keep hJ h3 h4
      refine ok_jn (ok_jn (ok_cal (k_joinCandidate hN hR M f g v B hJ2 (by rw [e16]; omega)) (fun M2 hm => ?_)))
      obtain ⟨m1, m2, m3⟩ := hm
      rw [hj, h3 20 (by decide) (by decide)] at m2
      rw [hj] at m3
      have hs := hfs v.toNat (by omega)
      have hpb := jcs_b hN hR hG (sp := M0 19) (co := M0 21) (g := g.toNat) (s := M0 19 (20 * f.toNat + v.toNat)) (st := stM M0 f g) (B := B) hs.1 hst (M0 16 g.toNat).toNat (fun i hi => hgs i (by omega))
      have hjb := jco_b hR (p := jrM d M0 f g v.toNat) (a := M0 20 (20 * f.toNat + v.toNat)) (B := B + 1134) hs.2 (by
        unfold jrM
        rcases hpb with e | e
        · rw [e]; exact Or.inl rfl
        · exact Or.inr e.1)
      have v21 : M2 21 (20 * f.toNat + v.toNat) = jco d (jrM d M0 f g v.toNat) (M0 20 (20 * f.toNat + v.toNat)) := by rw [m2]; exact if_pos rfl
      have nxt : ∀ w, yes w (∃ k : Nat, (k : Int) < v + 1 ∧ (jrM d M0 f g k).1 ≠ -6) → OK (gd (inR (v + 1)) (fX3_goesOn_L5 f g n w (v + 1) M2)) (fun x => (∀ a, a ≠ 21 → a ≠ 22 → x.2 a = M0 a) ∧ outF f.toNat (M0 21) (x.2 21) ∧ outF f.toNat (M0 22) (x.2 22) ∧ (∀ k : Nat, (k : Int) < M0 16 f.toNat → x.2 21 (20 * f.toNat + k) = jco d (jrM d M0 f g k) (M0 20 (20 * f.toNat + k)) ∧ x.2 22 (20 * f.toNat + k) = (jrM d M0 f g k).2) ∧ yes x.1 (∃ k : Nat, (k : Int) < M0 16 f.toNat ∧ (jrM d M0 f g k).1 ≠ -6)) := by
        intro w hw
        refine ok_gd (by omega) (ih w (v + 1) M2 (by omega) (by omega) (by omega) (fun a a1 a2 => by rw [m1 a a1 a2, h3 a a1 a2]) (by rw [m2]; exact outF_uf h4 (by omega)) (by rw [m3]; exact outF_uf h5 (by omega)) (fun k hk => ?_) hw)
        rw [m2, m3]
        unfold uf
        by_cases hkv : k = v.toNat
        · rw [hkv, if_pos rfl, if_pos rfl]; exact ⟨rfl, rfl⟩
        · rw [if_neg (by omega), if_neg (by omega)]; exact h6 k (by omega)
      have one : (∃ k : Nat, (k : Int) < v + 1 ∧ (jrM d M0 f g k).1 ≠ -6) → yes 1 (∃ k : Nat, (k : Int) < v + 1 ∧ (jrM d M0 f g k).1 ≠ -6) := fun h => Or.inl ⟨rfl, h⟩
      refine ok_if (fun q1 => ?_) (fun q1 => nxt 1 (one (by obtain ⟨k, k1, k2⟩ := yes_t h7 q1; exact ⟨k, by omega, k2⟩)))
      refine ok_cal (k_slot M2 hf (k := v) (by omega)) (fun r14 h14 => ok_gd h14.2 ?_)
      have i14 : r14.toNat = 20 * f.toNat + v.toNat := by omega
      rw [i14, v21]
      refine ok_if (fun q2 => nxt 0 (Or.inr ⟨rfl, ?_⟩)) (fun q2 => nxt 1 (one ⟨v.toNat, by omega, ?_⟩))
      · rintro ⟨k, k1, k2⟩
        by_cases hkv : k = v.toNat
        · rw [hkv] at k2; omega
        · exact yes_f h7 q1 ⟨k, by omega, k2⟩
      · omega
theorem k_goesOn {d : Dt} (hN : WN d) (hR : WRu d) (M : Mm) (f g : Int) (B : Int) (hJ : JP d M f g B) : OK (fX3_goesOn M f g) (fun x => (∀ a, a ≠ 21 → a ≠ 22 → x.2 a = M a) ∧ outF f.toNat (M 21) (x.2 21) ∧ outF f.toNat (M 22) (x.2 22) ∧ (∀ k : Nat, (k : Int) < M 16 f.toNat → x.2 21 (20 * f.toNat + k) = jco d (jrM d M f g k) (M 20 (20 * f.toNat + k)) ∧ x.2 22 (20 * f.toNat + k) = (jrM d M f g k).2) ∧ yes x.1 (∃ k : Nat, (k : Int) < M 16 f.toNat ∧ (jrM d M f g k).1 ≠ -6)) := by
  have hJ' := hJ
  obtain ⟨hC, hr3, hf, hg, hfg, cf, cg, hgs, hfs, hxf, hxg, hB⟩ := hJ'
  unfold fX3_goesOn
  exact k_goesOnL hN hR M f g B hJ 1000 0 0 M (by omega) (by omega) (by omega) (fun _ _ _ => rfl) outF_rf outF_rf (fun k hk => by omega) (Or.inr ⟨rfl, fun ⟨k, k1, _⟩ => by omega⟩)
