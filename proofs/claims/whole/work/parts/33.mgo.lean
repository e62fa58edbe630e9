/-! the reference: from one fix to the next -/
def MP (G : Nat → Nat → Int) (M : Mm) (f g : Int) (B : Int) : Prop := WN (mB M) ∧ WRu (mB M) ∧ DM (nC (mB M)) (eg (mB M)) G ∧ farOf (nC (mB M)) G (M 80) ∧ (0 ≤ f ∧ f < 16) ∧ (0 ≤ g ∧ g < 16) ∧ f ≠ g ∧ (0 ≤ M 85 f.toNat ∧ M 85 f.toNat ≤ 20) ∧ (0 ≤ M 85 g.toNat ∧ M 85 g.toNat ≤ 20) ∧ (∀ i : Nat, (i : Int) < M 85 g.toNat → Sp (mB M) (M 81 (20 * g.toNat + i)) ∧ okC B (M 83 (20 * g.toNat + i))) ∧ (∀ k : Nat, (k : Int) < M 85 f.toNat → Sp (mB M) (M 81 (20 * f.toNat + k)) ∧ 0 ≤ M 82 (20 * f.toNat + k) ∧ M 82 (20 * f.toNat + k) ≤ 8) ∧ ((0 ≤ M 78 f.toNat ∧ M 78 f.toNat ≤ 63) ∧ (0 ≤ M 79 f.toNat ∧ M 79 f.toNat ≤ 63)) ∧ ((0 ≤ M 78 g.toNat ∧ M 78 g.toNat ≤ 63) ∧ (0 ≤ M 79 g.toNat ∧ M 79 g.toNat ≤ 63)) ∧ (0 ≤ B ∧ B ≤ 20000)
def stD (M : Mm) (f g : Int) : Int := iabs (M 78 f.toNat - M 78 g.toNat) + iabs (M 79 f.toNat - M 79 g.toNat)
def jrD (G : Nat → Nat → Int) (M : Mm) (f g : Int) (k : Nat) : Int × Int := jcs (mB M) G (M 81) (M 83) g.toNat (M 81 (20 * f.toNat + k)) (stD M f g) (M 85 g.toNat).toNat
theorem stD_b {G : Nat → Nat → Int} {M : Mm} {f g B : Int} (h : MP G M f g B) : 0 ≤ stD M f g ∧ stD M f g ≤ 126 := by
  obtain ⟨-, -, -, -, -, -, -, -, -, -, -, h1, h2, -⟩ := h
  unfold stD iabs
  split <;> split <;> omega
theorem mB_83 {M M' : Mm} (h : ∀ a, a ≠ 83 → a ≠ 84 → M' a = M a) : mB M' = mB M := by
  unfold mB
  rw [h 71 (by decide) (by decide), h 72 (by decide) (by decide), h 73 (by decide) (by decide), h 74 (by decide) (by decide), h 75 (by decide) (by decide), h 76 (by decide) (by decide), h 77 (by decide) (by decide), h 78 (by decide) (by decide), h 79 (by decide) (by decide)]
theorem MP_keep {G : Nat → Nat → Int} {M M' : Mm} {f g B : Int} (h : MP G M f g B) (h1 : ∀ a, a ≠ 83 → a ≠ 84 → M' a = M a) (h2 : outF f.toNat (M 83) (M' 83)) : MP G M' f g B ∧ ∀ k : Nat, jrD G M' f g k = jrD G M f g k := by
  have eb := mB_83 h1
  obtain ⟨hN, hR, hG, hF, hf, hg, hfg, cf, cg, hgs, hfs, hxf, hxg, hB⟩ := h
  have e85 := h1 85 (by decide) (by decide)
  have e81 := h1 81 (by decide) (by decide)
  have e82 := h1 82 (by decide) (by decide)
  have e78 := h1 78 (by decide) (by decide)
  have e79 := h1 79 (by decide) (by decide)
  have e80 := h1 80 (by decide) (by decide)
  have g83 : ∀ i : Nat, (i : Int) < M 85 g.toNat → M' 83 (20 * g.toNat + i) = M 83 (20 * g.toNat + i) := fun i hi => h2 _ (by omega)
  constructor
  · unfold MP
    rw [eb, e85, e81, e82, e78, e79, e80]
    exact ⟨hN, hR, hG, hF, hf, hg, hfg, cf, cg, fun i hi => ⟨(hgs i hi).1, by rw [g83 i hi]; exact (hgs i hi).2⟩, hfs, hxf, hxg, hB⟩
  · intro k
    unfold jrD stD
    rw [eb, e78, e79, e81, e85]
    exact jcs_congr _ (fun i hi => ⟨g83 i (by omega), Or.inr rfl⟩)
theorem k_goOn77 {G : Nat → Nat → Int} (M0 : Mm) (f g : Int) (B : Int) (hM : MP G M0 f g B) (kk : Int) (hk : 0 ≤ kk ∧ kk < M0 85 f.toNat) (av : Int) (k : Int → Int → Int → Mm → Option (Int × Mm)) (P : Int × Mm → Prop)
    (hP : ∀ M', (∀ a, a ≠ 83 → a ≠ 84 → M' a = M0 a) → M' 83 = uf (M0 83) (20 * f.toNat + kk.toNat) (jco (mB M0) (jrD G M0 f g kk.toNat) (M0 82 (20 * f.toNat + kk.toNat))) → M' 84 = uf (M0 84) (20 * f.toNat + kk.toNat) (jrD G M0 f g kk.toNat).2 → OK (k (stD M0 f g) av (20 * f + kk) M') P) :
    ∀ (n : Nat) (v : Int) (M : Mm), 0 ≤ v → v ≤ M0 85 g.toNat → 20 < (n : Int) + v → (∀ a, a ≠ 83 → a ≠ 84 → M a = M0 a) → M 83 = uf (M0 83) (20 * f.toNat + kk.toNat) (jco (mB M0) (jcs (mB M0) G (M0 81) (M0 83) g.toNat (M0 81 (20 * f.toNat + kk.toNat)) (stD M0 f g) v.toNat) (M0 82 (20 * f.toNat + kk.toNat))) → M 84 = uf (M0 84) (20 * f.toNat + kk.toNat) (jcs (mB M0) G (M0 81) (M0 83) g.toNat (M0 81 (20 * f.toNat + kk.toNat)) (stD M0 f g) v.toNat).2 → OK (fX5_goOn_L77 f g k n (stD M0 f g) av (20 * f + kk) (20 * g + v) M) P := by
  have hst := stD_b hM
  obtain ⟨hN, hR, hG, hF, hf, hg, hfg, cf, cg, hgs, hfs, hxf, hxg, hB⟩ := id hM
  have hs := hfs kk.toNat (by omega)
  intro n
  induction n with
  | zero => intro v M h0 h1 h2; omega
  | succ n ih =>
    intro v M h0 h1 h2 h3 h4 h5
    have e85 := h3 85 (by decide) (by decide)
    have e81 := h3 81 (by decide) (by decide)
    have e82 := h3 82 (by decide) (by decide)
    have e77 := h3 77 (by decide) (by decide)
    have eb := mB_83 h3
    unfold fX5_goOn_L77
    rw [e85]
    refine ok_gd (by omega) ?_
    refine ok_if (fun h => ?_) (fun h => ?_)
    · have e : v = M0 85 g.toNat := by omega
      rw [e] at h4 h5
      exact hP M h3 h4 h5
    · have e5 : (v + 1).toNat = v.toNat + 1 := by omega
      have hv := hgs v.toNat (by omega)
      have ihv := fun M' => ih (v + 1) M' (by omega) (by omega) (by omega)
      rw [e5] at ihv
      have hpb := jcs_b hN hR hG (sp := M0 81) (co := M0 83) (g := g.toNat) (s := M0 81 (20 * f.toNat + kk.toNat)) (st := stD M0 f g) (B := B) hs.1 hst v.toNat (fun i hi => hgs i (by omega))
      have hu : jcs (mB M0) G (M0 81) (M0 83) g.toNat (M0 81 (20 * f.toNat + kk.toNat)) (stD M0 f g) (v.toNat + 1) = sj (mB M0) (jcs (mB M0) G (M0 81) (M0 83) g.toNat (M0 81 (20 * f.toNat + kk.toNat)) (stD M0 f g) v.toNat) (M0 83 (20 * g.toNat + v.toNat)) (wy (mB M0) G (M0 81 (20 * g.toNat + v.toNat)) (M0 81 (20 * f.toNat + kk.toNat))) (stD M0 f g) v.toNat := rfl
      have hw := wy_b hN hG hv.1 hs.1
      have kw := k_wayOf (M := M) (G := G) (by rw [eb]; exact hN) (by rw [eb]; exact hG) (by rw [eb, h3 80 (by decide) (by decide)]; exact hF) (s := M0 81 (20 * g.toNat + v.toNat)) (t := M0 81 (20 * f.toNat + kk.toNat)) (by rw [eb]; exact hv.1) (by rw [eb]; exact hs.1)
      rw [eb] at kw
      have iv : (20 * g + v).toNat = 20 * g.toNat + v.toNat := by omega
      have ik : (20 * f + kk).toNat = 20 * f.toNat + kk.toNat := by omega
      have c83 : M 83 (20 * g.toNat + v.toNat) = M0 83 (20 * g.toNat + v.toNat) := by rw [h4]; exact if_neg (by omega)
      have k83 : M 83 (20 * f.toNat + kk.toNat) = jco (mB M0) (jcs (mB M0) G (M0 81) (M0 83) g.toNat (M0 81 (20 * f.toNat + kk.toNat)) (stD M0 f g) v.toNat) (M0 82 (20 * f.toNat + kk.toNat)) := by rw [h4]; exact if_pos rfl
      rw [hu] at ihv
      have hjb := jco_b hR (p := jcs (mB M0) G (M0 81) (M0 83) g.toNat (M0 81 (20 * f.toNat + kk.toNat)) (stD M0 f g) v.toNat) (a := M0 82 (20 * f.toNat + kk.toNat)) (B := B + 1134) hs.2 (by
        rcases hpb with e | e
        · rw [e]; exact Or.inl rfl
        · exact Or.inr e.1)
      generalize hp : jcs (mB M0) G (M0 81) (M0 83) g.toNat (M0 81 (20 * f.toNat + kk.toNat)) (stD M0 f g) v.toNat = p at *
      generalize hwv : wy (mB M0) G (M0 81 (20 * g.toNat + v.toNat)) (M0 81 (20 * f.toNat + kk.toNat)) = l at *
      generalize hst2 : stD M0 f g = st at *
      generalize hav : M0 82 (20 * f.toNat + kk.toNat) = av2 at *
      have ev : ((v.toNat : Nat) : Int) = v := by omega
      have pa : 20 * g + v + 1 = 20 * g + (v + 1) := by omega
      -- nothing changes
      have nxt : sj (mB M0) p (M0 83 (20 * g.toNat + v.toNat)) l st v.toNat = p → OK (gd (inR (20 * g + v + 1)) (fX5_goOn_L77 f g k n st av (20 * f + kk) (20 * g + v + 1) M)) P := by
        intro hs2
        rw [pa]
        refine ok_gd (by omega) (ihv M h3 ?_ ?_)
        · rw [hs2]; exact h4
        · rw [hs2]; exact h5
      have r3 : M 77 (3 : Int).toNat = ru (mB M0) 3 := by rw [e77]; rfl
      have r2 : M 77 (2 : Int).toNat = ru (mB M0) 2 := by rw [e77]; rfl
      have r1 : M 77 (1 : Int).toNat = ru (mB M0) 1 := by rw [e77]; rfl
      obtain ⟨-, -, w2, w3⟩ := id hR
      refine ok_jnK (fun K => ∀ w, (M0 83 (20 * g.toNat + v.toNat) = -6 ∧ w = -6) ∨ (M0 83 (20 * g.toNat + v.toNat) ≠ -6 ∧ w = l) → OK (K st av (20 * f + kk) (20 * g + v) w M) P) (fun w hw2 => ?_) (fun K hK => ?_)
      · refine ok_jn ?_
        rw [r3, r2, r1, iv, ik, c83, e82, hav, k83]
        refine ok_if (fun q1 => nxt ?_) (fun q1 => ok_gd (by omega) ?_)
        · unfold sj
          rw [if_pos]
          rcases hw2 with hw2 | hw2
          · exact Or.inl hw2.1
          · exact Or.inr (Or.inl (by omega))
        · have q2 : M0 83 (20 * g.toNat + v.toNat) ≠ -6 ∧ w = l := by
            rcases hw2 with hw2 | hw2
            · omega
            · exact hw2
          obtain ⟨q2, rfl⟩ := q2
          refine ok_if (fun q3 => nxt ?_) (fun q3 => ok_jn ?_)
          · unfold sj; rw [if_pos (Or.inr (Or.inr (by omega)))]
          · have hc2 : 0 ≤ M0 83 (20 * g.toNat + v.toNat) ∧ M0 83 (20 * g.toNat + v.toNat) ≤ B := by have := hv.2; unfold okC at this; omega
            have b := step_b hR hst (c := M0 83 (20 * g.toNat + v.toNat)) (l := w) (B := B) hc2 (by omega) (by omega)
            have mb := mul_b hR.2.1 hs.2
            have hsj : sj (mB M0) p (M0 83 (20 * g.toNat + v.toNat)) w st v.toNat = if p.1 = -6 ∨ M0 83 (20 * g.toNat + v.toNat) + ru (mB M0) 2 * iabs (w - st) < p.1 then (M0 83 (20 * g.toNat + v.toNat) + ru (mB M0) 2 * iabs (w - st), ((v.toNat : Nat) : Int)) else p := by
              unfold sj; rw [if_neg (by omega)]
            refine ok_gd (by omega) (ok_cal (k_off M w st (by omega) (by omega)) (fun r56 h56 => ?_))
            rw [h56]
            refine ok_gd (by omega) (ok_bnd (fun t ht => ok_gd (by omega) ?_))
            have put : (p.1 = -6 ∨ M0 83 (20 * g.toNat + v.toNat) + ru (mB M0) 2 * iabs (w - st) < p.1) → OK (gd ((0 ≤ (20 * f + kk) ∧ (20 * f + kk) < 320)) (bnd (up M 83 (20 * f + kk).toNat t) (fun (M50 : Mm) => gd ((inR ((20 : Int) * g)) ∧ (inR ((20 * g + v) - ((20 : Int) * g))) ∧ (0 ≤ (20 * f + kk) ∧ (20 * f + kk) < 320)) (bnd (up M50 84 (20 * f + kk).toNat ((20 * g + v) - ((20 : Int) * g))) (fun (M51 : Mm) => gd (inR (20 * g + v + 1)) (fX5_goOn_L77 f g k n st av (20 * f + kk) (20 * g + v + 1) M51)))))) P := by
              intro hc
              refine ok_gd (by omega) (ok_bnd (fun M50 e50 => ok_gd (by omega) (ok_bnd (fun M51 e51 => ?_))))
              rw [ik] at e50 e51
              rw [pa]
              refine ok_gd (by omega) (ihv M51 (fun a a1 a2 => by rw [e51, up_row a2, e50, up_row a1, h3 a a1 a2]) ?_ ?_)
              · rw [hsj, if_pos hc, e51, up_row (by decide), e50]
                funext j
                rw [up_at, h4]
                unfold uf
                by_cases hj : j = 20 * f.toNat + kk.toNat
                · rw [if_pos hj, if_pos hj, ht]
                  unfold jco
                  rw [if_neg (by show ¬ _ = _; omega)]
                · rw [if_neg hj, if_neg hj, if_neg hj]
              · rw [hsj, if_pos hc, e51]
                funext j
                rw [up_at, e50, up_row (by decide), h5]
                unfold uf
                by_cases hj : j = 20 * f.toNat + kk.toNat
                · rw [if_pos hj, if_pos hj]
                  show 20 * g + v - 20 * g = ((v.toNat : Nat) : Int)
                  omega
                · rw [if_neg hj, if_neg hj, if_neg hj]
            refine ok_if (fun q4 => put (Or.inl (by omega))) (fun q4 => ok_gd (by omega) (ok_if (fun q5 => nxt ?_) (fun q5 => put (Or.inr (by omega)))))
            rw [hsj, if_neg (by omega)]
      · rw [iv, ik, e81, c83]
        refine ok_gd (by omega) (ok_if (fun q1 => ok_gd (by omega) (ok_cal kw (fun r67 h67 => hK r67 (Or.inr ⟨by omega, h67⟩)))) (fun q1 => hK (-6) (Or.inl ⟨?_, rfl⟩)))
        have := hv.2
        unfold okC at this
        omega
theorem k_goOn37 {G : Nat → Nat → Int} (M0 : Mm) (f g : Int) (B : Int) (hM : MP G M0 f g B) :
    ∀ (n : Nat) (a v : Int) (M : Mm), 0 ≤ v → v ≤ M0 85 f.toNat → 20 < (n : Int) + v → (∀ a, a ≠ 83 → a ≠ 84 → M a = M0 a) → outF f.toNat (M0 83) (M 83) → outF f.toNat (M0 84) (M 84) → (∀ k : Nat, (k : Int) < v → M 83 (20 * f.toNat + k) = jco (mB M0) (jrD G M0 f g k) (M0 82 (20 * f.toNat + k)) ∧ M 84 (20 * f.toNat + k) = (jrD G M0 f g k).2) → yes a (∃ k : Nat, (k : Int) < v ∧ (jrD G M0 f g k).1 ≠ -6) → OK (fX5_goOn_L37 f g n (stD M0 f g) a (20 * f + v) M) (fun x => (∀ a, a ≠ 83 → a ≠ 84 → x.2 a = M0 a) ∧ outF f.toNat (M0 83) (x.2 83) ∧ outF f.toNat (M0 84) (x.2 84) ∧ (∀ k : Nat, (k : Int) < M0 85 f.toNat → x.2 83 (20 * f.toNat + k) = jco (mB M0) (jrD G M0 f g k) (M0 82 (20 * f.toNat + k)) ∧ x.2 84 (20 * f.toNat + k) = (jrD G M0 f g k).2) ∧ yes x.1 (∃ k : Nat, (k : Int) < M0 85 f.toNat ∧ (jrD G M0 f g k).1 ≠ -6)) := by
  have hst := stD_b hM
  obtain ⟨hN, hR, hG, hF, hf, hg, hfg, cf, cg, hgs, hfs, hxf, hxg, hB⟩ := id hM
  intro n
  induction n with
  | zero => intro a v M h0 h1 h2; omega
  | succ n ih =>
    intro a v M h0 h1 h2 h3 h4 h5 h6 h7
    have e85 := h3 85 (by decide) (by decide)
    unfold fX5_goOn_L37
    rw [e85]
    refine ok_gd (by omega) ?_
    refine ok_if (fun h => ok_gd (yes_01 h7) (ok_some ⟨h3, h4, h5, fun k hk => h6 k (by omega), ?_⟩)) (fun h => ?_)
    · have : v = M0 85 f.toNat := by omega
      rw [this] at h7
      exact h7
    · have ik : (20 * f + v).toNat = 20 * f.toNat + v.toNat := by omega
      rw [ik]
      refine ok_gd (by omega) (ok_bnd (fun M7 e7 => ok_gd (by omega) (ok_bnd (fun M8 e8 => ok_gd (by omega) ?_))))
      have s83 : M8 83 = uf (M 83) (20 * f.toNat + v.toNat) (-6) := by rw [e8, up_row (by decide), e7]; funext j; rw [up_at]; rfl
      have s84 : M8 84 = uf (M 84) (20 * f.toNat + v.toNat) (-6) := by rw [e8]; funext j; rw [up_at, e7, up_row (by decide)]; rfl
      have h38 : ∀ a, a ≠ 83 → a ≠ 84 → M8 a = M0 a := fun a a1 a2 => by rw [e8, up_row a2, e7, up_row a1, h3 a a1 a2]
      have o83 : outF f.toNat (M0 83) (M8 83) := by rw [s83]; exact outF_uf h4 (by omega)
      have o84 : outF f.toNat (M0 84) (M8 84) := by rw [s84]; exact outF_uf h5 (by omega)
      obtain ⟨hM8, hj8⟩ := MP_keep hM h38 o83
      have est : stD M8 f g = stD M0 f g := by unfold stD; rw [h38 78 (by decide) (by decide), h38 79 (by decide) (by decide)]
      have eb8 := mB_83 h38
      have e82 := h38 82 (by decide) (by decide)
      have hs := hfs v.toNat (by omega)
      have hpb := jcs_b hN hR hG (sp := M0 81) (co := M0 83) (g := g.toNat) (s := M0 81 (20 * f.toNat + v.toNat)) (st := stD M0 f g) (B := B) hs.1 hst (M0 85 g.toNat).toNat (fun i hi => hgs i (by omega))
      have hjb := jco_b hR (p := jrD G M0 f g v.toNat) (a := M0 82 (20 * f.toNat + v.toNat)) (B := B + 1134) hs.2 (by
        unfold jrD
        rcases hpb with e | e
        · rw [e]; exact Or.inl rfl
        · exact Or.inr e.1)
      have key := k_goOn77 (G := G) M8 f g B hM8 v (by rw [h38 85 (by decide) (by decide)]; omega) a
      rw [est] at key
      have z : (20 : Int) * g = 20 * g + 0 := by omega
      rw [z]
      refine key _ _ (fun M2 m1 m2 m3 => ?_) 1000 0 M8 (by omega) (by rw [h38 85 (by decide) (by decide)]; omega) (by omega) (fun _ _ _ => rfl) ?_ ?_
      · rw [hj8, eb8, e82] at m2
        rw [hj8] at m3
        have v83 : M2 83 (20 * f.toNat + v.toNat) = jco (mB M0) (jrD G M0 f g v.toNat) (M0 82 (20 * f.toNat + v.toNat)) := by rw [m2]; exact if_pos rfl
        have pa : 20 * f + v + 1 = 20 * f + (v + 1) := by omega
        have nxt : ∀ w, yes w (∃ k : Nat, (k : Int) < v + 1 ∧ (jrD G M0 f g k).1 ≠ -6) → OK (gd (inR (20 * f + v + 1)) (fX5_goOn_L37 f g n (stD M0 f g) w (20 * f + v + 1) M2)) (fun x => (∀ a, a ≠ 83 → a ≠ 84 → x.2 a = M0 a) ∧ outF f.toNat (M0 83) (x.2 83) ∧ outF f.toNat (M0 84) (x.2 84) ∧ (∀ k : Nat, (k : Int) < M0 85 f.toNat → x.2 83 (20 * f.toNat + k) = jco (mB M0) (jrD G M0 f g k) (M0 82 (20 * f.toNat + k)) ∧ x.2 84 (20 * f.toNat + k) = (jrD G M0 f g k).2) ∧ yes x.1 (∃ k : Nat, (k : Int) < M0 85 f.toNat ∧ (jrD G M0 f g k).1 ≠ -6)) := by
          intro w hw
          rw [pa]
          refine ok_gd (by omega) (ih w (v + 1) M2 (by omega) (by omega) (by omega) (fun a a1 a2 => by rw [m1 a a1 a2, h38 a a1 a2]) (by rw [m2]; exact outF_uf o83 (by omega)) (by rw [m3]; exact outF_uf o84 (by omega)) (fun k hk => ?_) hw)
          rw [m2, m3, s83, s84]
          unfold uf
          by_cases hkv : k = v.toNat
          · rw [hkv, if_pos rfl, if_pos rfl]; exact ⟨rfl, rfl⟩
          · rw [if_neg (by omega), if_neg (by omega), if_neg (by omega), if_neg (by omega)]; exact h6 k (by omega)
        have one : (∃ k : Nat, (k : Int) < v + 1 ∧ (jrD G M0 f g k).1 ≠ -6) → yes 1 (∃ k : Nat, (k : Int) < v + 1 ∧ (jrD G M0 f g k).1 ≠ -6) := fun h => Or.inl ⟨rfl, h⟩
        refine ok_jn (ok_jn ?_)
        refine ok_if (fun q1 => ?_) (fun q1 => nxt 1 (one (by obtain ⟨k, k1, k2⟩ := yes_t h7 q1; exact ⟨k, by omega, k2⟩)))
        rw [ik, v83]
        refine ok_gd (by omega) (ok_if (fun q2 => nxt 0 (Or.inr ⟨rfl, ?_⟩)) (fun q2 => nxt 1 (one ⟨v.toNat, by omega, ?_⟩)))
        · rintro ⟨k, k1, k2⟩
          by_cases hkv : k = v.toNat
          · rw [hkv] at k2; omega
          · exact yes_f h7 q1 ⟨k, by omega, k2⟩
        · omega
      · funext j
        unfold uf
        by_cases hj : j = 20 * f.toNat + v.toNat
        · rw [if_pos hj, hj, s83]; exact if_pos rfl
        · rw [if_neg hj]
      · funext j
        unfold uf
        by_cases hj : j = 20 * f.toNat + v.toNat
        · rw [if_pos hj, hj, s84]; exact if_pos rfl
        · rw [if_neg hj]
theorem k_goOn {G : Nat → Nat → Int} (M : Mm) (f g : Int) (B : Int) (hM : MP G M f g B) : OK (fX5_goOn M f g) (fun x => (∀ a, a ≠ 83 → a ≠ 84 → x.2 a = M a) ∧ outF f.toNat (M 83) (x.2 83) ∧ outF f.toNat (M 84) (x.2 84) ∧ (∀ k : Nat, (k : Int) < M 85 f.toNat → x.2 83 (20 * f.toNat + k) = jco (mB M) (jrD G M f g k) (M 82 (20 * f.toNat + k)) ∧ x.2 84 (20 * f.toNat + k) = (jrD G M f g k).2) ∧ yes x.1 (∃ k : Nat, (k : Int) < M 85 f.toNat ∧ (jrD G M f g k).1 ≠ -6)) := by
  obtain ⟨hN, hR, hG, hF, hf, hg, hfg, cf, cg, hgs, hfs, hxf, hxg, hB⟩ := id hM
  unfold fX5_goOn
  refine ok_gd (by omega) (ok_cal (k_apart M _ _ _ _ (by omega)) (fun r hr => ok_gd (by omega) ?_))
  have e : r = stD M f g := hr
  rw [e]
  have z : (20 : Int) * f = 20 * f + 0 := by omega
  rw [z]
  exact k_goOn37 M f g B hM 1000 0 0 M (by omega) (by omega) (by omega) (fun _ _ _ => rfl) outF_rf outF_rf (fun k hk => by omega) (Or.inr ⟨rfl, fun ⟨k, k1, _⟩ => by omega⟩)
theorem k_mbeginL (M0 : Mm) (hR : WRu (mB M0)) (f : Int) (hf : 0 ≤ f ∧ f < 16) (cf : 0 ≤ M0 85 f.toNat ∧ M0 85 f.toNat ≤ 20) (ha : ∀ k : Nat, (k : Int) < M0 85 f.toNat → 0 ≤ M0 82 (20 * f.toNat + k) ∧ M0 82 (20 * f.toNat + k) ≤ 8) (k : Mm → Option Mm) (P : Mm → Prop)
    (hk : ∀ M', (∀ a, a ≠ 83 → a ≠ 84 → M' a = M0 a) → outF f.toNat (M0 83) (M' 83) → outF f.toNat (M0 84) (M' 84) → (∀ k : Nat, (k : Int) < M0 85 f.toNat → M' 83 (20 * f.toNat + k) = ru (mB M0) 1 * M0 82 (20 * f.toNat + k) ∧ M' 84 (20 * f.toNat + k) = -6) → OK (k M') P) :
    ∀ (n : Nat) (v : Int) (M : Mm), 0 ≤ v → v ≤ M0 85 f.toNat → 20 < (n : Int) + v → (∀ a, a ≠ 83 → a ≠ 84 → M a = M0 a) → outF f.toNat (M0 83) (M 83) → outF f.toNat (M0 84) (M 84) → (∀ k : Nat, (k : Int) < v → M 83 (20 * f.toNat + k) = ru (mB M0) 1 * M0 82 (20 * f.toNat + k) ∧ M 84 (20 * f.toNat + k) = -6) → OK (fX5_begin_L5 f k n (20 * f + v) M) P := by
  intro n
  induction n with
  | zero => intro v M h0 h1 h2; omega
  | succ n ih =>
    intro v M h0 h1 h2 h3 h4 h5 h6
    have e85 := h3 85 (by decide) (by decide)
    have e77 : M 77 (1 : Int).toNat = ru (mB M0) 1 := by rw [h3 77 (by decide) (by decide)]; rfl
    have e82 := h3 82 (by decide) (by decide)
    have ik : (20 * f + v).toNat = 20 * f.toNat + v.toNat := by omega
    unfold fX5_begin_L5
    rw [e85, e77, e82, ik]
    refine ok_gd (by omega) ?_
    refine ok_if (fun h => hk M h3 h4 h5 (fun k hk => h6 k (by omega))) (fun h => ?_)
    have hb := mul_b hR.2.1 (ha v.toNat (by omega))
    refine ok_gd (by omega) (ok_bnd (fun M6 e6 => ok_gd (by omega) (ok_bnd (fun M8 e8 => ?_))))
    have pa : 20 * f + v + 1 = 20 * f + (v + 1) := by omega
    rw [pa]
    have s21 : M8 83 = uf (M 83) (20 * f.toNat + v.toNat) (ru (mB M0) 1 * M0 82 (20 * f.toNat + v.toNat)) := by rw [e8, up_row (by decide), e6]; funext j; rw [up_at]; rfl
    have s22 : M8 84 = uf (M 84) (20 * f.toNat + v.toNat) (-6) := by rw [e8]; funext j; rw [up_at, e6, up_row (by decide)]; rfl
    refine ok_gd (by omega) (ih (v + 1) M8 (by omega) (by omega) (by omega) (fun a a1 a2 => by rw [e8, up_row a2, e6, up_row a1, h3 a a1 a2]) (by rw [s21]; exact outF_uf h4 (by omega)) (by rw [s22]; exact outF_uf h5 (by omega)) (fun k hk => ?_))
    rw [s21, s22]
    unfold uf
    by_cases hkv : k = v.toNat
    · rw [hkv, if_pos rfl, if_pos rfl]; exact ⟨rfl, rfl⟩
    · rw [if_neg (by omega), if_neg (by omega)]; exact h6 k (by omega)
theorem k_mbegin (M : Mm) (hR : WRu (mB M)) (f : Int) (hf : 0 ≤ f ∧ f < 16) (cf : 0 ≤ M 85 f.toNat ∧ M 85 f.toNat ≤ 20) (ha : ∀ k : Nat, (k : Int) < M 85 f.toNat → 0 ≤ M 82 (20 * f.toNat + k) ∧ M 82 (20 * f.toNat + k) ≤ 8) (hp : 0 ≤ M 71 20 ∧ M 71 20 ≤ 16) : OK (fX5_begin M f) (fun M' => (∀ a, a ≠ 71 → a ≠ 83 → a ≠ 84 → a ≠ 87 → M' a = M a) ∧ M' 71 = uf (M 71) 20 (M 71 20 + 1) ∧ M' 87 = uf (M 87) f.toNat (-6) ∧ outF f.toNat (M 83) (M' 83) ∧ outF f.toNat (M 84) (M' 84) ∧ ∀ k : Nat, (k : Int) < M 85 f.toNat → M' 83 (20 * f.toNat + k) = ru (mB M) 1 * M 82 (20 * f.toNat + k) ∧ M' 84 (20 * f.toNat + k) = -6) := by
  unfold fX5_begin
  have z : (20 : Int) * f = 20 * f + 0 := by omega
  rw [z]
  refine ok_gd (by omega) (k_mbeginL M hR f hf cf ha _ _ (fun M3 g1 g2 g3 g4 => ?_) 1000 0 M (by omega) (by omega) (by omega) (fun _ _ _ => rfl) outF_rf outF_rf (fun k hk => by omega))
  refine ok_gd hf (ok_bnd (fun M4 e4 => ?_))
  have e71 : M4 71 = M 71 := by rw [e4, up_row (by decide), g1 71 (by decide) (by decide)]
  rw [e71]
  refine ok_gd (by omega) (ok_bnd (fun M5 e5 => ok_some ?_))
  refine ⟨fun a a1 a2 a3 a4 => by rw [e5, up_row a1, e4, up_row a4, g1 a a2 a3], ?_, ?_, ?_, ?_, ?_⟩
  · rw [e5]; funext j; rw [up_at, e71]; rfl
  · rw [e5, up_row (by decide), e4]; funext j; rw [up_at, g1 87 (by decide) (by decide)]; rfl
  · rw [e5, up_row (by decide), e4, up_row (by decide)]; exact g2
  · rw [e5, up_row (by decide), e4, up_row (by decide)]; exact g3
  · intro k hk
    rw [e5, up_row (by decide), up_row (by decide), e4, up_row (by decide), up_row (by decide)]
    exact g4 k hk
