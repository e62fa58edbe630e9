/-! the reference: what is decided -/
section DEC
variable {n : Int} {cn pc bf sp ap co bk ch de : Nat → Int} {S : Nat → Nat → Prop}
theorem TS_mono (hT : TS n cn pc bf co bk) : ∀ (m f g : Nat), g < m → f ≤ g → (g : Int) < n → pc f ≠ -6 → pc g ≠ -6 → pc f ≤ pc g
  | 0, f, g, h1, _, _, _, _ => by omega
  | m + 1, f, g, h1, h2, h3, h4, h5 => by
    by_cases hfg : f = g
    · rw [hfg]; exact Int.le_refl _
    · obtain ⟨-, -, h6⟩ := hT g h3
      rcases h6 with h6 | ⟨-, -, -, h6⟩
      · exact absurd h6.2 h5
      · rcases h6 with ⟨h6, -⟩ | ⟨g', g1, g2, g3⟩
        · rcases lng_spec pc g with ⟨-, a⟩ | ⟨g2, -, a, -⟩
          · exact absurd (a f (by omega)) h4
          · omega
        · have h7 := lng_ne g2
          have h8 : f ≤ g' := by
            by_cases h9 : g' < f
            · exact absurd (h7.2.2 f h9 (by omega)) h4
            · omega
          have ih := TS_mono hT m f g' (by omega) h8 (by omega) h4 h7.2.1
          rcases g3 with g3 | g3
          · rw [g3.1]; exact ih
          · rw [g3.1]; omega
theorem TS_chain (hT : TS n cn pc bf co bk) {f g : Nat} (h1 : f < g) (h2 : (g : Int) < n) (h3 : pc f ≠ -6) (h4 : pc g = pc f) : ∃ g' : Nat, nx n pc g' g ∧ f ≤ g' ∧ bf g = (g' : Int) ∧ pc g' = pc f := by
  have h5 : pc g ≠ -6 := by rw [h4]; exact h3
  obtain ⟨-, -, h6⟩ := hT g h2
  rcases h6 with h6 | ⟨-, -, -, h6⟩
  · exact absurd h6.2 h5
  · rcases h6 with ⟨h6, -⟩ | ⟨g', g1, g2, g3⟩
    · rcases lng_spec pc g with ⟨-, a⟩ | ⟨g2, -, a, -⟩
      · exact absurd (a f (by omega)) h3
      · omega
    · have h7 := lng_ne g2
      have h8 : f ≤ g' := by
        by_cases h9 : g' < f
        · exact absurd (h7.2.2 f h9 (by omega)) h3
        · omega
      have hm := TS_mono hT (g' + 1) f g' (by omega) h8 (by omega) h3 h7.2.1
      rcases g3 with g3 | g3
      · exact ⟨g', ⟨g1, h2, h5, g2⟩, h8, g3.2.1, by rw [← g3.1]; exact h4⟩
      · omega
/-- the candidate of f from which the candidate a of g comes -/
def og (bf bk : Nat → Int) (f : Nat) : Nat → Nat → Nat → Nat
  | 0, _, a => a
  | m + 1, g, a => if g ≤ f then a else og bf bk f m (bf g).toNat (bk (20 * g + a)).toNat
theorem SE_nx (hS : ∀ f : Nat, (f : Int) < n → ST n cn pc bf co bk ch de S f) {f l : Nat} (h : nx n pc f l) (hb : bf l = (f : Int)) : ch f = bk (20 * l + (ch l).toNat) ∧ ∀ c : Nat, S f c ↔ ∃ k : Nat, (k : Int) < cn l ∧ S l k ∧ bk (20 * l + k) = (c : Int) := by
  have hp := (lng_ne h.2.2.2).2.1
  obtain ⟨hSE, -, -⟩ := (hS f (by have := h.1; have := h.2.1; omega)).2 hp
  rcases hSE with ⟨l', a, b, c, e⟩ | ⟨b, -⟩
  · rw [nx_uniq a h] at c e
    exact ⟨c, e⟩
  · exact absurd hb (b l h)
theorem og_S (hT : TS n cn pc bf co bk) (hS : ∀ f : Nat, (f : Int) < n → ST n cn pc bf co bk ch de S f) {f : Nat} (hp : pc f ≠ -6) : ∀ (m g : Nat), g ≤ m → f ≤ g → (g : Int) < n → pc g = pc f → ∀ c : Nat, S f c ↔ ∃ k : Nat, S g k ∧ og bf bk f m g k = c
  | 0, g, h1, h2, h3, h4, c => by
    have e : g = f := by omega
    subst e
    exact ⟨fun h => ⟨c, h, rfl⟩, fun ⟨k, h, e⟩ => by have e2 : k = c := e; rw [← e2]; exact h⟩
  | m + 1, g, h1, h2, h3, h4, c => by
    by_cases hfg : g ≤ f
    · have e : g = f := by omega
      subst e
      have eo : ∀ k, og bf bk g (m + 1) g k = k := fun k => by unfold og; rw [if_pos hfg]
      exact ⟨fun h => ⟨c, h, eo c⟩, fun ⟨k, h, e⟩ => by rw [eo k] at e; rw [← e]; exact h⟩
    · obtain ⟨g', hnx, q1, q2, q3⟩ := TS_chain hT (f := f) (g := g) (by omega) h3 hp h4
      have q4 := hnx.1
      have ih := og_S hT hS hp m g' (by omega) q1 (by omega) q3 c
      obtain ⟨-, e2⟩ := SE_nx hS hnx q2
      obtain ⟨-, -, -, v4⟩ := ((hS g h3).2 (by rw [h4]; exact hp)).2.1
      have eo : ∀ k, og bf bk f (m + 1) g k = og bf bk f m g' (bk (20 * g + k)).toNat := fun k => by conv => { lhs; unfold og }; rw [if_neg hfg, q2, tn]
      rw [ih]
      constructor
      · rintro ⟨k', a, b⟩
        obtain ⟨k, k1, k2, k3⟩ := (e2 k').mp a
        exact ⟨k, k2, by rw [eo k, k3, tn]; exact b⟩
      · rintro ⟨k, a, b⟩
        rw [eo k] at b
        have hj : bk (20 * g + k) = ((bk (20 * g + k)).toNat : Int) := by
          rcases TS_nx hT hnx with ⟨-, -, c3⟩ | ⟨-, c3⟩
          · obtain ⟨j, -, j2, -⟩ := c3 k (v4 k a).1 (v4 k a).2
            omega
          · omega
        exact ⟨_, (e2 _).mpr ⟨k, (v4 k a).1, a, hj⟩, b⟩
theorem k_originL (M : Mm) (hn : n ≤ 16) (hT : TS n cn pc bf co bk) (hS : ∀ f : Nat, (f : Int) < n → ST n cn pc bf co bk ch de S f) (hQ : LQ M n cn pc bf sp ap co bk) {f : Nat} (hp : pc f ≠ -6) (x2 x3 : Int) : ∀ (m w g a : Nat), g ≤ m → m < w → f ≤ g → (g : Int) < n → pc g = pc f → S g a → OK (fX5_origin_L6 (f : Int) x2 x3 M w (a : Int) (g : Int)) (fun r => r = ((og bf bk f m g a : Nat) : Int)) := by
  intro m
  induction m with
  | zero =>
    intro w g a h1 h2 h3 h4 h5 h6
    cases w with
    | zero => omega
    | succ w =>
      unfold fX5_origin_L6
      exact ok_t (by omega) (ok_some rfl)
  | succ m ih =>
    intro w g a h1 h2 h3 h4 h5 h6
    cases w with
    | zero => omega
    | succ w =>
      unfold fX5_origin_L6
      by_cases hfg : g ≤ f
      · refine ok_t (by omega) (ok_some ?_)
        unfold og; rw [if_pos hfg]
      · obtain ⟨g', hnx, q1, q2, q3⟩ := TS_chain hT (f := f) (g := g) (by omega) h4 hp h5
        have q4 := hnx.1
        have hpg : pc g ≠ -6 := by rw [h5]; exact hp
        obtain ⟨-, -, -, v4⟩ := ((hS g h4).2 hpg).2.1
        have va := v4 a h6
        have cg := (hT g h4).1
        obtain ⟨-, e2⟩ := SE_nx hS hnx q2
        obtain ⟨j, j1, j2⟩ : ∃ j : Nat, bk (20 * g + a) = (j : Int) ∧ S g' j := by
          rcases TS_nx hT hnx with ⟨-, -, c3⟩ | ⟨-, c3⟩
          · obtain ⟨j, -, j2, -⟩ := c3 a va.1 va.2
            exact ⟨j, j2, (e2 j).mpr ⟨a, va.1, h6, j2⟩⟩
          · omega
        have hq := hQ g h4
        have eo : og bf bk f (m + 1) g a = og bf bk f m g' j := by conv => { lhs; unfold og }; rw [if_neg hfg, q2, tn, j1, tn]
        refine ok_f (by omega) (ok_gd ⟨⟨by omega, by omega⟩, ⟨by omega, by omega⟩, by omega, by omega⟩ (ok_bnd (fun t ht => ok_gd (by omega) ?_)))
        rw [show (20 * (g : Int) + (a : Int)).toNat = 20 * g + a by omega, (hq.2.2.2 a va.1).2.2.2, j1] at ht
        rw [ht, tn, hq.2.2.1 (by omega), q2, eo]
        exact ih w g' j (by omega) (by omega) q1 (by omega) q3 j2
theorem k_isDecL53 (M : Mm) (hn : n ≤ 16) (hT : TS n cn pc bf co bk) (hS : ∀ f : Nat, (f : Int) < n → ST n cn pc bf co bk ch de S f) (hQ : LQ M n cn pc bf sp ap co bk) {f L : Nat} (hp : pc f ≠ -6) (hfL : f ≤ L) (hL : (L : Int) < n) (hpL : pc L = pc f) (hno : ∀ l : Nat, nx n pc L l → pc l ≠ pc L) : ∀ (m : Nat) (c v : Int), 0 ≤ v → v ≤ cn L → 20 < (m : Int) + v → ((c = -6 ∧ ∀ k : Nat, (k : Int) < v → ¬ S L k) ∨ ∃ o : Nat, c = (o : Int) ∧ (∃ k : Nat, S L k ∧ og bf bk f 16 L k = o) ∧ ∀ k : Nat, (k : Int) < v → S L k → og bf bk f 16 L k = o) → OK (fX5_isDecided_L53 (f : Int) M m (L : Int) c v) (fun r => yes r (one (S f))) := by
  have hpn : pc L ≠ -6 := by rw [hpL]; exact hp
  obtain ⟨hSE, ⟨-, -, ⟨c0, hc0⟩, v4⟩, -⟩ := (hS L hL).2 hpn
  have cL := (hT L hL).1
  have okL := (hT L hL).2.1
  have hq := hQ L hL
  have hog := og_S hT hS hp 16 L (by omega) hfL hL hpL
  have hSL : ∀ k : Nat, S L k ↔ ((k : Int) < cn L ∧ co (20 * L + k) ≠ -6) := by
    rcases hSE with ⟨l, a, b, -, -⟩ | ⟨-, -, b⟩
    · rcases TS_nx hT a with c | c
      · exact absurd c.1 (hno l a)
      · omega
    · exact b
  intro m
  induction m with
  | zero => intro c v h0 h1 h2; omega
  | succ m ih =>
    intro c v h0 h1 h2 h3
    unfold fX5_isDecided_L53
    rw [tn, hq.1]
    refine ok_gd (by omega) (ok_if (fun h => ok_some (Or.inl ⟨rfl, ?_⟩)) (fun h => ?_))
    · rcases h3 with ⟨-, h3⟩ | ⟨o, -, ⟨k, k1, k2⟩, h4⟩
      · exact absurd hc0 (h3 c0 (by have := (v4 c0 hc0).1; omega))
      · refine ⟨o, (hog o).mpr ⟨k, k1, k2⟩, fun c' hc' => ?_⟩
        obtain ⟨k', a, b⟩ := (hog c').mp hc'
        rw [← b]
        exact h4 k' (by have := (v4 k' a).1; omega) a
    · have inr1 : inR (v + 1) := ⟨by omega, by omega⟩
      have ov := okL v.toNat (by omega)
      unfold okC at ov
      refine ok_jn (ok_gd ⟨⟨by omega, by omega⟩, ⟨by omega, by omega⟩, by omega, by omega⟩ ?_)
      rw [show (20 * (L : Int) + v).toNat = 20 * L + v.toNat by omega, (hq.2.2.2 v.toNat (by omega)).2.2.1]
      refine ok_if (fun q => ok_gd inr1 (ih c (v + 1) (by omega) (by omega) (by omega) ?_)) (fun q => ?_)
      · have hnv : ¬ S L v.toNat := fun h9 => by have := ((hSL _).mp h9).2; omega
        rcases h3 with ⟨a, b⟩ | ⟨o, a, b, e⟩
        · refine Or.inl ⟨a, fun k hk hk2 => ?_⟩
          by_cases hkv : k = v.toNat
          · rw [hkv] at hk2; exact hnv hk2
          · exact b k (by omega) hk2
        · refine Or.inr ⟨o, a, b, fun k hk hk2 => ?_⟩
          by_cases hkv : k = v.toNat
          · rw [hkv] at hk2; exact absurd hk2 hnv
          · exact e k (by omega) hk2
      · have hSv : S L v.toNat := (hSL _).mpr ⟨by omega, by omega⟩
        have ho : OK (fX5_origin M (f : Int) (L : Int) v) (fun r => r = ((og bf bk f 16 L v.toNat : Nat) : Int)) := by
          unfold fX5_origin
          have := k_originL M hn hT hS hQ hp (L : Int) v 16 1000 L v.toNat (by omega) (by omega) hfL hL hpL hSv
          rwa [show ((v.toNat : Nat) : Int) = v by omega] at this
        refine ok_jn (ok_cal ho (fun r15 h15 => ?_))
        rcases h3 with ⟨a, b⟩ | ⟨o, a, b, e⟩
        · refine ok_t (by omega) (ok_gd inr1 (ih r15 (v + 1) (by omega) (by omega) (by omega) (Or.inr ⟨_, h15, ⟨v.toNat, hSv, rfl⟩, fun k hk hk2 => ?_⟩)))
          by_cases hkv : k = v.toNat
          · rw [hkv]
          · exact absurd hk2 (b k (by omega))
        · refine ok_f (by omega) (ok_if (fun q2 => ok_gd inr1 (ih r15 (v + 1) (by omega) (by omega) (by omega) (Or.inr ⟨o, by omega, b, fun k hk hk2 => ?_⟩))) (fun q2 => ok_some (Or.inr ⟨rfl, fun h9 => ?_⟩)))
          · by_cases hkv : k = v.toNat
            · rw [hkv]; omega
            · exact e k (by omega) hk2
          · obtain ⟨c9, -, h9⟩ := h9
            obtain ⟨k1, k2, k3⟩ := b
            have a1 := h9 o ((hog o).mpr ⟨k1, k2, k3⟩)
            have a2 := h9 _ ((hog _).mpr ⟨v.toNat, hSv, rfl⟩)
            omega
theorem k_isDecL30 (M : Mm) (h10 : M 71 10 = n) (hn : n ≤ 16) (hT : TS n cn pc bf co bk) (hS : ∀ f : Nat, (f : Int) < n → ST n cn pc bf co bk ch de S f) (hQ : LQ M n cn pc bf sp ap co bk) {f : Nat} (hp : pc f ≠ -6) (x : Int) (k : Int → Option Int) (P : Int → Prop) (hk : ∀ L : Nat, f ≤ L → (L : Int) < n → pc L = pc f → (∀ l : Nat, nx n pc L l → pc l ≠ pc L) → OK (k (L : Int)) P) : ∀ (m : Nat) (v : Int), (f : Int) ≤ v → v < n → pc v.toNat = pc f → 16 < (m : Int) + v → OK (fX5_isDecided_L30 x M k m v) P := by
  intro m
  induction m with
  | zero => intro g h0 h1 h2 h3; omega
  | succ m ih =>
    intro v h0 h1 h2 h3
    unfold fX5_isDecided_L30
    have hx := k_next M (n := n) (pc := pc) ⟨h10, hn⟩ (fun f hf => ⟨(hQ f hf).2.1, by have := TS_pc hT hf; omega⟩) v ⟨by omega, h1⟩
    refine ok_cal hx (fun r20 h20 => ?_)
    rcases h20 with ⟨e, hno⟩ | ⟨l, e, hl, hpl⟩
    · have := hk v.toNat (by omega) (by omega) h2 hno
      rw [show ((v.toNat : Nat) : Int) = v by omega] at this
      exact ok_t (by omega) this
    · refine ok_f (by omega) (ok_cal hx (fun r21 h21 => ?_))
      rcases h21 with ⟨e', hno⟩ | ⟨l', e', hl', hpl'⟩
      · exact absurd hpl (hno l hl)
      · have a1 := hl'.1
        have a2 := hl'.2.1
        exact ih r21 (by omega) (by omega) (by rw [show r21.toNat = l' by omega, hpl']; exact h2) (by omega)
theorem pcs_plp {f : Nat} (hn : 0 ≤ n) (hf : (f : Int) < n) (hp : pc f ≠ -6) : pcs pc n.toNat = plp pc n + 1 := by
  unfold pcs plp
  rcases lng_spec pc n.toNat with ⟨-, a⟩ | ⟨g, -, a, -, -⟩
  · exact absurd (a f (by omega)) hp
  · rw [if_neg (by omega)]
theorem TS_plp (hT : TS n cn pc bf co bk) {f : Nat} (hf : (f : Int) < n) (hp : pc f ≠ -6) : pc f ≤ plp pc n := by
  unfold plp
  rcases lng_spec pc n.toNat with ⟨-, a⟩ | ⟨g, g1, a, g2, g3⟩
  · exact absurd (a f (by omega)) hp
  · rw [a, tn]
    have : f ≤ g := by
      by_cases h9 : g < f
      · exact absurd (g3 f h9 (by omega)) hp
      · omega
    exact TS_mono hT (g + 1) f g (by omega) this (by omega) hp g2
theorem TS_plb (hT : TS n cn pc bf co bk) (hn : 0 ≤ n ∧ n ≤ 16) : 0 ≤ pcs pc n.toNat ∧ pcs pc n.toNat ≤ 16 := by
  unfold pcs
  rcases lng_spec pc n.toNat with ⟨a, -⟩ | ⟨g, g1, a, g2, g3⟩
  · rw [if_pos a]; omega
  · rw [if_neg (by omega), a, tn]
    have := TS_pc hT (f := g) (by omega)
    omega
theorem k_isDecided (M : Mm) (h10 : M 71 10 = n) (h20 : M 71 20 = pcs pc n.toNat) (hn : 0 ≤ n ∧ n ≤ 16) (hT : TS n cn pc bf co bk) (hS : ∀ f : Nat, (f : Int) < n → ST n cn pc bf co bk ch de S f) (hQ : LQ M n cn pc bf sp ap co bk) (x : Int) (hx : 0 ≤ x ∧ x < n) : OK (fX5_isDecided M x) (fun r => r = de x.toNat) := by
  obtain ⟨f, hf⟩ : ∃ f : Nat, x.toNat = f := ⟨_, rfl⟩
  have hfx : x = (f : Int) := by omega
  have hST := hS f (by omega)
  have hpc := TS_pc hT (f := f) (by omega)
  have hpb := TS_plb hT hn
  unfold fX5_isDecided
  rw [hf, (hQ f (by omega)).2.1, h20]
  refine ok_gd (by omega) (ok_if (fun q => ok_gd ⟨by omega, ⟨by omega, by omega⟩⟩ ?_) (fun q => ok_some (hST.1 (by omega)).2.symm))
  have hp : pc f ≠ -6 := by omega
  obtain ⟨-, -, hde⟩ := hST.2 hp
  have e1 := pcs_plp (pc := pc) hn.1 (f := f) (by omega) hp
  have e2 := TS_plp hT (f := f) (by omega) hp
  refine ok_if (fun q2 => ?_) (fun q2 => ok_some ?_)
  · refine k_isDecL30 M h10 hn.2 hT hS hQ hp x _ _ (fun L l1 l2 l3 l4 => ?_) 1000 x (by omega) hx.2 (by rw [hf]) (by omega)
    rw [hfx]
    refine ok_mono (k_isDecL53 M hn.2 hT hS hQ hp l1 l2 l3 l4 1000 (-6) 0 (by omega) (hT L l2).1.1 (by omega) (Or.inl ⟨rfl, fun k hk => by omega⟩)) (fun r hr => ?_)
    rcases hr with ⟨a, b⟩ | ⟨a, b⟩ <;> rcases hde with ⟨c, e⟩ | ⟨c, e⟩
    · omega
    · exact absurd (Or.inr b) e
    · rcases e with e | e
      · exact absurd (by omega) e
      · exact absurd e b
    · omega
  · rcases hde with ⟨c, e⟩ | ⟨c, e⟩
    · exact c.symm
    · exact absurd (Or.inl (by omega)) e
end DEC
