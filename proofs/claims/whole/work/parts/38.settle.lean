/-! settle -/
def nx (n : Int) (pc : Nat → Int) (f l : Nat) : Prop := f < l ∧ (l : Int) < n ∧ pc l ≠ -6 ∧ lng pc l = (f : Int)
theorem lng_eq {pc : Nat → Int} {i l : Nat} (h1 : i < l) (h2 : pc i ≠ -6) (h3 : ∀ h, i < h → h < l → pc h = -6) : lng pc l = (i : Int) := by
  rcases lng_spec pc l with ⟨-, a⟩ | ⟨g, a, b, c, e⟩
  · exact absurd (a i h1) h2
  · by_cases hg : g < i
    · exact absurd (e i hg h1) h2
    · by_cases hg2 : i < g
      · exact absurd (h3 g hg2 a) c
      · rw [b]; omega
theorem lng_ne {pc : Nat → Int} {i l : Nat} (h : lng pc l = (i : Int)) : i < l ∧ pc i ≠ -6 ∧ ∀ h, i < h → h < l → pc h = -6 := by
  rcases lng_spec pc l with ⟨a, -⟩ | ⟨g, a, b, c, e⟩
  · omega
  · have : g = i := by omega
    subst this
    exact ⟨a, c, e⟩
theorem nx_uniq {n : Int} {pc : Nat → Int} {f l l' : Nat} (h : nx n pc f l) (h' : nx n pc f l') : l = l' := by
  have a := lng_ne h.2.2.2
  have b := lng_ne h'.2.2.2
  by_cases h1 : l < l'
  · exact absurd (b.2.2 l h.1 h1) h.2.2.1
  · by_cases h2 : l' < l
    · exact absurd (a.2.2 l' h'.1 h2) h'.2.2.1
    · omega
def SE (n : Int) (cn pc bf co bk ch : Nat → Int) (S : Nat → Nat → Prop) (f : Nat) : Prop := (∃ l : Nat, nx n pc f l ∧ bf l = (f : Int) ∧ ch f = bk (20 * l + (ch l).toNat) ∧ ∀ c : Nat, S f c ↔ ∃ k : Nat, (k : Int) < cn l ∧ S l k ∧ bk (20 * l + k) = (c : Int)) ∨ ((∀ l : Nat, nx n pc f l → bf l ≠ (f : Int)) ∧ ch f = (cpF co f (cn f).toNat).1 ∧ ∀ c : Nat, S f c ↔ ((c : Int) < cn f ∧ co (20 * f + c) ≠ -6))
def VL (cn co ch : Nat → Int) (S : Nat → Nat → Prop) (f : Nat) : Prop := (0 ≤ ch f ∧ ch f < cn f) ∧ co (20 * f + (ch f).toNat) ≠ -6 ∧ (∃ c, S f c) ∧ ∀ c : Nat, S f c → (c : Int) < cn f ∧ co (20 * f + c) ≠ -6
def one (S : Nat → Prop) : Prop := ∃ c, S c ∧ ∀ c', S c' → c' = c
def plp (pc : Nat → Int) (n : Int) : Int := pc (lng pc n.toNat).toNat
def ST (n : Int) (cn pc bf co bk ch de : Nat → Int) (S : Nat → Nat → Prop) (f : Nat) : Prop := (pc f = -6 → ch f = -6 ∧ de f = 0) ∧ (pc f ≠ -6 → SE n cn pc bf co bk ch S f ∧ VL cn co ch S f ∧ yes (de f) (pc f ≠ plp pc n ∨ one (S f)))
theorem SE_congr {n : Int} {cn pc bf co bk ch ch' : Nat → Int} {S S' : Nat → Nat → Prop} {f : Nat} (h : ∀ h, f ≤ h → ch' h = ch h ∧ S' h = S h) (k : SE n cn pc bf co bk ch S f) : SE n cn pc bf co bk ch' S' f := by
  unfold SE at *
  rw [(h f (Nat.le_refl f)).1, (h f (Nat.le_refl f)).2]
  rcases k with ⟨l, a, b, c, e⟩ | k
  · refine Or.inl ⟨l, a, b, ?_, ?_⟩
    · rw [(h l (by have := a.1; omega)).1]; exact c
    · rw [(h l (by have := a.1; omega)).2]; exact e
  · exact Or.inr k
theorem ST_congr {n : Int} {cn pc bf co bk ch de ch' de' : Nat → Int} {S S' : Nat → Nat → Prop} {f : Nat} (h : ∀ h, f ≤ h → ch' h = ch h ∧ de' h = de h ∧ S' h = S h) (k : ST n cn pc bf co bk ch de S f) : ST n cn pc bf co bk ch' de' S' f := by
  have hf := h f (Nat.le_refl f)
  refine ⟨fun h0 => ?_, fun h0 => ?_⟩
  · rw [hf.1, hf.2.1]; exact k.1 h0
  · obtain ⟨a, b, c⟩ := k.2 h0
    refine ⟨SE_congr (fun x hx => ⟨(h x hx).1, (h x hx).2.2⟩) a, ?_, ?_⟩
    · unfold VL at *; rw [hf.1, hf.2.2]; exact b
    · rw [hf.2.1, hf.2.2]; exact c
section STS
variable {n : Int} {cn pc bf co bk ch : Nat → Int} {S : Nat → Nat → Prop}
theorem TS_nx (hT : TS n cn pc bf co bk) {f l : Nat} (h : nx n pc f l) : (pc l = pc f ∧ bf l = (f : Int) ∧ ∀ k : Nat, (k : Int) < cn l → co (20 * l + k) ≠ -6 → ∃ i : Nat, (i : Int) < cn f ∧ bk (20 * l + k) = (i : Int) ∧ co (20 * f + i) ≠ -6) ∨ (pc l = pc f + 1 ∧ bf l = -6) := by
  obtain ⟨h1, h2, h3, h4⟩ := h
  obtain ⟨-, -, h5⟩ := hT l h2
  rcases h5 with h5 | ⟨-, -, -, h5⟩
  · exact absurd h5.2 h3
  · rcases h5 with h5 | ⟨g, g1, g2, g3⟩
    · omega
    · have : g = f := by omega
      subst this
      rcases g3 with ⟨a, b, c⟩ | ⟨a, b⟩
      · exact Or.inl ⟨a, b, c⟩
      · exact Or.inr ⟨a, b⟩
theorem VL_join (hT : TS n cn pc bf co bk) {f l : Nat} (h : nx n pc f l) (hb : bf l = (f : Int)) (hv : VL cn co ch S l) (e1 : ch f = bk (20 * l + (ch l).toNat)) (e2 : ∀ c : Nat, S f c ↔ ∃ k : Nat, (k : Int) < cn l ∧ S l k ∧ bk (20 * l + k) = (c : Int)) : VL cn co ch S f := by
  rcases TS_nx hT h with ⟨-, -, h5⟩ | ⟨-, h5⟩
  · obtain ⟨v1, v2, ⟨c0, v3⟩, v4⟩ := hv
    obtain ⟨i, i1, i2, i3⟩ := h5 (ch l).toNat (by omega) v2
    refine ⟨by omega, by rw [show (ch f).toNat = i by omega]; exact i3, ?_, fun c hc => ?_⟩
    · obtain ⟨j, j1, j2, j3⟩ := h5 c0 (v4 c0 v3).1 (v4 c0 v3).2
      exact ⟨j, (e2 j).mpr ⟨c0, (v4 c0 v3).1, v3, j2⟩⟩
    · obtain ⟨k, k1, k2, k3⟩ := (e2 c).mp hc
      obtain ⟨j, j1, j2, j3⟩ := h5 k k1 (v4 k k2).2
      have : j = c := by omega
      subst this
      exact ⟨j1, j3⟩
  · omega
theorem VL_least (hT : TS n cn pc bf co bk) {f : Nat} (hf : (f : Int) < n) (hp : pc f ≠ -6) (e1 : ch f = (cpF co f (cn f).toNat).1) (e2 : ∀ c : Nat, S f c ↔ ((c : Int) < cn f ∧ co (20 * f + c) ≠ -6)) : VL cn co ch S f := by
  obtain ⟨h1, -, h5⟩ := hT f hf
  rcases h5 with h5 | ⟨-, -, ⟨k, k1, k2⟩, -⟩
  · exact absurd h5.2 hp
  · rcases cpF_spec co f (cn f).toNat with ⟨-, a⟩ | ⟨i, i1, i2, i3⟩
    · exact absurd (a k (by omega)) k2
    · have e3 : ch f = (i : Int) := by rw [e1, i2]
      refine ⟨by omega, by rw [show (ch f).toNat = i by omega]; exact i3, ⟨k, (e2 k).mpr ⟨k1, k2⟩⟩, fun c hc => (e2 c).mp hc⟩
end STS
theorem k_settleL (b : Nat) (M0 : Mm) (hn : 0 ≤ M0 (b + 11) 2 ∧ M0 (b + 11) 2 ≤ 16) (hT : TS (M0 (b + 11) 2) (M0 (b + 14)) (M0 (b + 15)) (M0 (b + 16)) (M0 (b + 19)) (M0 (b + 20))) :
    ∀ (m : Nat) (v2 v3 v4 v5 : Int) (M : Mm) (S : Nat → Nat → Prop), (∀ a, a ≠ b + 21 → a ≠ b + 22 → M a = M0 a) → -1 ≤ v5 → v5 < M0 (b + 11) 2 → v5 + 1 < (m : Int) → ((v2 = -6 ∧ ∀ h : Nat, v5 < (h : Int) → (h : Int) < M0 (b + 11) 2 → M0 (b + 15) h = -6) ∨ ∃ l : Nat, v2 = (l : Int) ∧ v5 < (l : Int) ∧ (l : Int) < M0 (b + 11) 2 ∧ M0 (b + 15) l ≠ -6 ∧ (∀ h : Nat, v5 < (h : Int) → h < l → M0 (b + 15) h = -6) ∧ BT v3 (S l) ∧ yes v4 (M0 (b + 15) l = plp (M0 (b + 15)) (M0 (b + 11) 2)) ∧ M0 (b + 15) l ≤ plp (M0 (b + 15)) (M0 (b + 11) 2)) → (∀ f : Nat, v5 < (f : Int) → (f : Int) < M0 (b + 11) 2 → ST (M0 (b + 11) 2) (M0 (b + 14)) (M0 (b + 15)) (M0 (b + 16)) (M0 (b + 19)) (M0 (b + 20)) (M (b + 21)) (M (b + 22)) S f) → OK (fX3_settle_L15 b m v2 v3 v4 v5 M) (fun M' => (∀ a, a ≠ b + 21 → a ≠ b + 22 → M' a = M0 a) ∧ ∃ S : Nat → Nat → Prop, ∀ f : Nat, (f : Int) < M0 (b + 11) 2 → ST (M0 (b + 11) 2) (M0 (b + 14)) (M0 (b + 15)) (M0 (b + 16)) (M0 (b + 19)) (M0 (b + 20)) (M' (b + 21)) (M' (b + 22)) S f) := by
  generalize hP : (fun M' : Mm => (∀ a, a ≠ b + 21 → a ≠ b + 22 → M' a = M0 a) ∧ ∃ S : Nat → Nat → Prop, ∀ f : Nat, (f : Int) < M0 (b + 11) 2 → ST (M0 (b + 11) 2) (M0 (b + 14)) (M0 (b + 15)) (M0 (b + 16)) (M0 (b + 19)) (M0 (b + 20)) (M' (b + 21)) (M' (b + 22)) S f) = P
  intro m
  induction m with
  | zero => intro v2 v3 v4 v5 M S _ h0 h1 h2; omega
  | succ m ih =>
    intro v2 v3 v4 v5 M S hM h0 h1 h2 hL hS
    have m11 : M (b + 11) = M0 (b + 11) := hM _ (by omega) (by omega)
    have m14 : M (b + 14) = M0 (b + 14) := hM _ (by omega) (by omega)
    have m15 : M (b + 15) = M0 (b + 15) := hM _ (by omega) (by omega)
    have m16 : M (b + 16) = M0 (b + 16) := hM _ (by omega) (by omega)
    have m19 : M (b + 19) = M0 (b + 19) := hM _ (by omega) (by omega)
    have m20 : M (b + 20) = M0 (b + 20) := hM _ (by omega) (by omega)
    generalize hnn : M0 (b + 11) 2 = nn at hn hT h1 hL hS hP ih
    have hgap := k_isGap b M v5 (by rw [m11, hnn]; exact hn.2)
    rw [m11, m15, hnn] at hgap
    generalize hpc : M0 (b + 15) = pc at hT hL hS hP ih hgap
    generalize hpl : plp pc nn = pl at hL ih
    unfold fX3_settle_L15
    refine ok_if (fun h => ok_some ?_) (fun h => ?_)
    · rw [← hP]
      exact ⟨hM, S, fun f hf => hS f (by omega) hf⟩
    obtain ⟨i, hi⟩ : ∃ i : Nat, v5.toNat = i := ⟨_, rfl⟩
    have hi2 : (i : Int) = v5 := by omega
    have inr1 : inR (v5 + -1) := ⟨by omega, by omega⟩
    rw [hi] at hgap ⊢
    refine ok_jnK (fun K12 => ∀ (w2 w3 w4 : Int) (M11 : Mm) (S' : Nat → Nat → Prop), (∀ a, a ≠ b + 21 → a ≠ b + 22 → M11 a = M0 a) → ((w2 = -6 ∧ ∀ h : Nat, v5 + -1 < (h : Int) → (h : Int) < nn → pc h = -6) ∨ ∃ l : Nat, w2 = (l : Int) ∧ v5 + -1 < (l : Int) ∧ (l : Int) < nn ∧ pc l ≠ -6 ∧ (∀ h : Nat, v5 + -1 < (h : Int) → h < l → pc h = -6) ∧ BT w3 (S' l) ∧ yes w4 (pc l = pl) ∧ pc l ≤ pl) → (∀ f : Nat, v5 + -1 < (f : Int) → (f : Int) < nn → ST nn (M0 (b + 14)) pc (M0 (b + 16)) (M0 (b + 19)) (M0 (b + 20)) (M11 (b + 21)) (M11 (b + 22)) S' f) → OK (K12 w2 w3 w4 v5 M11) P) (fun w2 w3 w4 M11 S' g1 g2 g3 => ok_gd inr1 (ih w2 w3 w4 (v5 + -1) M11 S' g1 (by omega) (by omega) (by omega) g2 g3)) (fun K12 hK12 => ?_)
    refine ok_cal hgap (fun r14 h14 => ok_if (fun q => ?_) (fun q => ?_))
    · -- no gap
      have hpi : pc i ≠ -6 := fun h9 => yes_f h14 q (Or.inr h9)
      have hTi := hT i (by omega)
      refine ok_jnK (fun K19 => ∀ (w il : Int) (M18 : Mm) (Sn : Nat → Prop), (∀ a, a ≠ b + 21 → a ≠ b + 22 → M18 a = M0 a) → M18 (b + 22) = M (b + 22) → (∀ j, j ≠ i → M18 (b + 21) j = M (b + 21) j) → BT w Sn → yes il (pc i = pl) → pc i ≤ pl → SE nn (M0 (b + 14)) pc (M0 (b + 16)) (M0 (b + 19)) (M0 (b + 20)) (M18 (b + 21)) (fun f => if f = i then Sn else S f) i → VL (M0 (b + 14)) (M0 (b + 19)) (M18 (b + 21)) (fun f => if f = i then Sn else S f) i → OK (K19 w il v5 M18) P) ?_ (fun K19 hK19 => ?_)
      · intro w il M18 Sn g1 g2 g3 g4 g5 g6 g7 g8
        refine ok_jnK (fun K26 => ∀ w23 : Int, yes w23 (pc i ≠ pl ∨ one Sn) → OK (K26 w il v5 w23 v5 M18) P) ?_ (fun K26 hK26 => ?_)
        · intro w23 hw
          refine ok_gd ⟨by omega, by rcases hw with ⟨e, -⟩ | ⟨e, -⟩ <;> omega⟩ (ok_bnd (fun M27 e27 => hK12 v5 w il M27 (fun f => if f = i then Sn else S f) (fun a a1 a2 => by rw [e27, up_row a2]; exact g1 a a1 a2) (Or.inr ⟨i, by omega, by omega, by omega, hpi, fun h _ _ => by omega, by rw [if_pos rfl]; exact g4, g5, g6⟩) (fun f f1 f2 => ?_)))
          have r21 : M27 (b + 21) = M18 (b + 21) := by rw [e27, up_row (by omega)]
          have r22 : ∀ j, M27 (b + 22) j = if j = i then w23 else M (b + 22) j := fun j => by rw [e27, hi, up_at, g2]
          by_cases hfi : f = i
          · subst hfi
            refine ⟨fun h9 => absurd h9 hpi, fun _ => ⟨by rw [r21]; exact g7, by rw [r21]; exact g8, ?_⟩⟩
            rw [r22, if_pos rfl, hpl]
            show yes w23 (pc f ≠ pl ∨ one (if f = f then Sn else S f))
            rw [if_pos rfl]
            exact hw
          · refine ST_congr (fun x hx => ⟨?_, ?_, ?_⟩) (hS f (by omega) f2)
            · rw [r21]; exact g3 x (by omega)
            · rw [r22, if_neg (by omega)]
            · exact if_neg (by omega)
        · refine ok_jnK (fun K34 => (pc i ≠ pl ∨ one Sn) → OK (K34 w il v5 v5 M18) P) (fun hy => hK26 1 (Or.inl ⟨rfl, hy⟩)) (fun K34 hK34 => ?_)
          refine ok_if (fun z => hK34 (Or.inl (yes_f g5 z))) (fun z => ok_cal (BT_one M18 g4) (fun r35 h35 => ok_if (fun z2 => hK34 (Or.inr (h35.mp z2))) (fun z2 => hK26 0 (Or.inr ⟨rfl, fun h9 => ?_⟩))))
          rcases h9 with h9 | h9
          · exact h9 (yes_t g5 z)
          · exact z2 (h35.mpr h9)
      · refine ok_jnK (fun K39 => (∀ l : Nat, nx nn pc i l → M0 (b + 16) l ≠ (i : Int)) → (v2 = -6 → pc i = pl) → (v2 ≠ -6 → pc i < pl) → OK (K39 v2 v5 M) P) ?_ (fun K39 hK39 => ?_)
        · intro hno hl1 hl2
          have hc := k_cheapest b M v5 (by omega) (by rw [m14, hi]; exact hTi.1)
          rw [m14, m19, hi] at hc
          refine ok_jn (ok_cal hc (fun r45 h45 => ok_gd (by omega) (ok_bnd (fun M46 e46 => ?_))))
          have o46 : ∀ a, a ≠ b + 21 → M46 a = M a := fun a ha => by rw [e46, up_row ha]
          have r21 : ∀ j, M46 (b + 21) j = if j = i then r45 else M (b + 21) j := fun j => by rw [e46, hi, up_at]
          have ha := k_alive b M46 v5 (by omega) (by rw [o46 _ (by omega), m14, hi]; exact hTi.1)
          rw [o46 _ (by omega), o46 _ (by omega), m14, m19, hi] at ha
          refine ok_cal ha (fun r47 h47 => ?_)
          have fin : ∀ il : Int, yes il (pc i = pl) → pc i ≤ pl → OK (K19 r47 il v5 M46) P := fun il h8 h9 => by
            have eS : ∀ c : Nat, (if i = i then (fun c : Nat => (c : Int) < M0 (b + 14) i ∧ M0 (b + 19) (20 * i + c) ≠ -6) else S i) c ↔ ((c : Int) < M0 (b + 14) i ∧ M0 (b + 19) (20 * i + c) ≠ -6) := fun c => by rw [if_pos rfl]
            have ec : M46 (b + 21) i = (cpF (M0 (b + 19)) i (M0 (b + 14) i).toNat).1 := by rw [r21, if_pos rfl]; exact h45
            exact hK19 r47 il M46 (fun c => (c : Int) < M0 (b + 14) i ∧ M0 (b + 19) (20 * i + c) ≠ -6) (fun a a1 a2 => by rw [o46 a a1]; exact hM a a1 a2) (o46 _ (by omega)) (fun j hj => by rw [r21, if_neg hj]) h47 h8 h9 (Or.inr ⟨hno, ec, eS⟩) (VL_least hT (by omega) hpi ec eS)
          exact ok_if (fun z => fin 1 (Or.inl ⟨rfl, hl1 z⟩) (by have := hl1 z; omega)) (fun z => fin 0 (Or.inr ⟨rfl, by have := hl2 z; omega⟩) (by have := hl2 z; omega))
        · rcases hL with ⟨z, hg⟩ | ⟨l, el, l1, l2, l3, l4, l5, l6, l7⟩
          · refine ok_t z (hK39 (fun l hl => absurd (hg l (by have := hl.1; omega) hl.2.1) hl.2.2.1) (fun _ => ?_) (fun h9 => absurd z h9))
            rw [← hpl]
            unfold plp
            rw [lng_eq (i := i) (by omega) hpi (fun h a1 a2 => hg h (by omega) (by omega)), tn]
          · have hnx : nx nn pc i l := ⟨by omega, l2, l3, lng_eq (by omega) hpi (fun h a1 a2 => l4 h (by omega) a2)⟩
            have hS5 := (hS l l1 l2).2 l3
            have hTl := hT l l2
            have elN : v2.toNat = l := by omega
            refine ok_f (by omega) (ok_gd (by omega) ?_)
            rw [elN, m16]
            have hx := TS_nx hT hnx
            refine ok_if (fun z2 => ok_gd (by omega) ?_) (fun z2 => hK39 (fun l' hl' => ?_) (fun h9 => by omega) (fun _ => ?_))
            · obtain ⟨e5, e6, e7⟩ : pc l = pc i ∧ M0 (b + 16) l = (i : Int) ∧ ∀ k : Nat, (k : Int) < M0 (b + 14) l → M0 (b + 19) (20 * l + k) ≠ -6 → ∃ j : Nat, (j : Int) < M0 (b + 14) i ∧ M0 (b + 20) (20 * l + k) = (j : Int) ∧ M0 (b + 19) (20 * i + j) ≠ -6 := by
                rcases hx with hx | hx
                · exact hx
                · omega
              have hv := hS5.2.1
              have hb := k_backOf b M v2 (M (b + 21) l) (by rw [m11, hnn]; exact hn.2) (by rw [m11, hnn]; omega) (by rw [m14, elN]; exact hv.1) (by rw [m14, elN]; exact hTl.1.2)
              rw [m20, elN] at hb
              refine ok_cal hb (fun r49 h49 => ok_gd (by omega) (ok_bnd (fun M50 e50 => ?_)))
              have o50 : ∀ a, a ≠ b + 21 → M50 a = M a := fun a ha => by rw [e50, up_row ha]
              have r21 : ∀ j, M50 (b + 21) j = if j = i then r49 else M (b + 21) j := fun j => by rw [e50, up_at]
              have hbs := k_backsOf b M50 v2 v3 (S l) (by omega) (by rw [o50 _ (by omega), m14, elN]; exact hTl.1) l5 (by
                rw [o50 _ (by omega), o50 _ (by omega), m14, m20, elN]
                intro k hk hk2
                obtain ⟨j, j1, j2, -⟩ := e7 k hk (hv.2.2.2 k hk2).2
                have := hTi.1
                omega)
              rw [o50 _ (by omega), o50 _ (by omega), m14, m20, elN] at hbs
              refine ok_cal hbs (fun r51 h51 => ?_)
              have hli : l ≠ i := by omega
              have eS : ∀ c : Nat, (if i = i then (fun c : Nat => ∃ k : Nat, (k : Int) < M0 (b + 14) l ∧ S l k ∧ M0 (b + 20) (20 * l + k) = (c : Int)) else S i) c ↔ ∃ k : Nat, (k : Int) < M0 (b + 14) l ∧ (if l = i then (fun c : Nat => ∃ k : Nat, (k : Int) < M0 (b + 14) l ∧ S l k ∧ M0 (b + 20) (20 * l + k) = (c : Int)) else S l) k ∧ M0 (b + 20) (20 * l + k) = (c : Int) := fun c => by rw [if_pos rfl, if_neg hli]
              have ecl : M50 (b + 21) l = M (b + 21) l := by rw [r21, if_neg hli]
              have ec : M50 (b + 21) i = M0 (b + 20) (20 * l + (M50 (b + 21) l).toNat) := by rw [ecl, r21, if_pos rfl]; exact h49
              refine hK19 r51 v4 M50 (fun c => ∃ k : Nat, (k : Int) < M0 (b + 14) l ∧ S l k ∧ M0 (b + 20) (20 * l + k) = (c : Int)) (fun a a1 a2 => by rw [o50 a a1]; exact hM a a1 a2) (o50 _ (by omega)) (fun j hj => by rw [r21, if_neg hj]) h51 (by rw [← e5]; exact l6) (by omega) (Or.inl ⟨l, hnx, e6, ec, eS⟩) (VL_join hT hnx e6 ?_ ec eS)
              have eSl : (if l = i then (fun c : Nat => ∃ k : Nat, (k : Int) < M0 (b + 14) l ∧ S l k ∧ M0 (b + 20) (20 * l + k) = (c : Int)) else S l) = S l := if_neg hli
              unfold VL at hv ⊢
              rw [ecl]
              dsimp only
              rw [eSl]
              exact hv
            · rw [nx_uniq hl' hnx]; omega
            · rcases hx with hx | hx
              · omega
              · omega
    · -- a gap
      have hpi : pc i = -6 := by
        rcases yes_t h14 q with h9 | h9
        · omega
        · exact h9
      refine ok_gd (by omega) (ok_bnd (fun M55 e55 => ok_gd ⟨by omega, Or.inl rfl⟩ (ok_bnd (fun M56 e56 => hK12 v2 v3 v4 M56 S (fun a a1 a2 => by rw [e56, up_row a2, e55, up_row a1]; exact hM a a1 a2) ?_ (fun f f1 f2 => ?_)))))
      · rcases hL with ⟨z, hg⟩ | ⟨l, el, l1, l2, l3, l4, l5⟩
        · refine Or.inl ⟨z, fun h a1 a2 => ?_⟩
          by_cases hh : h = i
          · rw [hh]; exact hpi
          · exact hg h (by omega) a2
        · refine Or.inr ⟨l, el, by omega, l2, l3, fun h a1 a2 => ?_, l5⟩
          by_cases hh : h = i
          · rw [hh]; exact hpi
          · exact l4 h (by omega) a2
      · have r21 : ∀ j, M56 (b + 21) j = if j = i then -6 else M (b + 21) j := fun j => by rw [e56, up_row (by omega), e55, up_at]
        have r22 : ∀ j, M56 (b + 22) j = if j = i then 0 else M (b + 22) j := fun j => by rw [e56, up_at, e55, up_row (by omega)]
        by_cases hfi : f = i
        · subst hfi
          exact ⟨fun _ => ⟨by rw [r21, if_pos rfl], by rw [r22, if_pos rfl]⟩, fun h9 => absurd hpi h9⟩
        · exact ST_congr (fun x hx => ⟨by rw [r21, if_neg (by omega)], by rw [r22, if_neg (by omega)], rfl⟩) (hS f (by omega) f2)
theorem k_settle (b : Nat) (M : Mm) (hn : 0 ≤ M (b + 11) 2 ∧ M (b + 11) 2 ≤ 16) (hT : TS (M (b + 11) 2) (M (b + 14)) (M (b + 15)) (M (b + 16)) (M (b + 19)) (M (b + 20))) : OK (fX3_settle b M) (fun M' => (∀ a, a ≠ b + 21 → a ≠ b + 22 → M' a = M a) ∧ ∃ S : Nat → Nat → Prop, ∀ f : Nat, (f : Int) < M (b + 11) 2 → ST (M (b + 11) 2) (M (b + 14)) (M (b + 15)) (M (b + 16)) (M (b + 19)) (M (b + 20)) (M' (b + 21)) (M' (b + 22)) S f) := by
  unfold fX3_settle
  refine ok_gd ⟨by omega, by omega⟩ (ok_bnd (fun t ht => ?_))
  exact k_settleL b M hn hT 1000 (-6) 0 1 t M (fun _ _ => True) (fun _ _ _ => rfl) (by omega) (by omega) (by omega) (Or.inl ⟨rfl, fun h h1 h2 => by omega⟩) (fun f h1 h2 => by omega)
