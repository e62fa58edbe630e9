/-! the reference lays all: the way back -/
def LQ (M : Mm) (n : Int) (cn pc bf sp ap co bk : Nat → Int) : Prop := ∀ f : Nat, (f : Int) < n → M 85 f = cn f ∧ M 86 f = pc f ∧ (cn f ≠ 0 → M 87 f = bf f) ∧ ∀ k : Nat, (k : Int) < cn f → M 81 (20 * f + k) = sp (20 * f + k) ∧ M 82 (20 * f + k) = ap (20 * f + k) ∧ M 83 (20 * f + k) = co (20 * f + k) ∧ M 84 (20 * f + k) = bk (20 * f + k)
theorem k_nextL (M : Mm) {n : Int} {pc : Nat → Int} (hn : M 71 10 = n ∧ n ≤ 16) (hp : ∀ f : Nat, (f : Int) < n → M 86 f = pc f ∧ (pc f = -6 ∨ 0 ≤ pc f)) (f : Int) (hf : 0 ≤ f ∧ f < n) (k : Int → Option Int) (P : Int → Prop) (h6 : (∀ l : Nat, nx n pc f.toNat l → pc l ≠ pc f.toNat) → OK (some (-6)) P) (hk : ∀ l : Nat, f < (l : Int) → (l : Int) < n → pc l ≠ -6 → (∀ h : Nat, f < (h : Int) → h < l → pc h = -6) → OK (k (l : Int)) P) : ∀ (m : Nat) (v : Int), f < v → v ≤ n → 17 < (m : Int) + v → (∀ h : Nat, f < (h : Int) → (h : Int) < v → pc h = -6) → OK (fX5_next_L4 f M k m v) P := by
  intro m
  induction m with
  | zero => intro v h0 h1 h2; omega
  | succ m ih =>
    intro v h0 h1 h2 h3
    unfold fX5_next_L4
    rw [hn.1]
    refine ok_if (fun h => h6 (fun l hl => ?_)) (fun h => ok_gd (by omega) ?_)
    · exact absurd (h3 l (by have := hl.1; omega) (by have := hl.2.1; omega)) hl.2.2.1
    · have hv := hp v.toNat (by omega)
      rw [hv.1]
      refine ok_if (fun q => ok_gd ⟨by omega, by omega⟩ (ih (v + 1) (by omega) (by omega) (by omega) (fun x hx1 hx2 => ?_))) (fun q => ?_)
      · by_cases hxv : x = v.toNat
        · rw [hxv]; omega
        · exact h3 x hx1 (by omega)
      · have := hk v.toNat (by omega) (by omega) (by omega) (fun h hh1 hh2 => h3 h hh1 (by omega))
        rw [show ((v.toNat : Nat) : Int) = v by omega] at this
        exact this
/-- the next one of the same piece, or none -/
def NXT (n : Int) (pc : Nat → Int) (f : Nat) (r : Int) : Prop := (r = -6 ∧ ∀ l : Nat, nx n pc f l → pc l ≠ pc f) ∨ ∃ l : Nat, r = (l : Int) ∧ nx n pc f l ∧ pc l = pc f
theorem k_next (M : Mm) {n : Int} {pc : Nat → Int} (hn : M 71 10 = n ∧ n ≤ 16) (hp : ∀ f : Nat, (f : Int) < n → M 86 f = pc f ∧ (pc f = -6 ∨ 0 ≤ pc f)) (f : Int) (hf : 0 ≤ f ∧ f < n) : OK (fX5_next M f) (fun r => NXT n pc f.toNat r) := by
  unfold fX5_next
  refine ok_gd ⟨by omega, by omega⟩ (k_nextL M hn hp f hf _ _ (fun h => ok_some (Or.inl ⟨rfl, h⟩)) (fun l l1 l2 l3 l4 => ok_gd (by omega) ?_) 1000 (f + 1) (by omega) (by omega) (by omega) (fun h h1 h2 => by omega))
  rw [tn, (hp l l2).1, (hp f.toNat (by omega)).1]
  by_cases hg : pc f.toNat = -6
  · exact ok_f (by omega) (ok_some (Or.inl ⟨rfl, fun l' hl' => absurd hg (lng_ne hl'.2.2.2).2.1⟩))
  · have hnx : nx n pc f.toNat l := ⟨by omega, l2, l3, lng_eq (by omega) hg (fun h h1 h2 => l4 h (by omega) h2)⟩
    exact ok_if (fun q => ok_some (Or.inr ⟨l, rfl, hnx, q⟩)) (fun q => ok_some (Or.inl ⟨rfl, fun l' hl' => by rw [nx_uniq hl' hnx]; exact q⟩))
theorem k_leastAtL (M : Mm) {cn co : Nat → Int} (x : Int) (hx : 0 ≤ x ∧ x < 16) (h1 : M 85 x.toNat = cn x.toNat) (hc : 0 ≤ cn x.toNat ∧ cn x.toNat ≤ 20) (h3 : ∀ k : Nat, (k : Int) < cn x.toNat → M 83 (20 * x.toNat + k) = co (20 * x.toNat + k) ∧ okC 19296 (co (20 * x.toNat + k))) : ∀ (n : Nat) (v : Int), 0 ≤ v → v ≤ cn x.toNat → 20 < (n : Int) + v → OK (fX5_leastAt_L5 x M n (cpF co x.toNat v.toNat).1 v) (fun r => r = (cpF co x.toNat (cn x.toNat).toNat).1) := by
  intro n
  induction n with
  | zero => intro v h0 h1 h2; omega
  | succ n ih =>
    intro v h0 h4 h2
    unfold fX5_leastAt_L5
    rw [h1]
    refine ok_gd hx (ok_if (fun h => ok_some ?_) (fun h => ?_))
    · rw [show v = cn x.toNat by omega]
    · have ihv := ih (v + 1) (by omega) (by omega) (by omega)
      have e5 : (v + 1).toNat = v.toNat + 1 := by omega
      have el : cpF co x.toNat (v.toNat + 1) = if co (20 * x.toNat + v.toNat) = -6 then cpF co x.toNat v.toNat else if (cpF co x.toNat v.toNat).2 = -6 ∨ co (20 * x.toNat + v.toNat) < (cpF co x.toNat v.toNat).2 then ((v.toNat : Int), co (20 * x.toNat + v.toNat)) else cpF co x.toNat v.toNat := rfl
      rw [e5, el] at ihv
      have inr1 : inR (v + 1) := ⟨by omega, by omega⟩
      have hv := h3 v.toNat (by omega)
      refine ok_jn (ok_jn (ok_gd ⟨⟨by omega, by omega⟩, ⟨by omega, by omega⟩, by omega, by omega⟩ (ok_bnd (fun t ht => ?_))))
      rw [show (20 * x + v).toNat = 20 * x.toNat + v.toNat by omega, hv.1] at ht
      rw [← ht] at ihv hv
      have ok := hv.2
      unfold okC at ok
      refine ok_if (fun q => ok_gd inr1 ?_) (fun q => ?_)
      · rw [if_pos (by omega)] at ihv; exact ihv
      · rw [if_neg (by omega)] at ihv
        rcases cpF_spec co x.toNat v.toNat with ⟨a, -⟩ | ⟨i, i1, i2, i3⟩
        · rw [a] at ihv ⊢
          rw [if_pos (Or.inl rfl)] at ihv
          refine ok_jn (ok_t (by decide) (ok_gd inr1 ?_))
          rw [show ((v.toNat : Nat) : Int) = v by omega] at ihv
          exact ihv
        · rw [i2] at ihv ⊢
          dsimp only at ihv ⊢
          have hi := h3 i (by omega)
          refine ok_jn (ok_f (by omega) (ok_gd ⟨⟨by omega, by omega⟩, ⟨by omega, by omega⟩, by omega, by omega⟩ ?_))
          rw [show (20 * x + (i : Int)).toNat = 20 * x.toNat + i by omega, hi.1]
          refine ok_if (fun q2 => ok_gd inr1 ?_) (fun q2 => ok_gd inr1 ?_)
          · rw [if_neg (by rintro (h9 | h9); exact i3 h9; omega)] at ihv
            exact ihv
          · rw [if_pos (Or.inr (by omega)), show ((v.toNat : Nat) : Int) = v by omega] at ihv
            exact ihv
theorem k_leastAt (M : Mm) {cn co : Nat → Int} (x : Int) (hx : 0 ≤ x ∧ x < 16) (h1 : M 85 x.toNat = cn x.toNat) (hc : 0 ≤ cn x.toNat ∧ cn x.toNat ≤ 20) (h3 : ∀ k : Nat, (k : Int) < cn x.toNat → M 83 (20 * x.toNat + k) = co (20 * x.toNat + k) ∧ okC 19296 (co (20 * x.toNat + k))) : OK (fX5_leastAt M x) (fun r => r = (cpF co x.toNat (cn x.toNat).toNat).1) := by
  unfold fX5_leastAt
  exact k_leastAtL M x hx h1 hc h3 1000 0 (by omega) hc.1 (by omega)
theorem TS_pc {n : Int} {cn pc bf co bk : Nat → Int} (h : TS n cn pc bf co bk) {f : Nat} (hf : (f : Int) < n) : (cn f = 0 ∧ pc f = -6) ∨ (0 ≤ pc f ∧ pc f ≤ f ∧ cn f ≠ 0) := by
  obtain ⟨-, -, h1⟩ := h f hf
  rcases h1 with h1 | ⟨a, b, ⟨k, k1, -⟩, -⟩
  · exact Or.inl h1
  · exact Or.inr ⟨a, b, by omega⟩
theorem k_layL96 (M0 : Mm) {n : Int} {cn pc bf sp ap co bk ch de : Nat → Int} {S : Nat → Nat → Prop} (hn : M0 71 10 = n ∧ n ≤ 16) (hT : TS n cn pc bf co bk) (hQ : LQ M0 n cn pc bf sp ap co bk) (hS : ∀ f : Nat, (f : Int) < n → ST n cn pc bf co bk ch de S f) : ∀ (m : Nat) (v : Int) (M : Mm), -1 ≤ v → v < n → v + 1 < (m : Int) → (∀ a, a ≠ 88 → M a = M0 a) → (∀ f : Nat, v < (f : Int) → (f : Int) < n → pc f ≠ -6 → M 88 f = ch f) → OK (fX5_layAll_L96 m v M) (fun M' => (∀ a, a ≠ 88 → M' a = M0 a) ∧ ∀ f : Nat, (f : Int) < n → pc f ≠ -6 → M' 88 f = ch f) := by
  intro m
  induction m with
  | zero => intro v M h0 h1 h2; omega
  | succ m ih =>
    intro v M h0 h1 h2 hM h8
    unfold fX5_layAll_L96
    refine ok_if (fun h => ok_some ⟨hM, fun f hf hp => h8 f (by omega) hf hp⟩) (fun h => ?_)
    have inr1 : inR (v + -1) := ⟨by omega, by omega⟩
    obtain ⟨i, hi⟩ : ∃ i : Nat, v.toNat = i := ⟨_, rfl⟩
    have m86 := hM 86 (by decide)
    have m71 := hM 71 (by decide)
    have hTi1 := (hT i (by omega)).1
    have hTi2 := (hT i (by omega)).2.1
    have hpi := TS_pc hT (f := i) (by omega)
    refine ok_jnK (fun K12 => ∀ M1 : Mm, (∀ a, a ≠ 88 → M1 a = M0 a) → (∀ f : Nat, v + -1 < (f : Int) → (f : Int) < n → pc f ≠ -6 → M1 88 f = ch f) → OK (K12 v M1) (fun M' => (∀ a, a ≠ 88 → M' a = M0 a) ∧ ∀ f : Nat, (f : Int) < n → pc f ≠ -6 → M' 88 f = ch f)) (fun M1 g1 g2 => ok_gd inr1 (ih (v + -1) M1 (by omega) (by omega) (by omega) g1 g2)) (fun K12 hK12 => ?_)
    have hnx := k_next M (n := n) (pc := pc) (by rw [m71]; exact hn) (fun f hf => ⟨by rw [m86]; exact (hQ f hf).2.1, by have := TS_pc hT hf; omega⟩) v (by omega)
    rw [hi] at hnx
    refine ok_cal hnx (fun r14 h14 => ok_gd (by omega) ?_)
    rw [hi, m86, (hQ i (by omega)).2.1]
    refine ok_if (fun q => hK12 M hM (fun f f1 f2 f3 => ?_)) (fun q => ?_)
    · by_cases hfi : f = i
      · subst hfi; omega
      · exact h8 f (by omega) f2 f3
    have hpn : pc i ≠ -6 := by omega
    obtain ⟨hSE, -, -⟩ := (hS i (by omega)).2 hpn
    refine ok_jnK (fun K19 => OK (K19 v (ch i) v M) (fun M' => (∀ a, a ≠ 88 → M' a = M0 a) ∧ ∀ f : Nat, (f : Int) < n → pc f ≠ -6 → M' 88 f = ch f)) (ok_gd (by omega) (ok_bnd (fun M20 e20 => hK12 M20 (fun a ha => by rw [e20, up_row ha]; exact hM a ha) (fun f f1 f2 f3 => ?_)))) (fun K19 hK19 => ?_)
    · rw [e20, hi, up_at]
      by_cases hfi : f = i
      · rw [if_pos hfi, hfi]
      · rw [if_neg hfi]; exact h8 f (by omega) f2 f3
    rcases h14 with ⟨e, hno⟩ | ⟨l, e, hl, hpl⟩
    · refine ok_t (by omega) ?_
      have hla := k_leastAt M (cn := cn) (co := co) v (by omega) (by rw [hi, hM 85 (by decide)]; exact (hQ i (by omega)).1) (by rw [hi]; exact hTi1) (by
        rw [hi, hM 83 (by decide)]
        exact fun k hk => ⟨((hQ i (by omega)).2.2.2 k hk).2.2.1, hTi2 k hk⟩)
      rw [hi] at hla
      refine ok_cal hla (fun r22 h22 => ?_)
      rcases hSE with ⟨l, a, b, -, -⟩ | ⟨-, b, -⟩
      · rcases TS_nx hT a with c | c
        · exact absurd c.1 (hno l a)
        · omega
      · rw [h22, ← b]; exact hK19
    · have hbl : bf l = (i : Int) := by
        rcases TS_nx hT hl with c | c
        · exact c.2.1
        · omega
      have hln : pc l ≠ -6 := hl.2.2.1
      have hl1 := hl.1
      have hl2 := hl.2.1
      obtain ⟨-, hvl, -⟩ := (hS l hl.2.1).2 hln
      have h8l := h8 l (by omega) hl.2.1 hln
      have hTl := (hT l hl.2.1).1
      have v1 := hvl.1
      refine ok_f (by omega) ?_
      rw [show r14.toNat = l by omega, h8l, e]
      refine ok_gd ⟨⟨by omega, by omega⟩, by omega, ⟨by omega, by omega⟩, by omega, by omega⟩ ?_
      rw [show (20 * (l : Int) + ch l).toNat = 20 * l + (ch l).toNat by omega, hM 84 (by decide), ((hQ l hl.2.1).2.2.2 (ch l).toNat (by omega)).2.2.2]
      rcases hSE with ⟨l', a, b, c, -⟩ | ⟨b, -⟩
      · rw [nx_uniq a hl] at c
        rw [← c]; exact hK19
      · exact absurd hbl (b l hl)
theorem k_layAll (M : Mm) (hN : WN (mB M)) (hR : WRu (mB M)) (hW : WF (mB M)) {G : Nat → Nat → Int} (hG : DM (nC (mB M)) (eg (mB M)) G) {cn pc bf sp ap co bk ch de : Nat → Int} {S : Nat → Nat → Prop} (hT : TR (mB M) G cn pc bf sp ap co bk (nF (mB M))) (hS : ∀ f : Nat, (f : Int) < nF (mB M) → ST (nF (mB M)) cn pc bf co bk ch de S f) : OK (fX5_layAll M) (fun M' => offA M M' ∧ farOf (nC (mB M)) G (M' 80) ∧ LQ M' (nF (mB M)) cn pc bf sp ap co bk ∧ (∀ f : Nat, (f : Int) < nF (mB M) → pc f ≠ -6 → M' 88 f = ch f) ∧ M' 71 20 = pcs pc (nF (mB M)).toNat) := by
  unfold fX5_layAll
  refine ok_cal (k_layFar M hN hG) (fun M1 h1 => ok_bnd (fun M2 e2 => ?_))
  have o2 : ∀ a, a ≠ 71 → M2 a = M1 a := fun a ha => by rw [e2, up_row ha]
  have O2 : offA M M2 := ⟨fun a a1 a2 => by rw [o2 a a1]; exact h1.1 a (by omega), fun j hj => by rw [e2, up_ne hj, h1.1 71 (by decide)]⟩
  have F16 := hW.1
  refine k_layL14 M hN hR hW hG _ _ (fun M6 O6 hF6 hT6 hp6 => ?_) 1000 (-6) 0 M2 (by omega) F16.1 (by omega) O2 (by rw [o2 80 (by decide)]; exact h1.2) (fun f hf => by omega) rfl (by rw [e2, up_eq]; rfl)
  have e10 : M6 71 10 = nF (mB M) := O6.2 10 (by decide)
  rw [e10]
  have hU := fun f hf => TR_uniq hN hR hT hT6 (f + 1) f (Nat.lt_succ_self f) hf
  have hQ : LQ M6 (nF (mB M)) cn pc bf sp ap co bk := fun f hf => hU f hf
  refine ok_gd ⟨by omega, by omega⟩ (ok_bnd (fun t ht => ?_))
  refine ok_mono (k_layL96 M6 ⟨e10, F16.2⟩ (TR_TS hN hR hW hG hT (Int.le_refl _)) hQ hS 1000 t M6 (by omega) (by omega) (by omega) (fun _ _ => rfl) (fun f f1 f2 => by omega)) (fun M' h' => ?_)
  obtain ⟨a, b⟩ := h'
  refine ⟨offA_tr O6 (offA_of (fun x hx => a x (by omega))), by rw [a 80 (by decide)]; exact hF6, fun f hf => ?_, b, ?_⟩
  · rw [a 85 (by decide), a 86 (by decide), a 87 (by decide), a 81 (by decide), a 82 (by decide), a 83 (by decide), a 84 (by decide)]; exact hQ f hf
  · rw [a 71 (by decide), hp6]
    exact (pcs_congr (fun i hi => (hQ i (by omega)).2.1)).2
