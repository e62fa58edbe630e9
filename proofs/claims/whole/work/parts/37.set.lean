/-! what is best and what is decided: the class's helpers -/
theorem k_hasCandidate (b : Nat) (M : Mm) (x y : Int) (hn : M (b + 11) 2 ≤ 16) : OK (fX3_hasCandidate b M x y) (fun r => yes r ((0 ≤ x ∧ x < M (b + 11) 2) ∧ 0 ≤ y ∧ y < M (b + 14) x.toNat)) := by
  unfold fX3_hasCandidate
  refine ok_jn (ok_cal (k_hasFix b M x) (fun r h => ?_))
  refine ok_if (fun q => ok_some (Or.inr ⟨rfl, fun h2 => yes_f h q h2.1⟩)) (fun q => ?_)
  have h2 := yes_t h q
  refine ok_if (fun q2 => ok_some (Or.inr ⟨rfl, fun h3 => by omega⟩)) (fun q2 => ok_gd (by omega) (ok_if (fun q3 => ok_some (Or.inr ⟨rfl, fun h3 => by omega⟩)) (fun q3 => ok_some (Or.inl ⟨rfl, h2, by omega, by omega⟩))))
theorem k_backOf (b : Nat) (M : Mm) (x y : Int) (hn : M (b + 11) 2 ≤ 16) (hx : 0 ≤ x ∧ x < M (b + 11) 2) (hy : 0 ≤ y ∧ y < M (b + 14) x.toNat) (hc : M (b + 14) x.toNat ≤ 20) : OK (fX3_backOf b M x y) (fun r => r = M (b + 20) (20 * x.toNat + y.toNat)) := by
  unfold fX3_backOf
  refine ok_cal (k_hasCandidate b M x y hn) (fun r h => ok_f (fun q => yes_f h q ⟨hx, hy⟩) ?_)
  refine ok_cal (k_slot M (f := x) (k := y) (by omega) (by omega)) (fun r2 h2 => ok_gd h2.2 (ok_some ?_))
  rw [show r2.toNat = 20 * x.toNat + y.toNat by omega]
/-- the first that is the least -/
def cpF (co : Nat → Int) (f : Nat) : Nat → Int × Int
  | 0 => (-6, -6)
  | k + 1 => if co (20 * f + k) = -6 then cpF co f k else if (cpF co f k).2 = -6 ∨ co (20 * f + k) < (cpF co f k).2 then ((k : Int), co (20 * f + k)) else cpF co f k
theorem cpF_spec (co : Nat → Int) (f : Nat) : ∀ n : Nat, (cpF co f n = (-6, -6) ∧ ∀ k, k < n → co (20 * f + k) = -6) ∨ ∃ i : Nat, i < n ∧ cpF co f n = ((i : Int), co (20 * f + i)) ∧ co (20 * f + i) ≠ -6
  | 0 => Or.inl ⟨rfl, fun k hk => by omega⟩
  | n + 1 => by
    have ih := cpF_spec co f n
    unfold cpF
    split
    · rename_i h
      rcases ih with ⟨a, c⟩ | ⟨i, a, c⟩
      · refine Or.inl ⟨a, fun k hk => ?_⟩
        by_cases hkn : k = n
        · rw [hkn]; exact h
        · exact c k (by omega)
      · exact Or.inr ⟨i, by omega, c⟩
    · rename_i h
      split
      · exact Or.inr ⟨n, by omega, rfl, h⟩
      · rename_i h2
        rcases ih with ⟨a, c⟩ | ⟨i, a, c⟩
        · rw [a] at h2; exact absurd (Or.inl rfl) h2
        · exact Or.inr ⟨i, by omega, c⟩
theorem k_cheapestL (b : Nat) (M : Mm) (x : Int) (hx : 0 ≤ x ∧ x < 16) (hc : 0 ≤ M (b + 14) x.toNat ∧ M (b + 14) x.toNat ≤ 20) : ∀ (n : Nat) (v : Int), 0 ≤ v → v ≤ M (b + 14) x.toNat → 20 < (n : Int) + v → OK (fX3_cheapest_L9 b x M n (cpF (M (b + 19)) x.toNat v.toNat).1 (cpF (M (b + 19)) x.toNat v.toNat).2 v) (fun r => r = (cpF (M (b + 19)) x.toNat (M (b + 14) x.toNat).toNat).1) := by
  intro n
  induction n with
  | zero => intro v h0 h1 h2; omega
  | succ n ih =>
    intro v h0 h1 h2
    unfold fX3_cheapest_L9
    refine ok_gd hx (ok_if (fun h => ok_some ?_) (fun h => ?_))
    · rw [show v = M (b + 14) x.toNat by omega]
    · have ihv := ih (v + 1) (by omega) (by omega) (by omega)
      have e5 : (v + 1).toNat = v.toNat + 1 := by omega
      have el : cpF (M (b + 19)) x.toNat (v.toNat + 1) = if M (b + 19) (20 * x.toNat + v.toNat) = -6 then cpF (M (b + 19)) x.toNat v.toNat else if (cpF (M (b + 19)) x.toNat v.toNat).2 = -6 ∨ M (b + 19) (20 * x.toNat + v.toNat) < (cpF (M (b + 19)) x.toNat v.toNat).2 then ((v.toNat : Int), M (b + 19) (20 * x.toNat + v.toNat)) else cpF (M (b + 19)) x.toNat v.toNat := rfl
      rw [e5, el] at ihv
      refine ok_jn (ok_cal (k_slot M (f := x) (k := v) hx (by omega)) (fun r9 h9 => ok_gd h9.2 (ok_bnd (fun t ht => ?_))))
      rw [show r9.toNat = 20 * x.toNat + v.toNat by omega] at ht
      rw [← ht] at ihv
      have inr1 : inR (v + 1) := ⟨by omega, by omega⟩
      refine ok_if (fun q => ok_gd inr1 ?_) (fun q => ok_jn (ok_if (fun q2 => ok_gd inr1 ?_) (fun q2 => ok_if (fun q3 => ok_gd inr1 ?_) (fun q3 => ok_gd inr1 ?_))))
      · rw [if_pos q] at ihv; exact ihv
      · rw [if_neg q, if_pos (Or.inl q2), show ((v.toNat : Nat) : Int) = v by omega] at ihv; exact ihv
      · rw [if_neg q, if_neg (by omega)] at ihv; exact ihv
      · rw [if_neg q, if_pos (Or.inr (by omega)), show ((v.toNat : Nat) : Int) = v by omega] at ihv; exact ihv
theorem k_cheapest (b : Nat) (M : Mm) (x : Int) (hx : 0 ≤ x ∧ x < 16) (hc : 0 ≤ M (b + 14) x.toNat ∧ M (b + 14) x.toNat ≤ 20) : OK (fX3_cheapest b M x) (fun r => r = (cpF (M (b + 19)) x.toNat (M (b + 14) x.toNat).toNat).1) := by
  unfold fX3_cheapest
  exact k_cheapestL b M x hx hc 1000 0 (by omega) hc.1 (by omega)
/-- a number as a set of bits -/
def BT (v : Int) (S : Nat → Prop) : Prop := ∃ B : Nat, B < 2 ^ 20 ∧ v = (B : Int) ∧ ∀ c : Nat, B.testBit c = true ↔ S c
theorem BT_0 {S : Nat → Prop} (h : ∀ c, ¬ S c) : BT 0 S := ⟨0, by omega, rfl, fun c => by rw [Nat.zero_testBit]; exact ⟨fun h3 => Bool.noConfusion h3, fun h2 => absurd h2 (h c)⟩⟩
theorem BT_iff {v : Int} {S T : Nat → Prop} (h : BT v S) (h2 : ∀ c, S c ↔ T c) : BT v T := by
  obtain ⟨B, h3, h4, h5⟩ := h
  exact ⟨B, h3, h4, fun c => (h5 c).trans (h2 c)⟩
theorem BT_add {v k : Int} {S : Nat → Prop} (h : BT v S) (hk : 0 ≤ k ∧ k < 20) : BT (iorI v (ishlI 1 k)) (fun c => S c ∨ (c : Int) = k) := by
  obtain ⟨B, h3, rfl, h5⟩ := h
  obtain ⟨m, m1, m2, m3⟩ := b_add h3 hk
  exact ⟨m, m1, m2, fun c => (m3 c).trans ⟨fun h => h.elim (fun h => Or.inl ((h5 c).mp h)) Or.inr, fun h => h.elim (fun h => Or.inl ((h5 c).mpr h)) Or.inr⟩⟩
theorem BT_bit {v k : Int} {S : Nat → Prop} (h : BT v S) (hk : 0 ≤ k ∧ k < 20) : iandI (ishrI v k) 1 = 1 ↔ S k.toNat := by
  obtain ⟨B, h3, rfl, h5⟩ := h
  have := b_bit (n := B) (k := k.toNat) (by omega) (by omega)
  rw [show ((k.toNat : Nat) : Int) = k by omega] at this
  exact this.trans (h5 _)
theorem BT_one (M : Mm) {v : Int} {S : Nat → Prop} (h : BT v S) : OK (fJ6_bitCount M v) (fun r => r = 1 ↔ ∃ c, S c ∧ ∀ c', S c' → c' = c) := by
  obtain ⟨B, h3, rfl, h5⟩ := h
  exact k_one M h3 h5
theorem k_aliveL (b : Nat) (M : Mm) (x : Int) (hx : 0 ≤ x ∧ x < 16) (hc : 0 ≤ M (b + 14) x.toNat ∧ M (b + 14) x.toNat ≤ 20) : ∀ (n : Nat) (w v : Int), 0 ≤ v → v ≤ M (b + 14) x.toNat → 20 < (n : Int) + v → BT w (fun c => (c : Int) < v ∧ M (b + 19) (20 * x.toNat + c) ≠ -6) → OK (fX3_alive_L4 b x M n w v) (fun r => BT r (fun c => (c : Int) < M (b + 14) x.toNat ∧ M (b + 19) (20 * x.toNat + c) ≠ -6)) := by
  intro n
  induction n with
  | zero => intro w v h0 h1 h2; omega
  | succ n ih =>
    intro w v h0 h1 h2 hw
    unfold fX3_alive_L4
    refine ok_gd hx (ok_if (fun h => ok_some ?_) (fun h => ?_))
    · rw [show v = M (b + 14) x.toNat by omega] at hw; exact hw
    · have ihv := fun w => ih w (v + 1) (by omega) (by omega) (by omega)
      have inr1 : inR (v + 1) := ⟨by omega, by omega⟩
      refine ok_jn (ok_cal (k_slot M (f := x) (k := v) hx (by omega)) (fun r9 h9 => ok_gd h9.2 ?_))
      rw [show r9.toNat = 20 * x.toNat + v.toNat by omega]
      refine ok_if (fun q => ok_gd inr1 (ihv w (BT_iff hw (fun c => ?_)))) (fun q => ok_bnd (fun t ht => ok_gd inr1 (ihv t ?_)))
      · constructor
        · rintro ⟨a, c⟩; exact ⟨by omega, c⟩
        · rintro ⟨a, c2⟩
          refine ⟨?_, c2⟩
          have : c ≠ v.toNat := fun h9 => c2 (by rw [h9]; exact q)
          omega
      · rw [ht]
        refine BT_iff (BT_add hw (by omega)) (fun c => ?_)
        constructor
        · rintro (⟨a, c⟩ | a)
          · exact ⟨by omega, c⟩
          · exact ⟨by omega, by rw [show c = v.toNat by omega]; exact q⟩
        · rintro ⟨a, c2⟩
          by_cases h9 : (c : Int) = v
          · exact Or.inr h9
          · exact Or.inl ⟨by omega, c2⟩
theorem k_alive (b : Nat) (M : Mm) (x : Int) (hx : 0 ≤ x ∧ x < 16) (hc : 0 ≤ M (b + 14) x.toNat ∧ M (b + 14) x.toNat ≤ 20) : OK (fX3_alive b M x) (fun r => BT r (fun c => (c : Int) < M (b + 14) x.toNat ∧ M (b + 19) (20 * x.toNat + c) ≠ -6)) := by
  unfold fX3_alive
  exact k_aliveL b M x hx hc 1000 0 0 (by omega) hc.1 (by omega) (BT_0 (fun c h => by omega))
theorem k_backsOfL (b : Nat) (M : Mm) (x y : Int) (S : Nat → Prop) (hx : 0 ≤ x ∧ x < 16) (hc : 0 ≤ M (b + 14) x.toNat ∧ M (b + 14) x.toNat ≤ 20) (hy : BT y S) (hS : ∀ k : Nat, (k : Int) < M (b + 14) x.toNat → S k → 0 ≤ M (b + 20) (20 * x.toNat + k) ∧ M (b + 20) (20 * x.toNat + k) < 20) : ∀ (n : Nat) (w v : Int), 0 ≤ v → v ≤ M (b + 14) x.toNat → 20 < (n : Int) + v → BT w (fun c => ∃ k : Nat, (k : Int) < v ∧ S k ∧ M (b + 20) (20 * x.toNat + k) = (c : Int)) → OK (fX3_backsOf_L5 b x y M n w v) (fun r => BT r (fun c => ∃ k : Nat, (k : Int) < M (b + 14) x.toNat ∧ S k ∧ M (b + 20) (20 * x.toNat + k) = (c : Int))) := by
  intro n
  induction n with
  | zero => intro w v h0 h1 h2; omega
  | succ n ih =>
    intro w v h0 h1 h2 hw
    unfold fX3_backsOf_L5
    refine ok_gd hx (ok_if (fun h => ok_some ?_) (fun h => ?_))
    · rw [show v = M (b + 14) x.toNat by omega] at hw; exact hw
    · have ihv := fun w => ih w (v + 1) (by omega) (by omega) (by omega)
      have inr1 : inR (v + 1) := ⟨by omega, by omega⟩
      have hb := BT_bit hy (k := v) (by omega)
      have hSv := hS v.toNat (by omega)
      refine ok_jn (ok_if (fun q => ?_) (fun q => ok_gd inr1 (ihv w (BT_iff hw (fun c => ?_)))))
      · have sv := hb.mp q
        have bv := hSv sv
        refine ok_cal (k_slot M (f := x) (k := v) hx (by omega)) (fun r9 h9 => ok_gd h9.2 ?_)
        rw [show r9.toNat = 20 * x.toNat + v.toNat by omega]
        refine ok_f (by omega) (ok_cal (k_slot M (f := x) (k := v) hx (by omega)) (fun r8 h8 => ok_gd h8.2 (ok_bnd (fun t ht => ok_gd inr1 (ihv t ?_)))))
        rw [show r8.toNat = 20 * x.toNat + v.toNat by omega] at ht
        rw [ht]
        refine BT_iff (BT_add hw bv) (fun c => ?_)
        constructor
        · rintro (⟨k, a, c2⟩ | a)
          · exact ⟨k, by omega, c2⟩
          · exact ⟨v.toNat, by omega, sv, a.symm⟩
        · rintro ⟨k, a, c2, c3⟩
          by_cases h9 : (k : Int) = v
          · refine Or.inr ?_
            rw [show v.toNat = k by omega]; exact c3.symm
          · exact Or.inl ⟨k, by omega, c2, c3⟩
      · constructor
        · rintro ⟨k, a, c2⟩; exact ⟨k, by omega, c2⟩
        · rintro ⟨k, a, c2, c3⟩
          refine ⟨k, ?_, c2, c3⟩
          have : k ≠ v.toNat := fun h9 => q (hb.mpr (by rw [← h9]; exact c2))
          omega
theorem k_backsOf (b : Nat) (M : Mm) (x y : Int) (S : Nat → Prop) (hx : 0 ≤ x ∧ x < 16) (hc : 0 ≤ M (b + 14) x.toNat ∧ M (b + 14) x.toNat ≤ 20) (hy : BT y S) (hS : ∀ k : Nat, (k : Int) < M (b + 14) x.toNat → S k → 0 ≤ M (b + 20) (20 * x.toNat + k) ∧ M (b + 20) (20 * x.toNat + k) < 20) : OK (fX3_backsOf b M x y) (fun r => BT r (fun c => ∃ k : Nat, (k : Int) < M (b + 14) x.toNat ∧ S k ∧ M (b + 20) (20 * x.toNat + k) = (c : Int))) := by
  unfold fX3_backsOf
  exact k_backsOfL b M x y S hx hc hy hS 1000 0 0 (by omega) hc.1 (by omega) (BT_0 (fun c h => by obtain ⟨k, h, -⟩ := h; omega))
/-! tables, as far as best and decided need them -/
def TS (n : Int) (cn pc bf co bk : Nat → Int) : Prop := ∀ f : Nat, (f : Int) < n → (0 ≤ cn f ∧ cn f ≤ 20) ∧ (∀ k : Nat, (k : Int) < cn f → okC 19296 (co (20 * f + k))) ∧ ((cn f = 0 ∧ pc f = -6) ∨ (0 ≤ pc f ∧ pc f ≤ f ∧ (∃ k : Nat, (k : Int) < cn f ∧ co (20 * f + k) ≠ -6) ∧ ((lng pc f = -6 ∧ bf f = -6 ∧ pc f = 0) ∨ ∃ g : Nat, g < f ∧ lng pc f = (g : Int) ∧ ((pc f = pc g ∧ bf f = (g : Int) ∧ ∀ k : Nat, (k : Int) < cn f → co (20 * f + k) ≠ -6 → ∃ i : Nat, (i : Int) < cn g ∧ bk (20 * f + k) = (i : Int) ∧ co (20 * g + i) ≠ -6) ∨ (pc f = pc g + 1 ∧ bf f = -6)))))
theorem TR_TS {d : Dt} (hN : WN d) (hR : WRu d) (hW : WF d) {G : Nat → Nat → Int} (hG : DM (nC d) (eg d) G) {cn pc bf sp ap co bk : Nat → Int} {n : Int} (h : TR d G cn pc bf sp ap co bk n) (hn : n ≤ nF d) : TS n cn pc bf co bk := by
  intro f hf
  have c1 := TR_cn hN h hf
  have c2 := TR_pcf h hf
  refine ⟨c1, fun k hk => TR_cof hN hR hW hG h hn hf hk, ?_⟩
  rcases c2 with c2 | ⟨c2, c3, c4⟩
  · exact Or.inl c2
  · have hB : TB d cn ap co bk f → ∃ k : Nat, (k : Int) < cn f ∧ co (20 * f + k) ≠ -6 := fun hb => by
      refine ⟨0, by omega, ?_⟩
      obtain ⟨r, -, -, -, -, -, -, ha⟩ := CD_k hN hR (h f hf).1 (k := 0) (by omega)
      have mb := mul_b hR.2.1 ha
      rw [(hb 0 (by omega)).1]
      omega
    refine Or.inr ⟨c3, c4, ?_⟩
    rcases (h f hf).2 with ⟨a, b⟩ | ⟨a, b, c, e, g⟩ | ⟨a, g, b, c, ⟨k0, k1, k2⟩, i, j, l⟩ | ⟨a, g, b, c, e, i, j, l⟩
    · omega
    · exact ⟨hB g, Or.inl ⟨b, e, c⟩⟩
    · have key : ∀ k : Nat, (k : Int) < cn f → (jrT d G cn sp co f g k = (-6, -6) ∧ co (20 * f + k) = -6) ∨ ((jrT d G cn sp co f g k).1 ≠ -6 ∧ co (20 * f + k) ≠ -6 ∧ ∃ i : Nat, (i : Int) < cn g ∧ bk (20 * f + k) = (i : Int) ∧ co (20 * g + i) ≠ -6) := by
        intro k hk
        have cg := TR_cn hN h (f := g) (by omega)
        have st := stF_b hW (f := f) (g := g) (by omega) (by omega)
        obtain ⟨r, -, -, -, -, -, hs, ha⟩ := CD_k hN hR (h f hf).1 hk
        have jb := jcs_b hN hR hG (sp := sp) (co := co) (g := g) (s := sp (20 * f + k)) (st := stF d f g) (B := 19296) hs st (cn g).toNat (fun i hi => by
          obtain ⟨-, -, -, -, -, -, hs2, -⟩ := CD_k hN hR (h g (by omega)).1 (k := i) (by omega)
          exact ⟨hs2, TR_cof hN hR hW hG h hn (by omega) (by omega)⟩)
        have lk := l k hk
        have cb := jco_b hR (p := jrT d G cn sp co f g k) (a := ap (20 * f + k)) (B := 19296 + 1134) ha (by
          unfold jrT
          rcases jb with e | e
          · rw [e]; exact Or.inl rfl
          · exact Or.inr e.1)
        rw [lk.1, lk.2]
        rcases jb with e | ⟨e, i, i1, i2, i3⟩
        · have e' : jrT d G cn sp co f g k = (-6, -6) := e
          rw [e'] at cb ⊢
          refine Or.inl ⟨rfl, ?_⟩
          rcases cb with cb | cb
          · exact cb.2
          · exact absurd rfl cb.1
        · have e1 : (jrT d G cn sp co f g k).1 ≠ -6 := by unfold jrT; omega
          refine Or.inr ⟨e1, by omega, i, by omega, i2, i3⟩
      refine ⟨⟨k0, k1, ?_⟩, Or.inr ⟨g, b, c, Or.inl ⟨i, j, fun k hk hk2 => ?_⟩⟩⟩
      · rcases key k0 k1 with ⟨e, -⟩ | ⟨-, e, -⟩
        · rw [e] at k2; exact absurd rfl k2
        · exact e
      · rcases key k hk with ⟨-, e⟩ | ⟨-, -, e⟩
        · exact absurd e hk2
        · exact e
    · exact ⟨hB l, Or.inr ⟨g, b, c, Or.inr ⟨i, j⟩⟩⟩
