/-! bits -/
theorem b_of {n : Nat} : Int32.ofInt (n : Int) = nI n := rfl
theorem b_to {x : Int32} {m : Nat} (h : x.toBitVec.toNat = m) (hm : m < 2 ^ 31) : x.toInt = (m : Int) := by
  rw [← Int32.toInt_toBitVec, BitVec.toInt_eq_toNat_of_lt (by rw [h]; omega), h]
theorem b_or {n m : Nat} (hn : n < 2 ^ 31) (hm : m < 2 ^ 31) : iorI n m = ((n ||| m : Nat) : Int) := by
  unfold iorI b2
  rw [b_of, b_of]
  refine b_to ?_ (Nat.or_lt_two_pow hn hm)
  rw [Int32.toBitVec_or, BitVec.toNat_or, pk_tn (by omega), pk_tn (by omega)]
theorem b_and {n m : Nat} (hn : n < 2 ^ 31) (hm : m < 2 ^ 31) : iandI n m = ((n &&& m : Nat) : Int) := by
  unfold iandI b2
  rw [b_of, b_of]
  refine b_to ?_ (Nat.and_lt_two_pow _ hm)
  rw [Int32.toBitVec_and, BitVec.toNat_and, pk_tn (by omega), pk_tn (by omega)]
theorem b_nI {n : Nat} (hn : n < 2 ^ 31) : (nI n).toInt = (n : Int) := b_to (pk_tn (by omega)) hn
theorem b_shl : ∀ k : Fin 20, ishlI 1 (k.val : Int) = ((2 ^ k.val : Nat) : Int) := by decide
theorem b_shr0 : ∀ k : Fin 20, (((nI k.val) &&& 31).toBitVec.smod 32).toNat = k.val := by decide
theorem b_shr {n k : Nat} (hn : n < 2 ^ 31) (hk : k < 20) : ishrI n k = ((n / 2 ^ k : Nat) : Int) := by
  unfold ishrI b2
  rw [b_of, b_of]
  show (nI n >>> (nI k &&& 31)).toInt = _
  rw [pk_shrN hn (nI k &&& 31) k (b_shr0 ⟨k, hk⟩)]
  exact b_nI (Nat.lt_of_le_of_lt (Nat.div_le_self _ _) hn)
theorem b_ushr {n : Nat} (hn : n < 2 ^ 31) {c : Nat} (hs : (((nI c).toUInt32 &&& Int32.toUInt32 31).toBitVec % 32).toNat = c) : iushrI n c = ((n / 2 ^ c : Nat) : Int) := by
  unfold iushrI b2
  rw [b_of, b_of]
  show ((nI n).toUInt32 >>> ((nI c).toUInt32 &&& Int32.toUInt32 31)).toInt32.toInt = _
  rw [pk_ushrN (by omega) _ c hs]
  exact b_nI (Nat.lt_of_le_of_lt (Nat.div_le_self _ _) hn)
theorem b_bit {n k : Nat} (hn : n < 2 ^ 31) (hk : k < 20) : iandI (ishrI n k) 1 = 1 ↔ n.testBit k = true := by
  rw [b_shr hn hk]
  have h := b_and (n := n / 2 ^ k) (m := 1) (Nat.lt_of_le_of_lt (Nat.div_le_self _ _) hn) (by omega)
  have h2 : iandI ((n / 2 ^ k : Nat) : Int) 1 = ((n / 2 ^ k &&& 1 : Nat) : Int) := h
  rw [h2, Nat.and_one_is_mod, Nat.testBit_eq_decide_div_mod_eq, decide_eq_true_eq]
  omega
theorem b_add {n : Nat} (hn : n < 2 ^ 20) {k : Int} (hk : 0 ≤ k ∧ k < 20) : ∃ m : Nat, m < 2 ^ 20 ∧ iorI n (ishlI 1 k) = (m : Int) ∧ ∀ c : Nat, m.testBit c = true ↔ (n.testBit c = true ∨ (c : Int) = k) := by
  have e : ishlI 1 k = ((2 ^ k.toNat : Nat) : Int) := by
    have := b_shl ⟨k.toNat, by omega⟩
    rwa [show ((k.toNat : Nat) : Int) = k by omega] at this
  have l2 : 2 ^ k.toNat < 2 ^ 20 := Nat.pow_lt_pow_right (by omega) (by omega)
  refine ⟨n ||| 2 ^ k.toNat, Nat.or_lt_two_pow hn l2, ?_, fun c => ?_⟩
  · rw [e]; exact b_or (by omega) (by omega)
  · rw [Nat.testBit_or, Nat.testBit_two_pow, Bool.or_eq_true, decide_eq_true_eq]
    exact ⟨fun h => h.elim Or.inl (fun h => Or.inr (by omega)), fun h => h.elim Or.inl (fun h => Or.inr (by omega))⟩
/-! how many -/
theorem l_split (k x y : Nat) : x &&& y = (x % 2 ^ k &&& y % 2 ^ k) + 2 ^ k * (x / 2 ^ k &&& y / 2 ^ k) := by
  rw [← Nat.and_mod_two_pow, ← Nat.and_div_two_pow]
  exact (Nat.mod_add_div _ _).symm
def hA (a : Nat) : Nat := a / 2 &&& 5
theorem hA_1 : ∀ a : Fin 16, ∀ c : Fin 2, (a.val / 2 + 8 * c.val) &&& 5 = hA a.val := by decide
theorem hA_2 : ∀ a : Fin 16, (a.val / 2) &&& 21845 = hA a.val := by decide
theorem hA_s {a b m : Nat} (ha : a < 16) : (a + 16 * b) / 2 &&& (5 + 16 * m) = hA a + 16 * (b / 2 &&& m) := by
  rw [l_split 4, show (a + 16 * b) / 2 % 2 ^ 4 = a / 2 + 8 * (b % 2) by omega, show (5 + 16 * m) % 2 ^ 4 = 5 by omega, show (a + 16 * b) / 2 / 2 ^ 4 = b / 2 by omega, show (5 + 16 * m) / 2 ^ 4 = m by omega]
  rw [hA_1 ⟨a, ha⟩ ⟨b % 2, by omega⟩]
def dg (a0 a1 a2 a3 a4 : Nat) : Nat := a0 + 16 * (a1 + 16 * (a2 + 16 * (a3 + 16 * a4)))
theorem hA_d {a0 a1 a2 a3 a4 : Nat} (h0 : a0 < 16) (h1 : a1 < 16) (h2 : a2 < 16) (h3 : a3 < 16) (h4 : a4 < 16) : dg a0 a1 a2 a3 a4 / 2 &&& 1431655765 = dg (hA a0) (hA a1) (hA a2) (hA a3) (hA a4) := by
  unfold dg
  rw [show 1431655765 = 5 + 16 * (5 + 16 * (5 + 16 * (5 + 16 * 21845))) from rfl, hA_s h0, hA_s h1, hA_s h2, hA_s h3, hA_2 ⟨a4, h4⟩]
def hB (a : Nat) : Nat := a &&& 3
theorem hB_2 : ∀ a : Fin 16, a.val &&& 13107 = hB a.val := by decide
theorem hB_s {a b m : Nat} (ha : a < 16) : (a + 16 * b) &&& (3 + 16 * m) = hB a + 16 * (b &&& m) := by
  rw [l_split 4, show (a + 16 * b) % 2 ^ 4 = a by omega, show (3 + 16 * m) % 2 ^ 4 = 3 by omega, show (a + 16 * b) / 2 ^ 4 = b by omega, show (3 + 16 * m) / 2 ^ 4 = m by omega]
  rfl
theorem hB_d {a0 a1 a2 a3 a4 : Nat} (h0 : a0 < 16) (h1 : a1 < 16) (h2 : a2 < 16) (h3 : a3 < 16) (h4 : a4 < 16) : dg a0 a1 a2 a3 a4 &&& 858993459 = dg (hB a0) (hB a1) (hB a2) (hB a3) (hB a4) := by
  unfold dg
  rw [show 858993459 = 3 + 16 * (3 + 16 * (3 + 16 * (3 + 16 * 13107))) from rfl, hB_s h0, hB_s h1, hB_s h2, hB_s h3, hB_2 ⟨a4, h4⟩]
def hC (a : Nat) : Nat := a / 4 &&& 3
theorem hC_1 : ∀ a : Fin 16, ∀ c : Fin 4, (a.val / 4 + 4 * c.val) &&& 3 = hC a.val := by decide
theorem hC_2 : ∀ a : Fin 16, (a.val / 4) &&& 13107 = hC a.val := by decide
theorem hC_s {a b m : Nat} (ha : a < 16) : (a + 16 * b) / 4 &&& (3 + 16 * m) = hC a + 16 * (b / 4 &&& m) := by
  rw [l_split 4, show (a + 16 * b) / 4 % 2 ^ 4 = a / 4 + 4 * (b % 4) by omega, show (3 + 16 * m) % 2 ^ 4 = 3 by omega, show (a + 16 * b) / 4 / 2 ^ 4 = b / 4 by omega, show (3 + 16 * m) / 2 ^ 4 = m by omega]
  rw [hC_1 ⟨a, ha⟩ ⟨b % 4, by omega⟩]
theorem hC_d {a0 a1 a2 a3 a4 : Nat} (h0 : a0 < 16) (h1 : a1 < 16) (h2 : a2 < 16) (h3 : a3 < 16) (h4 : a4 < 16) : dg a0 a1 a2 a3 a4 / 4 &&& 858993459 = dg (hC a0) (hC a1) (hC a2) (hC a3) (hC a4) := by
  unfold dg
  rw [show 858993459 = 3 + 16 * (3 + 16 * (3 + 16 * (3 + 16 * 13107))) from rfl, hC_s h0, hC_s h1, hC_s h2, hC_s h3, hC_2 ⟨a4, h4⟩]
theorem hD_s {a b m : Nat} (ha : a < 16) : (a + 16 * b) &&& (15 + 16 * m) = a + 16 * (b &&& m) := by
  rw [l_split 4, show (a + 16 * b) % 2 ^ 4 = a by omega, show (15 + 16 * m) % 2 ^ 4 = 15 by omega, show (a + 16 * b) / 2 ^ 4 = b by omega, show (15 + 16 * m) / 2 ^ 4 = m by omega]
  rw [show a &&& 15 = a from by rw [show (15 : Nat) = 2 ^ 4 - 1 from rfl, Nat.and_two_pow_sub_one_eq_mod]; omega]
theorem hD_t {a b m : Nat} (ha : a < 16) : (a + 16 * b) &&& (16 * m) = 16 * (b &&& m) := by
  rw [l_split 4, show (a + 16 * b) % 2 ^ 4 = a by omega, show (16 * m) % 2 ^ 4 = 0 by omega, show (a + 16 * b) / 2 ^ 4 = b by omega, show (16 * m) / 2 ^ 4 = m by omega, Nat.and_zero]
  omega
theorem hD_d {a0 a1 a2 a3 a4 : Nat} (h0 : a0 < 16) (h1 : a1 < 16) (h2 : a2 < 16) (h3 : a3 < 16) (h4 : a4 < 16) : dg a0 a1 a2 a3 a4 &&& 252645135 = dg a0 0 a2 0 a4 := by
  unfold dg
  rw [show 252645135 = 15 + 16 * (16 * (15 + 16 * (16 * 3855))) from rfl, hD_s h0, hD_t h1, hD_s h2, hD_t h3]
  rw [show (3855 : Nat) = 15 + 16 * 240 from rfl, show a4 = a4 + 16 * 0 from rfl, hD_s h4, Nat.zero_and]
  omega
/-- of four bits -/
def hQ (a : Nat) : Nat := a - hA a
def hE (a : Nat) : Nat := hB (hQ a) + hC (hQ a)
theorem hE_1 : ∀ a : Fin 16, hA a.val ≤ a.val ∧ hE a.val ≤ 4 ∧ (hE a.val = 0 ↔ a.val = 0) ∧ (hE a.val = 1 ↔ (a.val = 1 ∨ a.val = 2 ∨ a.val = 4 ∨ a.val = 8)) := by decide
theorem b_cnt {a0 a1 a2 a3 a4 : Nat} (M : Mm) (h0 : a0 < 16) (h1 : a1 < 16) (h2 : a2 < 16) (h3 : a3 < 16) (h4 : a4 < 16) : fJ6_bitCount M ((dg a0 a1 a2 a3 a4 : Nat) : Int) = some ((hE a0 + hE a1 + hE a2 + hE a3 + hE a4 : Nat) : Int) := by
  have e0 := hE_1 ⟨a0, h0⟩
  have e1 := hE_1 ⟨a1, h1⟩
  have e2 := hE_1 ⟨a2, h2⟩
  have e3 := hE_1 ⟨a3, h3⟩
  have e4 := hE_1 ⟨a4, h4⟩
  dsimp only at e0 e1 e2 e3 e4
  have lt : ∀ {b0 b1 b2 b3 b4 : Nat}, b0 < 16 → b1 < 16 → b2 < 16 → b3 < 16 → b4 < 16 → dg b0 b1 b2 b3 b4 < 2 ^ 20 := by intros; unfold dg; omega
  have q : ∀ {a : Nat}, a < 16 → hQ a < 16 := fun h => by unfold hQ; omega
  have ea := hA_d h0 h1 h2 h3 h4
  have l0 := lt h0 h1 h2 h3 h4
  have t1 : ((dg a0 a1 a2 a3 a4 : Nat) : Int) - iandI (iushrI ((dg a0 a1 a2 a3 a4 : Nat) : Int) 1) 1431655765 = ((dg (hQ a0) (hQ a1) (hQ a2) (hQ a3) (hQ a4) : Nat) : Int) := by
    have u1 : iushrI ((dg a0 a1 a2 a3 a4 : Nat) : Int) 1 = ((dg a0 a1 a2 a3 a4 / 2 : Nat) : Int) := b_ushr (c := 1) (by omega) (by decide)
    have u2 : iandI ((dg a0 a1 a2 a3 a4 / 2 : Nat) : Int) 1431655765 = ((dg a0 a1 a2 a3 a4 / 2 &&& 1431655765 : Nat) : Int) := b_and (m := 1431655765) (by omega) (by omega)
    rw [u1, u2, ea]
    unfold dg hQ
    omega
  have l1 := lt (q h0) (q h1) (q h2) (q h3) (q h4)
  have t2 : iandI ((dg (hQ a0) (hQ a1) (hQ a2) (hQ a3) (hQ a4) : Nat) : Int) 858993459 + iandI (iushrI ((dg (hQ a0) (hQ a1) (hQ a2) (hQ a3) (hQ a4) : Nat) : Int) 2) 858993459 = ((dg (hE a0) (hE a1) (hE a2) (hE a3) (hE a4) : Nat) : Int) := by
    have u1 : iushrI ((dg (hQ a0) (hQ a1) (hQ a2) (hQ a3) (hQ a4) : Nat) : Int) 2 = ((dg (hQ a0) (hQ a1) (hQ a2) (hQ a3) (hQ a4) / 4 : Nat) : Int) := b_ushr (c := 2) (by omega) (by decide)
    have u2 : iandI ((dg (hQ a0) (hQ a1) (hQ a2) (hQ a3) (hQ a4) : Nat) : Int) 858993459 = ((dg (hQ a0) (hQ a1) (hQ a2) (hQ a3) (hQ a4) &&& 858993459 : Nat) : Int) := b_and (m := 858993459) (by omega) (by omega)
    have u3 : iandI ((dg (hQ a0) (hQ a1) (hQ a2) (hQ a3) (hQ a4) / 4 : Nat) : Int) 858993459 = ((dg (hQ a0) (hQ a1) (hQ a2) (hQ a3) (hQ a4) / 4 &&& 858993459 : Nat) : Int) := b_and (m := 858993459) (by omega) (by omega)
    rw [u1, u2, u3, hB_d (q h0) (q h1) (q h2) (q h3) (q h4), hC_d (q h0) (q h1) (q h2) (q h3) (q h4)]
    unfold dg hE
    omega
  have r0 := e0.2.1
  have r1 := e1.2.1
  have r2 := e2.2.1
  have r3 := e3.2.1
  have r4 := e4.2.1
  generalize hE a0 = c0 at t2 r0 ⊢
  generalize hE a1 = c1 at t2 r1 ⊢
  generalize hE a2 = c2 at t2 r2 ⊢
  generalize hE a3 = c3 at t2 r3 ⊢
  generalize hE a4 = c4 at t2 r4 ⊢
  have l2 := lt (b0 := c0) (b1 := c1) (b2 := c2) (b3 := c3) (b4 := c4) (by omega) (by omega) (by omega) (by omega) (by omega)
  have t3 : iandI (((dg c0 c1 c2 c3 c4 : Nat) : Int) + iushrI ((dg c0 c1 c2 c3 c4 : Nat) : Int) 4) 252645135 = ((dg (c0 + c1) 0 (c2 + c3) 0 c4 : Nat) : Int) := by
    have u1 : iushrI ((dg c0 c1 c2 c3 c4 : Nat) : Int) 4 = ((dg c0 c1 c2 c3 c4 / 16 : Nat) : Int) := b_ushr (c := 4) (by omega) (by decide)
    have u2 : dg c0 c1 c2 c3 c4 + dg c0 c1 c2 c3 c4 / 16 = dg (c0 + c1) (c1 + c2) (c2 + c3) (c3 + c4) c4 := by unfold dg; omega
    rw [u1, ← Int.natCast_add, u2]
    have u3 : iandI ((dg (c0 + c1) (c1 + c2) (c2 + c3) (c3 + c4) c4 : Nat) : Int) 252645135 = ((dg (c0 + c1) (c1 + c2) (c2 + c3) (c3 + c4) c4 &&& 252645135 : Nat) : Int) := b_and (m := 252645135) (by have := lt (b0 := c0 + c1) (b1 := c1 + c2) (b2 := c2 + c3) (b3 := c3 + c4) (b4 := c4) (by omega) (by omega) (by omega) (by omega) (by omega); omega) (by omega)
    rw [u3, hD_d (by omega) (by omega) (by omega) (by omega) (by omega)]
  have v2 : iushrI ((dg c0 c1 c2 c3 c4 : Nat) : Int) 4 = ((dg c0 c1 c2 c3 c4 / 16 : Nat) : Int) := b_ushr (c := 4) (by omega) (by decide)
  have l3 := lt (b0 := c0 + c1) (b1 := 0) (b2 := c2 + c3) (b3 := 0) (b4 := c4) (by omega) (by omega) (by omega) (by omega) (by omega)
  have v3 : iushrI ((dg (c0 + c1) 0 (c2 + c3) 0 c4 : Nat) : Int) 8 = ((dg (c0 + c1) 0 (c2 + c3) 0 c4 / 256 : Nat) : Int) := b_ushr (c := 8) (by omega) (by decide)
  have w3 : dg (c0 + c1) 0 (c2 + c3) 0 c4 + dg (c0 + c1) 0 (c2 + c3) 0 c4 / 256 = (c0 + c1 + c2 + c3) + 256 * (c2 + c3 + c4) + 65536 * c4 := by unfold dg; omega
  have v4 : iushrI (((c0 + c1 + c2 + c3) + 256 * (c2 + c3 + c4) + 65536 * c4 : Nat) : Int) 16 = ((((c0 + c1 + c2 + c3) + 256 * (c2 + c3 + c4) + 65536 * c4) / 65536 : Nat) : Int) := b_ushr (c := 16) (by omega) (by decide)
  have w4 : ((c0 + c1 + c2 + c3) + 256 * (c2 + c3 + c4) + 65536 * c4) + ((c0 + c1 + c2 + c3) + 256 * (c2 + c3 + c4) + 65536 * c4) / 65536 = (c0 + c1 + c2 + c3 + c4) + 64 * (4 * (c2 + c3 + c4) + 1024 * c4) := by omega
  have w5 : iandI (((c0 + c1 + c2 + c3 + c4) + 64 * (4 * (c2 + c3 + c4) + 1024 * c4) : Nat) : Int) 63 = ((((c0 + c1 + c2 + c3 + c4) + 64 * (4 * (c2 + c3 + c4) + 1024 * c4)) &&& 63 : Nat) : Int) := b_and (m := 63) (by omega) (by omega)
  unfold fJ6_bitCount gd bnd
  dsimp only
  rw [t1, if_pos (by constructor <;> omega), t2, if_pos (by constructor <;> omega), t3, if_pos (by rw [v2]; constructor <;> omega), v3, ← Int.natCast_add, w3, if_pos (by constructor <;> omega), v4, ← Int.natCast_add, w4, if_pos (by constructor <;> omega), w5]
  congr 2
  rw [show (63 : Nat) = 2 ^ 6 - 1 from rfl, Nat.and_two_pow_sub_one_eq_mod]
  omega
theorem k_bitCount (M : Mm) {n : Nat} (hn : n < 2 ^ 20) : OK (fJ6_bitCount M (n : Int)) (fun r => r = 1 ↔ ∃ c : Nat, n = 2 ^ c) := by
  obtain ⟨a0, a1, a2, a3, a4, h0, h1, h2, h3, h4, e⟩ : ∃ a0 a1 a2 a3 a4, a0 < 16 ∧ a1 < 16 ∧ a2 < 16 ∧ a3 < 16 ∧ a4 < 16 ∧ n = dg a0 a1 a2 a3 a4 := ⟨n % 16, n / 16 % 16, n / 256 % 16, n / 4096 % 16, n / 65536, by omega, by omega, by omega, by omega, by omega, by unfold dg; omega⟩
  rw [e]
  refine ok_eq (b_cnt M h0 h1 h2 h3 h4) ?_
  have e0 := hE_1 ⟨a0, h0⟩
  have e1 := hE_1 ⟨a1, h1⟩
  have e2 := hE_1 ⟨a2, h2⟩
  have e3 := hE_1 ⟨a3, h3⟩
  have e4 := hE_1 ⟨a4, h4⟩
  dsimp only at e0 e1 e2 e3 e4
  obtain ⟨-, -, e0, f0⟩ := e0
  obtain ⟨-, -, e1, f1⟩ := e1
  obtain ⟨-, -, e2, f2⟩ := e2
  obtain ⟨-, -, e3, f3⟩ := e3
  obtain ⟨-, -, e4, f4⟩ := e4
  have P : ∀ c : Fin 20, ∀ m : Nat, m = 2 ^ c.val → (m = 1 ∨ m = 2 ∨ m = 4 ∨ m = 8 ∨ m = 16 ∨ m = 32 ∨ m = 64 ∨ m = 128 ∨ m = 256 ∨ m = 512 ∨ m = 1024 ∨ m = 2048 ∨ m = 4096 ∨ m = 8192 ∨ m = 16384 ∨ m = 32768 ∨ m = 65536 ∨ m = 131072 ∨ m = 262144 ∨ m = 524288) := by
    intro c m hm
    subst hm
    revert c
    decide
  constructor
  · intro h
    have hs : hE a0 + hE a1 + hE a2 + hE a3 + hE a4 = 1 := by omega
    have cs : (hE a0 = 1 ∧ hE a1 = 0 ∧ hE a2 = 0 ∧ hE a3 = 0 ∧ hE a4 = 0) ∨ (hE a0 = 0 ∧ hE a1 = 1 ∧ hE a2 = 0 ∧ hE a3 = 0 ∧ hE a4 = 0) ∨ (hE a0 = 0 ∧ hE a1 = 0 ∧ hE a2 = 1 ∧ hE a3 = 0 ∧ hE a4 = 0) ∨ (hE a0 = 0 ∧ hE a1 = 0 ∧ hE a2 = 0 ∧ hE a3 = 1 ∧ hE a4 = 0) ∨ (hE a0 = 0 ∧ hE a1 = 0 ∧ hE a2 = 0 ∧ hE a3 = 0 ∧ hE a4 = 1) := by omega
    rw [e0, e1, e2, e3, e4, f0, f1, f2, f3, f4] at cs
    unfold dg
    rcases cs with ⟨c0, rfl, rfl, rfl, rfl⟩ | ⟨rfl, c0, rfl, rfl, rfl⟩ | ⟨rfl, rfl, c0, rfl, rfl⟩ | ⟨rfl, rfl, rfl, c0, rfl⟩ | ⟨rfl, rfl, rfl, rfl, c0⟩ <;> rcases c0 with rfl | rfl | rfl | rfl
    · exact ⟨0, rfl⟩
    · exact ⟨1, rfl⟩
    · exact ⟨2, rfl⟩
    · exact ⟨3, rfl⟩
    · exact ⟨4, rfl⟩
    · exact ⟨5, rfl⟩
    · exact ⟨6, rfl⟩
    · exact ⟨7, rfl⟩
    · exact ⟨8, rfl⟩
    · exact ⟨9, rfl⟩
    · exact ⟨10, rfl⟩
    · exact ⟨11, rfl⟩
    · exact ⟨12, rfl⟩
    · exact ⟨13, rfl⟩
    · exact ⟨14, rfl⟩
    · exact ⟨15, rfl⟩
    · exact ⟨16, rfl⟩
    · exact ⟨17, rfl⟩
    · exact ⟨18, rfl⟩
    · exact ⟨19, rfl⟩
  · intro h
    obtain ⟨c, hc⟩ := h
    have hc20 : c < 20 := by
      refine Classical.byContradiction (fun h9 => ?_)
      have := Nat.pow_le_pow_right (n := 2) (by omega) (show 20 ≤ c by omega)
      omega
    have hp := P ⟨c, hc20⟩ _ hc
    unfold dg at hp
    have cs : ((a0 = 1 ∨ a0 = 2 ∨ a0 = 4 ∨ a0 = 8) ∧ a1 = 0 ∧ a2 = 0 ∧ a3 = 0 ∧ a4 = 0) ∨ (a0 = 0 ∧ (a1 = 1 ∨ a1 = 2 ∨ a1 = 4 ∨ a1 = 8) ∧ a2 = 0 ∧ a3 = 0 ∧ a4 = 0) ∨ (a0 = 0 ∧ a1 = 0 ∧ (a2 = 1 ∨ a2 = 2 ∨ a2 = 4 ∨ a2 = 8) ∧ a3 = 0 ∧ a4 = 0) ∨ (a0 = 0 ∧ a1 = 0 ∧ a2 = 0 ∧ (a3 = 1 ∨ a3 = 2 ∨ a3 = 4 ∨ a3 = 8) ∧ a4 = 0) ∨ (a0 = 0 ∧ a1 = 0 ∧ a2 = 0 ∧ a3 = 0 ∧ (a4 = 1 ∨ a4 = 2 ∨ a4 = 4 ∨ a4 = 8)) := by
      clear e0 e1 e2 e3 e4 f0 f1 f2 f3 f4 P hc
      rcases hp with h | h | h | h | h | h | h | h | h | h | h | h | h | h | h | h | h | h | h | h <;> omega
    rw [← e0, ← e1, ← e2, ← e3, ← e4, ← f0, ← f1, ← f2, ← f3, ← f4] at cs
    omega
/-- just one bit -/
theorem k_one (M : Mm) {n : Nat} (hn : n < 2 ^ 20) {S : Nat → Prop} (hS : ∀ c, n.testBit c = true ↔ S c) : OK (fJ6_bitCount M (n : Int)) (fun r => r = 1 ↔ ∃ c, S c ∧ ∀ c', S c' → c' = c) := by
  refine ok_mono (k_bitCount M hn) (fun r hr => ?_)
  rw [hr]
  constructor
  · rintro ⟨c, hc⟩
    refine ⟨c, (hS c).mp ?_, fun c' h' => ?_⟩
    · rw [hc, Nat.testBit_two_pow]; exact decide_eq_true rfl
    · have := (hS c').mpr h'
      rw [hc, Nat.testBit_two_pow, decide_eq_true_eq] at this
      exact this.symm
  · rintro ⟨c, h1, h2⟩
    refine ⟨c, Nat.eq_of_testBit_eq (fun i => ?_)⟩
    rw [Nat.testBit_two_pow]
    by_cases hi : c = i
    · rw [decide_eq_true hi, ← hi]; exact (hS c).mpr h1
    · rw [decide_eq_false hi]
      cases hb : n.testBit i with
      | false => rfl
      | true => exact absurd (h2 i ((hS i).mp hb)).symm hi
