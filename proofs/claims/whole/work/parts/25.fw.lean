/-! phase 3: by way of each crossing -/
def fw (t : Nat → Int) (k p q : Nat) : Int := if t (12 * p + k) + t (12 * k + q) < t (12 * p + q) then t (12 * p + k) + t (12 * k + q) else t (12 * p + q)
def partF (c : Int) (t : Nat → Int) (k : Nat) (P Q : Int) (u : Nat → Int) : Prop := ∀ p q : Nat, (p : Int) < c → (q : Int) < c → u (12 * p + q) = if (p : Int) < P ∨ ((p : Int) = P ∧ (q : Int) < Q) then fw t k p q else t (12 * p + q)
/-- what the matrix is before crossing v is gone by -/
def FW (d : Dt) (v : Int) (t : Nat → Int) : Prop := (∀ i : Nat, (i : Int) < nC d → t (12 * i + i) = 0) ∧ (∀ i j : Nat, (i : Int) < nC d → (j : Int) < nC d → (0 ≤ t (12 * i + j) ∧ t (12 * i + j) ≤ 1000000) ∧ (t (12 * i + j) = 1000000 ∨ ∃ n, wk (eg d) n i j (t (12 * i + j)))) ∧ (∀ i k w, eg d i k w → t (12 * i + k) ≤ w) ∧ ∀ a b m : Nat, (a : Int) < nC d → (b : Int) < nC d → (m : Int) < nC d → (m : Int) < v → t (12 * a + b) ≤ t (12 * a + m) + t (12 * m + b)
theorem fw_k {d : Dt} {v : Int} {t : Nat → Int} (h : FW d v t) {k p : Nat} (hk : (k : Int) < nC d) (hp : (p : Int) < nC d) : fw t k p k = t (12 * p + k) ∧ fw t k k p = t (12 * k + p) := by
  have h0 := h.1 k hk
  unfold fw
  rw [h0]
  constructor
  · rw [if_neg (by omega)]
  · rw [if_neg (by omega)]
theorem FW_step {d : Dt} (hN : WN d) {t u : Nat → Int} {k : Nat} (hk : (k : Int) < nC d) (h : FW d (k : Int) t) (hu : ∀ p q : Nat, (p : Int) < nC d → (q : Int) < nC d → u (12 * p + q) = fw t k p q) : FW d ((k : Int) + 1) u := by
  have hb := eg_b hN
  obtain ⟨h1, h2, h3, h4⟩ := h
  have lo : ∀ p q : Nat, (p : Int) < nC d → (q : Int) < nC d → u (12 * p + q) ≤ t (12 * p + q) ∧ u (12 * p + q) ≤ t (12 * p + k) + t (12 * k + q) ∧ (u (12 * p + q) = t (12 * p + q) ∨ (u (12 * p + q) = t (12 * p + k) + t (12 * k + q) ∧ t (12 * p + k) + t (12 * k + q) < t (12 * p + q))) := by
    intro p q hp hq
    rw [hu p q hp hq]
    unfold fw
    split <;> omega
  refine ⟨fun i hi => ?_, fun i j hi hj => ?_, fun i j w he => ?_, fun a b m ha hb2 hm hmv => ?_⟩
  · have a1 := lo i i hi hi
    have a2 := h1 i hi
    have a3 := (h2 i k hi hk).1
    have a4 := (h2 k i hk hi).1
    omega
  · obtain ⟨-, -, h5⟩ := lo i j hi hj
    have a1 := h2 i j hi hj
    have a3 := h2 i k hi hk
    have a4 := h2 k j hk hj
    rcases h5 with h5 | ⟨h5, h6⟩
    · rw [h5]; exact a1
    · refine ⟨by omega, Or.inr ?_⟩
      rcases a3.2 with e | ⟨n, w1⟩
      · omega
      · rcases a4.2 with e | ⟨m, w2⟩
        · omega
        · exact ⟨n + m, by rw [h5]; exact wk_app n m i k j _ _ w1 w2⟩
  · have hb3 := hb.2 _ _ _ he
    have a1 := lo i j hb3.2.1 hb3.2.2
    have a2 := h3 i j w he
    omega
  · have c1 := lo a b ha hb2
    have c2 := lo a m ha hm
    have c3 := lo m b hm hb2
    by_cases e : (m : Int) = (k : Int)
    · have e2 : m = k := by omega
      subst e2
      have z := h1 m hm
      omega
    · have hmk : (m : Int) < (k : Int) := by omega
      have t1 := h4 a b m ha hb2 hm hmk
      have t2 := h4 k b m hk hb2 hm hmk
      have t3 := h4 a k m ha hk hm hmk
      have t4 := (h2 k m hk hm).1
      have t5 := (h2 m k hm hk).1
      omega
theorem k_fwL153 (k : Int → Int → Mm → Option Mm) (P : Mm → Prop) (M0 : Mm) (d : Dt) (hN : WN d) (h0 : M0 71 2 = nC d) (kk : Int) (hkk : 0 ≤ kk ∧ kk < nC d) (hF : FW d kk (M0 80)) (p : Int) (hp : 0 ≤ p ∧ p < nC d) (hk : ∀ M', off80 M0 M' → partF (nC d) (M0 80) kk.toNat (p + 1) 0 (M' 80) → OK (k kk p M') P) :
    ∀ (n : Nat) (v : Int) (M : Mm), 0 ≤ v → v ≤ nC d → 12 < (n : Int) + v → off80 M0 M → partF (nC d) (M0 80) kk.toNat p v (M 80) → OK (fX5_layFar_L153 k n kk p v M) P := by
  have n0 := hN.1
  intro n
  induction n with
  | zero => intro v M g0 g1 g2; omega
  | succ n ih =>
    intro v M g0 g1 g2 g3 g4
    have e2 : M 71 2 = nC d := by rw [g3 71 (by decide)]; exact h0
    unfold fX5_layFar_L153
    refine ok_if (fun h => hk M g3 (fun a b ha hb => ?_)) (fun h => ?_)
    · rw [g4 a b ha hb]
      by_cases e1 : (a : Int) < p + 1
      · rw [if_pos (by omega), if_pos (Or.inl e1)]
      · rw [if_neg (by omega), if_neg (by omega)]
    · have pk := fw_k hF (k := kk.toNat) (p := p.toNat) (by omega) (by omega)
      have pv := fw_k hF (k := kk.toNat) (p := v.toNat) (by omega) (by omega)
      have s1 : M 80 (12 * p.toNat + kk.toNat) = M0 80 (12 * p.toNat + kk.toNat) := by
        rw [g4 _ _ (by omega) (by omega)]
        split
        · exact pk.1
        · rfl
      have s2 : M 80 (12 * kk.toNat + v.toNat) = M0 80 (12 * kk.toNat + v.toNat) := by
        rw [g4 _ _ (by omega) (by omega)]
        split
        · exact pv.2
        · rfl
      have s3 : M 80 (12 * p.toNat + v.toNat) = M0 80 (12 * p.toNat + v.toNat) := by
        rw [g4 _ _ (by omega) (by omega), if_neg (by omega)]
      have b1 := (hF.2.1 p.toNat kk.toNat (by omega) (by omega)).1
      have b2 := (hF.2.1 kk.toNat v.toNat (by omega) (by omega)).1
      have b3 := (hF.2.1 p.toNat v.toNat (by omega) (by omega)).1
      have i1 : (12 * p + kk).toNat = 12 * p.toNat + kk.toNat := by omega
      have i2 : (12 * kk + v).toNat = 12 * kk.toNat + v.toNat := by omega
      have i3 : (12 * p + v).toNat = 12 * p.toNat + v.toNat := by omega
      refine ok_jnK (fun K => ∀ w, w = fw (M0 80) kk.toNat p.toNat v.toNat → OK (K kk p v w (12 * p + v) M) P) (fun w hw => ?_) (fun K hK => ?_)
      · refine ok_gd (by omega) (ok_bnd (fun M2 e => ok_gd (by omega) (ih (v + 1) M2 (by omega) (by omega) (by omega) (fun a ha => by rw [e, up_row ha, g3 a ha]) (fun a b ha hb => ?_))))
        rw [e, up_at, i3]
        by_cases e5 : 12 * a + b = 12 * p.toNat + v.toNat
        · have e6 : a = p.toNat := by omega
          have e7 : b = v.toNat := by omega
          subst e6
          subst e7
          rw [if_pos rfl, if_pos (by omega), hw]
        · rw [if_neg e5, g4 a b ha hb]
          by_cases e7 : (a : Int) < p ∨ ((a : Int) = p ∧ (b : Int) < v)
          · rw [if_pos e7, if_pos (by omega)]
          · rw [if_neg e7, if_neg (by omega)]
      · rw [i1, i2, i3, s1, s2, s3]
        have hfw : fw (M0 80) kk.toNat p.toNat v.toNat = if M0 80 (12 * p.toNat + kk.toNat) + M0 80 (12 * kk.toNat + v.toNat) < M0 80 (12 * p.toNat + v.toNat) then M0 80 (12 * p.toNat + kk.toNat) + M0 80 (12 * kk.toNat + v.toNat) else M0 80 (12 * p.toNat + v.toNat) := rfl
        rw [hfw] at hK
        generalize M0 80 (12 * p.toNat + kk.toNat) = X at *
        generalize M0 80 (12 * kk.toNat + v.toNat) = Y at *
        generalize M0 80 (12 * p.toNat + v.toNat) = Z at *
        refine ok_gd (by omega) (ok_bnd (fun t ht => ok_gd (by omega) ?_))
        refine ok_if (fun h5 => ok_gd (by omega) (hK Z (by rw [if_neg (by omega)]))) (fun h5 => hK t (by rw [if_pos (by omega), ht]))
theorem k_fwL143 (k : Int → Mm → Option Mm) (P : Mm → Prop) (M0 : Mm) (d : Dt) (hN : WN d) (h0 : M0 71 2 = nC d) (kk : Int) (hkk : 0 ≤ kk ∧ kk < nC d) (hF : FW d kk (M0 80)) (hk : ∀ M', off80 M0 M' → FW d (kk + 1) (M' 80) → OK (k kk M') P) :
    ∀ (n : Nat) (v : Int) (M : Mm), 0 ≤ v → v ≤ nC d → 12 < (n : Int) + v → off80 M0 M → partF (nC d) (M0 80) kk.toNat v 0 (M 80) → OK (fX5_layFar_L143 k n kk v M) P := by
  have n0 := hN.1
  intro n
  induction n with
  | zero => intro v M g0 g1 g2; omega
  | succ n ih =>
    intro v M g0 g1 g2 g3 g4
    have e2 : M 71 2 = nC d := by rw [g3 71 (by decide)]; exact h0
    unfold fX5_layFar_L143
    refine ok_if (fun h => hk M g3 ?_) (fun h => ?_)
    · have ek : ((kk.toNat : Nat) : Int) = kk := by omega
      have := FW_step hN (t := M0 80) (u := M 80) (k := kk.toNat) (by omega) (by rw [ek]; exact hF) (fun p q hp hq => by rw [g4 p q hp hq, if_pos (Or.inl (by omega))])
      rw [ek] at this
      exact this
    · refine k_fwL153 _ P M0 d hN h0 kk hkk hF v (by omega) (fun M' q1 q2 => ?_) 1000 0 M (by omega) (by omega) (by omega) g3 g4
      exact ok_gd (by omega) (ih (v + 1) M' (by omega) (by omega) (by omega) q1 q2)
theorem k_fwL133 (M0 : Mm) (d : Dt) (hN : WN d) (h0 : M0 71 2 = nC d) :
    ∀ (n : Nat) (v : Int) (M : Mm), 0 ≤ v → v ≤ nC d → 12 < (n : Int) + v → off80 M0 M → FW d v (M 80) → OK (fX5_layFar_L133 n v M) (fun M' => off80 M0 M' ∧ FW d (nC d) (M' 80)) := by
  have n0 := hN.1
  intro n
  induction n with
  | zero => intro v M g0 g1 g2; omega
  | succ n ih =>
    intro v M g0 g1 g2 g3 g4
    have e2 : M 71 2 = nC d := by rw [g3 71 (by decide)]; exact h0
    unfold fX5_layFar_L133
    refine ok_if (fun h => ok_some ⟨g3, ?_⟩) (fun h => ?_)
    · have : v = nC d := by omega
      rw [← this]; exact g4
    · refine k_fwL143 _ _ M d hN e2 v (by omega) g4 (fun M' q1 q2 => ?_) 1000 0 M (by omega) (by omega) (by omega) (fun _ _ => rfl) (fun p q hp hq => by rw [if_neg (by omega)])
      exact ok_gd (by omega) (ih (v + 1) M' (by omega) (by omega) (by omega) (fun c hc => by rw [q1 c hc, g3 c hc]) q2)
theorem FW_walk {d : Dt} (hN : WN d) {u : Nat → Int} (h : FW d (nC d) u) {j : Nat} (hj : (j : Int) < nC d) : ∀ (n i : Nat) (w : Int), (i : Int) < nC d → wk (eg d) n i j w → u (12 * i + j) ≤ w
  | 0, i, w, hi, hw => by
    obtain ⟨rfl, rfl⟩ := hw
    rw [h.1 i hi]; omega
  | n + 1, i, w, hi, hw => by
    obtain ⟨k, w1, e1, h2⟩ := hw
    have hk := ((eg_b hN).2 _ _ _ e1).2.2
    have h3 := FW_walk hN h hj n k (w - w1) hk h2
    have h4 := h.2.2.2 i j k hi hj hk hk
    have h5 := h.2.2.1 i k w1 e1
    omega
/-- both matrices say the same -/
theorem FW_eq {d : Dt} (hN : WN d) {u : Nat → Int} (h : FW d (nC d) u) {G : Nat → Nat → Int} (hG : DM (nC d) (eg d) G) {i j : Nat} (hi : (i : Int) < nC d) (hj : (j : Int) < nC d) : u (12 * i + j) = if G i j = -6 then 1000000 else G i j := by
  have hb := DM_b (eg_b hN) hG hi hj
  have a := h.2.1 i j hi hj
  rcases hG.2.1 i j hi hj with e | ⟨e, n, hw⟩
  · rw [if_pos e]
    rcases a.2 with f | ⟨n, hw⟩
    · exact f
    · exact absurd e (wk_le (eg_b hN) hG hj n i _ hi hw).1
  · have h1 := FW_walk hN h hj n i _ hi hw
    rw [if_neg (by omega)]
    rcases a.2 with f | ⟨m, hw2⟩
    · omega
    · have := (wk_le (eg_b hN) hG hj m i _ hi hw2).2
      omega
def farOf (c : Int) (G : Nat → Nat → Int) (u : Nat → Int) : Prop := ∀ i j : Nat, (i : Int) < c → (j : Int) < c → u (12 * i + j) = if G i j = -6 then 1000000 else G i j
theorem k_layFar (M : Mm) (hN : WN (mB M)) {G : Nat → Nat → Int} (hG : DM (nC (mB M)) (eg (mB M)) G) : OK (fX5_layFar M) (fun M' => off80 M M' ∧ farOf (nC (mB M)) G (M' 80)) := by
  have n0 := hN.1
  have n1 := hN.2.1
  unfold fX5_layFar
  refine k_farL2 _ _ M (nC (mB M)) n0 rfl (fun M1 q1 q2 => ?_) 1000 0 M (by omega) (by omega) (by omega) (fun _ _ => rfl) (fun p q hp hq h => by omega)
  have e1 := mB_80 q1
  have hN1 : WN (mB M1) := by rw [e1]; exact hN
  refine k_farL56 _ _ M1 hN1 (fun M2 q3 q4 => ?_) 1000 0 M1 (by omega) (by rw [e1]; omega) (by omega) (fun _ _ => rfl) ⟨fun p q hp hq => Or.inl ?_, fun r hr => by omega⟩
  · rw [e1] at q4
    have hF : FW (mB M) 0 (M2 80) := by
      have hb := eg_b hN
      refine ⟨fun i hi => ?_, fun i j hi hj => ?_, fun i k w he => ?_, fun a b m ha hb2 hm hm0 => by omega⟩
      · rcases q4.1 i i hi hi with e | ⟨e, -⟩
        · rw [e, if_pos rfl]
        · exact absurd rfl e
      · rcases q4.1 i j hi hj with e | ⟨e, w, e2, e3⟩
        · rw [e]
          by_cases hij : i = j
          · rw [if_pos hij]; exact ⟨by omega, Or.inr ⟨0, hij, rfl⟩⟩
          · rw [if_neg hij]; exact ⟨by omega, Or.inl rfl⟩
        · have b := hb.2 _ _ _ e2
          rw [e3]
          exact ⟨by omega, Or.inr ⟨1, j, w, e2, rfl, by omega⟩⟩
      · obtain ⟨r, hr, hw, hh⟩ := he
        obtain ⟨z1, z2⟩ := q4.2 r hr hr
        rcases hh with ⟨a, b⟩ | ⟨z, a, b⟩
        · rw [← a, ← b, z1]; omega
        · rw [← a, ← b, z2 z]; omega
    refine ok_mono (k_fwL133 M2 (mB M) hN (by rw [q3 71 (by decide), q1 71 (by decide)]; rfl) 1000 0 M2 (by omega) (by omega) (by omega) (fun _ _ => rfl) hF) (fun M3 h3 => ?_)
    exact ⟨fun c hc => by rw [h3.1 c hc, q3 c hc, q1 c hc], fun i j hi hj => FW_eq hN h3.2 hG hi hj⟩
  · rw [e1] at hp hq
    exact q2 p q hp hq (Or.inl hp)
