/-! total -/
def sumT (t : Nat → Int) : Nat → Int
  | 0 => 0
  | n + 1 => sumT t n + t n
theorem sumT_b {t : Nat → Int} : ∀ n : Nat, (∀ f, f < n → 0 ≤ t f ∧ t f ≤ 20000) → 0 ≤ sumT t n ∧ sumT t n ≤ 20000 * (n : Int)
  | 0, _ => ⟨Int.le_refl 0, Int.le_refl 0⟩
  | n + 1, h => by
    have ih := sumT_b n (fun f hf => h f (by omega))
    have := h n (by omega)
    have e : sumT t (n + 1) = sumT t n + t n := rfl
    have e2 : ((n + 1 : Nat) : Int) = (n : Int) + 1 := rfl
    rw [e, e2]
    omega
theorem sumT_s {t : Nat → Int} {v : Int} (h : 0 ≤ v) : sumT t (v + 1).toNat = sumT t v.toNat + t v.toNat := by
  rw [show (v + 1).toNat = v.toNat + 1 by omega]; rfl
def ends (M : Mm) (d : Dt) (f : Nat) : Prop := M 17 f ≠ -6 ∧ ∀ l : Nat, nx (nF d) (M 17) f l → M 17 l ≠ M 17 f
def tG (M : Mm) (f : Nat) : Int := if M 17 f = -6 then 1 else 0
def tD (M : Mm) (f : Nat) : Int := if M 24 f = 0 then 0 else 1
def tS (M : Mm) (d : Dt) (f : Nat) : Int := if slF d (fun i j => M 10 (12 * i + j)) (M 17) (M 18) (M 19) (M 23) f = -6 then 0 else slF d (fun i j => M 10 (12 * i + j)) (M 17) (M 18) (M 19) (M 23) f
def tC (M : Mm) (e : Nat → Bool) (f : Nat) : Int := if e f = true then M 21 (20 * f + (M 23 f).toNat) else 0
section TOT
variable {M : Mm} {d : Dt}
theorem slF_b (hW : Wd d) (h : CL 2 M d) {f : Nat} (hf : (f : Int) < nF d) : slF d (fun i j => M 10 (12 * i + j)) (M 17) (M 18) (M 19) (M 23) f = -6 ∨ (0 ≤ slF d (fun i j => M 10 (12 * i + j)) (M 17) (M 18) (M 19) (M 23) f ∧ slF d (fun i j => M 10 (12 * i + j)) (M 17) (M 18) (M 19) (M 23) f ≤ 882) := by
  unfold slF
  split
  · exact Or.inl rfl
  · rename_i hp
    have s1 := CL_ss hW h hf (fun h9 => hp (Or.inl h9)) (fun h9 => hp (Or.inr h9))
    have s2 := CL_sf hW h hf (fun h9 => hp (Or.inl h9))
    have := wy_b hW.1 (CL_2 h).1.2.2.2.2 s1 s2
    omega
theorem c_endsL (hW : Wd d) (h : CL 2 M d) (x : Int) (hx : 0 ≤ x ∧ x < nF d) (k : Option Int) (hk : (∀ i : Nat, x < (i : Int) → (i : Int) < nF d → M 18 i ≠ x) → OK k (fun r => yes r (ends M d x.toNat))) : ∀ (n : Nat) (v : Int), x < v → v ≤ nF d → 17 < (n : Int) + v → (∀ i : Nat, x < (i : Int) → (i : Int) < v → M 18 i ≠ x) → OK (fX3_endsPiece_L4 x M k n v) (fun r => yes r (ends M d x.toNat)) := by
  have n16 := hW.2.2.1
  have hT := CL_TS hW h
  have e2 := (CL_2 h).2.2.1.1
  have hgap := (CL_2 h).2.2.1.2.2.2
  intro n
  induction n with
  | zero => intro v h0 h1 h2; omega
  | succ n ih =>
    intro v h0 h1 h2 h3
    unfold fX3_endsPiece_L4
    rw [e2]
    refine ok_if (fun z => hk (fun i i1 i2 => h3 i i1 (by omega))) (fun z => ok_gd (by omega) (ok_if (fun z2 => ok_some (Or.inr ⟨rfl, fun h9 => ?_⟩)) (fun z2 => ok_gd ⟨by omega, by omega⟩ (ih (v + 1) (by omega) (by omega) (by omega) (fun i i1 i2 => ?_)))))
    · have hpv : M 17 v.toNat ≠ -6 := fun h8 => by
        have := TS_pc hT (f := v.toNat) (by omega)
        have := hgap v.toNat (by omega) (by omega)
        omega
      obtain ⟨g, g1, g2, g3, g4⟩ := TS_bf hT (f := v.toNat) (by omega) hpv (by omega)
      have : g = x.toNat := by omega
      subst this
      exact h9.2 _ g4 g3.symm
    · by_cases hiv : i = v.toNat
      · rw [hiv]; exact z2
      · exact h3 i i1 (by omega)
theorem c_endsPiece (hW : Wd d) (h : CL 2 M d) (x : Int) (hx : 0 ≤ x ∧ x < nF d) : OK (fX3_endsPiece M x) (fun r => yes r (ends M d x.toNat)) := by
  have n16 := hW.2.2.1
  have hT := CL_TS hW h
  have e2 : M (2 + 11) 2 = nF d := (CL_2 h).2.2.1.1
  have hg := k_isGap 2 M x (by rw [e2]; omega)
  rw [e2] at hg
  have hg2 : OK (fX3_isGap 2 M x) (fun r => yes r (¬ (0 ≤ x ∧ x < nF d) ∨ M 17 x.toNat = -6)) := hg
  unfold fX3_endsPiece
  refine ok_gd ⟨by omega, by omega⟩ (c_endsL hW h x hx _ (fun hno => ok_cal hg2 (fun r2 h2 => ok_if (fun q => ok_some (Or.inl ⟨rfl, fun h9 => yes_f h2 q (Or.inr h9), fun l hl h9 => ?_⟩)) (fun q => ok_some (Or.inr ⟨rfl, fun h9 => ?_⟩)))) 1000 (x + 1) (by omega) (by omega) (by omega) (fun i i1 i2 => by omega))
  · have a1 := hl.1
    have a2 := hl.2.1
    rcases TS_nx hT hl with ⟨-, b, -⟩ | ⟨b, -⟩
    · exact hno l (by omega) a2 (by omega)
    · omega
  · rcases yes_t h2 q with h8 | h8
    · exact h8 hx
    · exact h9.1 h8
theorem c_sumOfCosts (hW : Wd d) (h : CL 2 M d) (e : Nat → Bool) (he : ∀ f, e f = true ↔ ends M d f) : ∀ (n : Nat) (v : Int), 0 ≤ v → v ≤ nF d → 16 < (n : Int) + v → OK (fX3_sumOfCosts_L4 M n (sumT (tC M e) v.toNat) v) (fun r => r = sumT (tC M e) (nF d).toNat) := by
  have n16 := hW.2.2.1
  have hT := CL_TS hW h
  have e2 := (CL_2 h).2.2.1.1
  have tb : ∀ f : Nat, (f : Int) < nF d → 0 ≤ tC M e f ∧ tC M e f ≤ 20000 := fun f hf => by
    unfold tC
    split
    · rename_i h1
      have hv := CL_V h hf ((he f).mp h1).1
      have := (hT f hf).2.1 (M 23 f).toNat (by omega)
      unfold okC at this
      omega
    · omega
  intro n
  induction n with
  | zero => intro v h0 h1 h2; omega
  | succ n ih =>
    intro v h0 h1 h2
    unfold fX3_sumOfCosts_L4
    rw [e2]
    refine ok_if (fun z => ok_some (by rw [show v = nF d by omega])) (fun z => ?_)
    have sb := sumT_b (t := tC M e) v.toNat (fun f hf => tb f (by omega))
    have ihv := ih (v + 1) (by omega) (by omega) (by omega)
    rw [sumT_s h0] at ihv
    have inr1 : inR (v + 1) := ⟨by omega, by omega⟩
    have hc := k_hasCandidate 2 M v (M 23 v.toNat) (by show M 13 2 ≤ 16; omega)
    have e2' : M (2 + 11) 2 = nF d := e2
    rw [e2'] at hc
    have hc2 : OK (fX3_hasCandidate 2 M v (M 23 v.toNat)) (fun r => yes r ((0 ≤ v ∧ v < nF d) ∧ 0 ≤ M 23 v.toNat ∧ M 23 v.toNat < M 16 v.toNat)) := hc
    have c16 := (hT v.toNat (by omega)).1
    have tbv := tb v.toNat (by omega)
    refine ok_jn (ok_gd (by omega) (ok_cal (c_endsPiece hW h v ⟨h0, by omega⟩) (fun r7 h7 => ok_if (fun q => ok_gd inr1 ?_) (fun q => ok_cal hc2 (fun r8 h8 => ?_)))))
    · have : tC M e v.toNat = 0 := by unfold tC; rw [if_neg (fun h9 => yes_f h7 q ((he _).mp h9))]
      rw [this, Int.add_zero] at ihv
      exact ihv
    · have hen := yes_t h7 q
      have hv := CL_V h (f := v.toNat) (by omega) hen.1
      have et : tC M e v.toNat = M 21 (20 * v.toNat + (M 23 v.toNat).toNat) := by unfold tC; rw [if_pos ((he _).mpr hen)]
      refine ok_f (fun q2 => yes_f h8 q2 ⟨⟨h0, by omega⟩, hv.1⟩) (ok_cal (k_slot M (f := v) (k := M 23 v.toNat) (by omega) (by omega)) (fun r9 h9 => ?_))
      rw [show r9.toNat = 20 * v.toNat + (M 23 v.toNat).toNat by omega, ← et]
      exact ok_gd ⟨h9.2, ⟨by omega, by omega⟩⟩ (ok_bnd (fun t ht => ok_gd inr1 (by rw [ht]; exact ihv)))
theorem c_countGaps (hW : Wd d) (h : CL 2 M d) : ∀ (n : Nat) (v : Int), 0 ≤ v → v ≤ nF d → 16 < (n : Int) + v → OK (fX3_countGaps_L4 M n (sumT (tG M) v.toNat) v) (fun r => r = sumT (tG M) (nF d).toNat) := by
  have n16 := hW.2.2.1
  have e2 := (CL_2 h).2.2.1.1
  have tb : ∀ f : Nat, 0 ≤ tG M f ∧ tG M f ≤ 20000 := fun f => by unfold tG; split <;> omega
  intro n
  induction n with
  | zero => intro v h0 h1 h2; omega
  | succ n ih =>
    intro v h0 h1 h2
    unfold fX3_countGaps_L4
    rw [e2]
    refine ok_if (fun z => ok_some (by rw [show v = nF d by omega])) (fun z => ?_)
    have sb := sumT_b (t := tG M) v.toNat (fun f hf => tb f)
    have ihv := ih (v + 1) (by omega) (by omega) (by omega)
    rw [sumT_s h0] at ihv
    have inr1 : inR (v + 1) := ⟨by omega, by omega⟩
    have e2' : M (2 + 11) 2 = nF d := e2
    have hg := k_isGap 2 M v (by rw [e2']; omega)
    rw [e2'] at hg
    have hg2 : OK (fX3_isGap 2 M v) (fun r => yes r (¬ (0 ≤ v ∧ v < nF d) ∨ M 17 v.toNat = -6)) := hg
    refine ok_jn (ok_cal hg2 (fun r7 h7 => ok_if (fun q => ok_gd inr1 ?_) (fun q => ok_gd ⟨by omega, by omega⟩ (ok_gd inr1 ?_))))
    · have : tG M v.toNat = 0 := by unfold tG; rw [if_neg (fun h9 => yes_f h7 q (Or.inr h9))]
      rw [this, Int.add_zero] at ihv
      exact ihv
    · have : tG M v.toNat = 1 := by
        unfold tG
        rcases yes_t h7 q with h9 | h9
        · omega
        · rw [if_pos h9]
      rw [this] at ihv
      exact ihv
theorem c_countDecided (hW : Wd d) (h : CL 2 M d) : ∀ (n : Nat) (v : Int), 0 ≤ v → v ≤ nF d → 16 < (n : Int) + v → OK (fX3_countDecided_L4 M n (sumT (tD M) v.toNat) v) (fun r => r = sumT (tD M) (nF d).toNat) := by
  have n16 := hW.2.2.1
  have e2 := (CL_2 h).2.2.1.1
  have tb : ∀ f : Nat, 0 ≤ tD M f ∧ tD M f ≤ 20000 := fun f => by unfold tD; split <;> omega
  intro n
  induction n with
  | zero => intro v h0 h1 h2; omega
  | succ n ih =>
    intro v h0 h1 h2
    unfold fX3_countDecided_L4
    rw [e2]
    refine ok_if (fun z => ok_some (by rw [show v = nF d by omega])) (fun z => ?_)
    have sb := sumT_b (t := tD M) v.toNat (fun f hf => tb f)
    have ihv := ih (v + 1) (by omega) (by omega) (by omega)
    rw [sumT_s h0] at ihv
    have inr1 : inR (v + 1) := ⟨by omega, by omega⟩
    refine ok_jn (ok_gd (by omega) (ok_if (fun q => ok_gd inr1 ?_) (fun q => ok_gd ⟨by omega, by omega⟩ (ok_gd inr1 ?_))))
    · have : tD M v.toNat = 0 := by unfold tD; rw [if_pos q]
      rw [this, Int.add_zero] at ihv
      exact ihv
    · have : tD M v.toNat = 1 := by unfold tD; rw [if_neg q]
      rw [this] at ihv
      exact ihv
theorem tS_b (hW : Wd d) (h : CL 2 M d) {f : Nat} (hf : (f : Int) < nF d) : 0 ≤ tS M d f ∧ tS M d f ≤ 20000 := by
  have := slF_b hW h hf
  unfold tS
  split <;> omega
theorem c_sumOfSteps (hW : Wd d) (h : CL 2 M d) : ∀ (n : Nat) (v : Int), 0 ≤ v → v ≤ nF d → 16 < (n : Int) + v → OK (fX3_sumOfSteps_L4 M n (sumT (tS M d) v.toNat) v) (fun r => r = sumT (tS M d) (nF d).toNat) := by
  have n16 := hW.2.2.1
  have e2 := (CL_2 h).2.2.1.1
  intro n
  induction n with
  | zero => intro v h0 h1 h2; omega
  | succ n ih =>
    intro v h0 h1 h2
    unfold fX3_sumOfSteps_L4
    rw [e2]
    refine ok_if (fun z => ok_some (by rw [show v = nF d by omega])) (fun z => ?_)
    have sb := sumT_b (t := tS M d) v.toNat (fun f hf => tS_b hW h (by omega))
    have tv := tS_b hW h (f := v.toNat) (by omega)
    have ihv := ih (v + 1) (by omega) (by omega) (by omega)
    rw [sumT_s h0] at ihv
    refine ok_jn (ok_cal (k_stepLength hW h v ⟨h0, by omega⟩) (fun r9 h9 => ok_if (fun q => ?_) (fun q => ?_)))
    · have : tS M d v.toNat = 0 := by unfold tS; rw [← h9, if_pos q]
      rw [this] at ihv
      exact ok_gd ⟨⟨by omega, by omega⟩, ⟨by omega, by omega⟩⟩ ihv
    · have : tS M d v.toNat = r9 := by unfold tS; rw [← h9, if_neg q]
      rw [this] at ihv tv
      exact ok_gd ⟨⟨by omega, by omega⟩, ⟨by omega, by omega⟩⟩ ihv
theorem c_countPieces (hW : Wd d) (h : CL 2 M d) : OK (fX3_countPieces M) (fun r => r = pcs (M 17) (nF d).toNat) := by
  have n16 := hW.2.2.1
  have hT := CL_TS hW h
  have e2 := (CL_2 h).2.2.1.1
  have hl := k_lastFixed M (by rw [e2]; exact n16)
  rw [e2] at hl
  unfold fX3_countPieces pcs
  refine ok_cal hl (fun r1 h1 => ?_)
  rw [← h1]
  refine ok_if (fun z => ok_some (by rw [if_pos z])) (fun z => ?_)
  rcases lng_spec (M 17) (nF d).toNat with ⟨a, -⟩ | ⟨g, g1, g2, g3, -⟩
  · rw [a] at h1; exact absurd h1 z
  · have := TS_pc hT (f := g) (by omega)
    have e1 : r1.toNat = g := by omega
    rw [e1]
    exact ok_gd ⟨by omega, ⟨by omega, by omega⟩⟩ (ok_some (by rw [if_neg z]))
/-! the reference's loop -/
theorem m_totL (hW : Wd d) (hn : M 71 10 = nF d) (x : Int) (t : Nat → Int) (P : Int × Mm → Prop) (hP : P (sumT t (nF d).toNat, M)) (tb : ∀ f : Nat, (f : Int) < nF d → 0 ≤ t f ∧ t f ≤ 20000) (hs : ∀ (m : Nat) (acc v : Int), 0 ≤ v → v < nF d → 0 ≤ acc → acc ≤ 320000 → (OK (fX5_total_L20 x m (acc + t v.toNat) (v + 1) M) P) → OK (fX5_total_L20 x (m + 1) acc v M) P) : ∀ (n : Nat) (v : Int), 0 ≤ v → v ≤ nF d → 16 < (n : Int) + v → OK (fX5_total_L20 x n (sumT t v.toNat) v M) P := by
  have n16 := hW.2.2.1
  intro n
  induction n with
  | zero => intro v h0 h1 h2; omega
  | succ n ih =>
    intro v h0 h1 h2
    by_cases z : v = nF d
    · unfold fX5_total_L20
      rw [hn]
      refine ok_t (by omega) (ok_some ?_)
      rw [z]; exact hP
    · have sb := sumT_b (t := t) v.toNat (fun f hf => tb f (by omega))
      have ihv := ih (v + 1) (by omega) (by omega) (by omega)
      rw [sumT_s h0] at ihv
      exact hs n _ v h0 (by omega) sb.1 (by omega) ihv
theorem m_tot0 (hW : Wd d) (h : CL 2 M d) (hL : LA M d) (e : Nat → Bool) (he : ∀ f, e f = true ↔ ends M d f) (P : Int × Mm → Prop) (hP : P (sumT (tC M e) (nF d).toNat, M)) : OK (fX5_total_L20 0 1000 0 0 M) P := by
  have n16 := hW.2.2.1
  have hT := CL_TS hW h
  have hn := LA_n hL
  have tb : ∀ f : Nat, (f : Int) < nF d → 0 ≤ tC M e f ∧ tC M e f ≤ 20000 := fun f hf => by
    unfold tC
    split
    · rename_i h1
      have hv := CL_V h hf ((he f).mp h1).1
      have := (hT f hf).2.1 (M 23 f).toNat (by omega)
      unfold okC at this
      omega
    · omega
  refine m_totL hW hn 0 (tC M e) P hP tb (fun m acc v h0 h1 h2 h3 k => ?_) 1000 0 (by omega) n16.1 (by omega)
  obtain ⟨f, hf⟩ : ∃ f : Nat, v.toNat = f := ⟨_, rfl⟩
  have hfv : v = (f : Int) := by omega
  have inr1 : inR (v + 1) := ⟨by omega, by omega⟩
  have hq := hL.2.2.1 f (by omega)
  have hpc := TS_pc hT (f := f) (by omega)
  have tbv := tb f (by omega)
  rw [hf] at k
  unfold fX5_total_L20
  rw [hn, hf, hq.2.1]
  have zero : ¬ ends M d f → OK (fX5_total_L20 0 m (acc + 0) (v + 1) M) P := fun h9 => by
    have : tC M e f = 0 := by unfold tC; rw [if_neg (fun h8 => h9 ((he f).mp h8))]
    rw [this] at k; exact k
  refine ok_f (by omega) (ok_jn (ok_t rfl (ok_jn (ok_jn (ok_gd (by omega) (ok_if (fun z => ok_gd ⟨by omega, by omega⟩ (ok_gd inr1 (zero (fun h9 => h9.1 (by omega))))) (fun z => ?_)))))))
  have hx := k_next M (n := nF d) (pc := M 17) ⟨hn, n16.2⟩ (fun f hf => ⟨(hL.2.2.1 f hf).2.1, by have := TS_pc hT hf; omega⟩) v ⟨h0, h1⟩
  rw [hf] at hx
  refine ok_cal hx (fun r21 h21 => ?_)
  rcases h21 with ⟨a, hno⟩ | ⟨l, a, hl, hpl⟩
  · have hen : ends M d f := ⟨by omega, hno⟩
    obtain ⟨a0, a1, a2, a3, -, a5⟩ := LA_at hW h hL (f := f) (by omega) hen.1
    rw [← hfv] at a3
    rw [a1, a3, a5]
    have et : tC M e f = M 21 (20 * f + (M 23 f).toNat) := by unfold tC; rw [if_pos ((he f).mpr hen)]
    rw [← et]
    exact ok_f (by omega) (ok_gd ⟨⟨by omega, by omega⟩, by omega, ⟨by omega, by omega⟩, by omega⟩ (ok_gd ⟨by omega, by omega⟩ (ok_gd inr1 k)))
  · exact ok_t (by omega) (ok_gd ⟨by omega, by omega⟩ (ok_gd inr1 (zero (fun h9 => h9.2 l hl hpl))))
theorem m_tot2 (hW : Wd d) (h : CL 2 M d) (hL : LA M d) (P : Int × Mm → Prop) (hP : P (sumT (tG M) (nF d).toNat, M)) : OK (fX5_total_L20 2 1000 0 0 M) P := by
  have n16 := hW.2.2.1
  have hT := CL_TS hW h
  have hn := LA_n hL
  refine m_totL hW hn 2 (tG M) P hP (fun f _ => by unfold tG; split <;> omega) (fun m acc v h0 h1 h2 h3 k => ?_) 1000 0 (by omega) n16.1 (by omega)
  have inr1 : inR (v + 1) := ⟨by omega, by omega⟩
  have hq := hL.2.2.1 v.toNat (by omega)
  have hpc := TS_pc hT (f := v.toNat) (by omega)
  unfold fX5_total_L20
  rw [hn, hq.2.1]
  refine ok_f (by omega) (ok_jn (ok_f (by decide) (ok_f (by decide) (ok_t rfl (ok_jn (ok_gd (by omega) (ok_if (fun z => ok_gd ⟨by omega, by omega⟩ (ok_gd inr1 ?_)) (fun z => ok_gd ⟨by omega, by omega⟩ (ok_gd inr1 ?_)))))))))
  · unfold tG at k; rw [if_neg (by omega)] at k; exact k
  · unfold tG at k; rw [if_pos (by omega)] at k; exact k
theorem m_tot3 (hW : Wd d) (h : CL 2 M d) (hL : LA M d) (P : Int × Mm → Prop) (hP : P (sumT (tD M) (nF d).toNat, M)) : OK (fX5_total_L20 3 1000 0 0 M) P := by
  have n16 := hW.2.2.1
  have hn := LA_n hL
  refine m_totL hW hn 3 (tD M) P hP (fun f _ => by unfold tD; split <;> omega) (fun m acc v h0 h1 h2 h3 k => ?_) 1000 0 (by omega) n16.1 (by omega)
  have inr1 : inR (v + 1) := ⟨by omega, by omega⟩
  unfold fX5_total_L20
  rw [hn]
  refine ok_f (by omega) (ok_jn (ok_f (by decide) (ok_f (by decide) (ok_f (by decide) (ok_t rfl (ok_jn (ok_cal (m_isDecided hW h hL v ⟨h0, h1⟩) (fun r40 h40 => ok_if (fun z => ok_gd ⟨by omega, by omega⟩ (ok_gd inr1 ?_)) (fun z => ok_gd ⟨by omega, by omega⟩ (ok_gd inr1 ?_))))))))))
  · unfold tD at k; rw [if_pos (by omega)] at k; exact k
  · unfold tD at k; rw [if_neg (by omega)] at k; exact k
theorem m_tot4 (hW : Wd d) (h : CL 2 M d) (hL : LA M d) (P : Int × Mm → Prop) (hP : P (sumT (tS M d) (nF d).toNat, M)) : OK (fX5_total_L20 4 1000 0 0 M) P := by
  have n16 := hW.2.2.1
  have hn := LA_n hL
  refine m_totL hW hn 4 (tS M d) P hP (fun f hf => tS_b hW h hf) (fun m acc v h0 h1 h2 h3 k => ?_) 1000 0 (by omega) n16.1 (by omega)
  have inr1 : inR (v + 1) := ⟨by omega, by omega⟩
  have sb := slF_b hW h (f := v.toNat) (by omega)
  have hst := m_stepOf hW h hL v ⟨h0, h1⟩
  unfold fX5_total_L20
  rw [hn]
  refine ok_f (by omega) (ok_jn (ok_f (by decide) (ok_f (by decide) (ok_f (by decide) (ok_f (by decide) (ok_t rfl (ok_jn (ok_cal hst (fun r47 h47 => ok_if (fun z => ok_gd ⟨by omega, by omega⟩ (ok_gd inr1 ?_)) (fun z => ok_cal hst (fun r48 h48 => ok_gd ⟨by omega, by omega⟩ (ok_gd inr1 ?_))))))))))))
  · unfold tS at k; rw [if_pos (by omega)] at k; exact k
  · unfold tS at k; rw [if_neg (by omega), ← h48] at k; exact k
theorem m_tot1 (hW : Wd d) (hn : M 71 10 = nF d) (P : Int × Mm → Prop) (hP : ∀ r, (nF d = 0 ∧ r = 0) ∨ r = M 71 20 → P (r, M)) : ∀ (n : Nat) (acc v : Int), 0 ≤ v → v ≤ nF d → 16 < (n : Int) + v → ((v = 0 ∧ acc = 0) ∨ acc = M 71 20) → OK (fX5_total_L20 1 n acc v M) P := by
  have n16 := hW.2.2.1
  intro n
  induction n with
  | zero => intro acc v h0 h1 h2; omega
  | succ n ih =>
    intro acc v h0 h1 h2 h3
    unfold fX5_total_L20
    rw [hn]
    refine ok_if (fun z => ok_some (hP acc (by omega))) (fun z => ok_jn (ok_f (by decide) (ok_t rfl (ok_gd ⟨by omega, by omega⟩ (ih _ (v + 1) (by omega) (by omega) (by omega) (Or.inr rfl))))))
end TOT
theorem q_total {M : Mm} (hI : Inv M) (x : Int) : OK (fX4_total M x) (fun r => OK (fX5_total M x) (fun q => r = q.1 ∧ Inv q.2)) := by
  obtain ⟨hW, hCL, -⟩ := id hI
  have n16 := hW.2.2.1
  have lay : ∀ (r : Int), (0 ≤ x ∧ x ≤ 4) → (∀ M2, offA M M2 → CL 2 M2 (mB M) → LA M2 (mB M) → Inv M2 → OK (fX5_total_L20 x 1000 0 0 M2) (fun q => r = q.1 ∧ Inv q.2)) → OK (fX5_total M x) (fun q => r = q.1 ∧ Inv q.2) := by
    intro r hx hk
    unfold fX5_total
    exact ok_cal (k_in M x 0 4) (fun r1 h1 => ok_f (fun q => yes_f h1 q hx) (ok_cal (k_lay hI) (fun M2 hl => hk M2 hl.1 hl.2.1 hl.2.2.1 hl.2.2.2)))
  unfold fX4_total
  refine ok_if (fun z => ?_) (fun z0 => ok_if (fun z => ?_) (fun z1 => ok_if (fun z => ?_) (fun z2 => ok_if (fun z => ?_) (fun z3 => ok_if (fun z => ?_) (fun z4 => ok_some ?_)))))
  · obtain ⟨e, he⟩ : ∃ e : Nat → Bool, ∀ f, e f = true ↔ ends M (mB M) f := ⟨fun f => @decide (ends M (mB M) f) (Classical.propDecidable _), fun f => @decide_eq_true_iff (ends M (mB M) f) (Classical.propDecidable _)⟩
    refine ok_cal (c_sumOfCosts hW hCL e he 1000 0 (by omega) n16.1 (by omega)) (fun r h => ok_some (lay r (by omega) (fun M2 hA hC hL hI2 => ?_)))
    have a17 := hA.1 17 (by decide) (by decide)
    have a21 := hA.1 21 (by decide) (by decide)
    have a23 := hA.1 23 (by decide) (by decide)
    rw [z]
    refine m_tot0 hW hC hL e (fun f => ?_) _ ⟨?_, hI2⟩
    · rw [he f]; unfold ends; rw [a17]
    · have : tC M2 e = tC M e := by funext f; unfold tC; rw [a21, a23]
      rw [this]; exact h
  · refine ok_cal (c_countPieces hW hCL) (fun r h => ok_some (lay r (by omega) (fun M2 hA hC hL hI2 => ?_)))
    rw [z]
    refine m_tot1 hW (LA_n hL) _ (fun r' hr' => ⟨?_, hI2⟩) 1000 0 0 (by omega) n16.1 (by omega) (Or.inl ⟨rfl, rfl⟩)
    have e20 := hL.2.2.2.2
    rw [hA.1 17 (by decide) (by decide)] at e20
    show r = r'
    rcases hr' with ⟨a, b⟩ | b
    · rw [h, b, a]; rfl
    · rw [h, b, e20]
  · refine ok_cal (c_countGaps hW hCL 1000 0 (by omega) n16.1 (by omega)) (fun r h => ok_some (lay r (by omega) (fun M2 hA hC hL hI2 => ?_)))
    rw [z]
    refine m_tot2 hW hC hL _ ⟨?_, hI2⟩
    have : tG M2 = tG M := by funext f; unfold tG; rw [hA.1 17 (by decide) (by decide)]
    rw [this]; exact h
  · refine ok_cal (c_countDecided hW hCL 1000 0 (by omega) n16.1 (by omega)) (fun r h => ok_some (lay r (by omega) (fun M2 hA hC hL hI2 => ?_)))
    rw [z]
    refine m_tot3 hW hC hL _ ⟨?_, hI2⟩
    have : tD M2 = tD M := by funext f; unfold tD; rw [hA.1 24 (by decide) (by decide)]
    rw [this]; exact h
  · refine ok_cal (c_sumOfSteps hW hCL 1000 0 (by omega) n16.1 (by omega)) (fun r h => ok_some (lay r (by omega) (fun M2 hA hC hL hI2 => ?_)))
    rw [z]
    refine m_tot4 hW hC hL _ ⟨?_, hI2⟩
    have : tS M2 (mB M) = tS M (mB M) := by funext f; unfold tS; rw [hA.1 10 (by decide) (by decide), hA.1 17 (by decide) (by decide), hA.1 18 (by decide) (by decide), hA.1 19 (by decide) (by decide), hA.1 23 (by decide) (by decide)]
    rw [this]; exact h
  · unfold fX5_total
    exact ok_cal (k_in M x 0 4) (fun r1 h1 => ok_if (fun _ => ok_some ⟨rfl, hI⟩) (fun q => by have := yes_t h1 q; omega))
