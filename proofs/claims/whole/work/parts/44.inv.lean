/-! what holds between class and reference -/
def cut (m : Nat) (f : Nat → Int) : Nat → Int := fun j => if j < m then f j else 0
def dI (n : Nat) (M : Mm) : Dt := ((M 89 (130 * n + 120), M 89 (130 * n + 121), M 89 (130 * n + 122)), cut 12 (fun j => M 89 (130 * n + j)), cut 12 (fun j => M 89 (130 * n + 12 + j)), cut 20 (fun j => M 89 (130 * n + 24 + j)), cut 20 (fun j => M 89 (130 * n + 44 + j)), cut 20 (fun j => M 89 (130 * n + 64 + j)), cut 4 (fun j => M 89 (130 * n + 116 + j)), cut 16 (fun j => M 89 (130 * n + 84 + j)), cut 16 (fun j => M 89 (130 * n + 100 + j)))
def Zr (M : Mm) : Prop := ∀ j : Nat, (12 ≤ j → M 72 j = 0 ∧ M 73 j = 0) ∧ (20 ≤ j → M 74 j = 0 ∧ M 75 j = 0 ∧ M 76 j = 0) ∧ (4 ≤ j → M 77 j = 0) ∧ (16 ≤ j → M 78 j = 0 ∧ M 79 j = 0)
def IM (n b : Nat) (M : Mm) : Prop := (M 90 n = 0 ∨ M 90 n = 1) ∧ M b 3 = M 90 n ∧ (M 90 n = 1 → Wd (dI n M) ∧ CL b M (dI n M))
def Inv (M : Mm) : Prop := Wd (mB M) ∧ CL 2 M (mB M) ∧ Zr M ∧ IM 0 25 M ∧ IM 1 48 M ∧ (M 999 0 = 8 ∧ M 999 1 = 9 ∧ M 999 2 = 9 ∧ M 999 3 = 99)
theorem CL_frame {b : Nat} {M M' : Mm} {d : Dt} (h : ∀ a, b < a → a ≤ b + 22 → M' a = M a) (k : CL b M d) : CL b M' d := by
  unfold CL at *
  rw [h (b + 1) (by omega) (by omega), h (b + 2) (by omega) (by omega), h (b + 3) (by omega) (by omega), h (b + 4) (by omega) (by omega), h (b + 5) (by omega) (by omega), h (b + 6) (by omega) (by omega), h (b + 7) (by omega) (by omega), h (b + 8) (by omega) (by omega), h (b + 10) (by omega) (by omega), h (b + 11) (by omega) (by omega), h (b + 12) (by omega) (by omega), h (b + 13) (by omega) (by omega), h (b + 14) (by omega) (by omega), h (b + 15) (by omega) (by omega), h (b + 16) (by omega) (by omega), h (b + 17) (by omega) (by omega), h (b + 18) (by omega) (by omega), h (b + 19) (by omega) (by omega), h (b + 20) (by omega) (by omega), h (b + 21) (by omega) (by omega), h (b + 22) (by omega) (by omega)]
  exact k
theorem IM_frame {n b : Nat} {M M' : Mm} (h : ∀ a, b ≤ a → a ≤ b + 22 → M' a = M a) (h89 : M' 89 = M 89) (h90 : M' 90 = M 90) (k : IM n b M) : IM n b M' := by
  have e : dI n M' = dI n M := by unfold dI; rw [h89]
  unfold IM at *
  rw [e, h90, h b (by omega) (by omega)]
  exact ⟨k.1, k.2.1, fun h1 => ⟨(k.2.2 h1).1, CL_frame (fun a a1 a2 => h a (by omega) a2) (k.2.2 h1).2⟩⟩
theorem Inv_A {M M' : Mm} (h : offA M M') (k : Inv M) : Inv M' := by
  obtain ⟨k1, k2, k3, k4, k5, k6⟩ := k
  have eb := mB_A h
  have o := h.1
  refine ⟨by rw [eb]; exact k1, ?_, ?_, ?_, ?_, ?_⟩
  · rw [eb]; exact CL_frame (fun a a1 a2 => o a (by omega) (by omega)) k2
  · unfold Zr
    rw [o 72 (by decide) (by decide), o 73 (by decide) (by decide), o 74 (by decide) (by decide), o 75 (by decide) (by decide), o 76 (by decide) (by decide), o 77 (by decide) (by decide), o 78 (by decide) (by decide), o 79 (by decide) (by decide)]
    exact k3
  · exact IM_frame (fun a a1 a2 => o a (by omega) (by omega)) (o 89 (by decide) (by decide)) (o 90 (by decide) (by decide)) k4
  · exact IM_frame (fun a a1 a2 => o a (by omega) (by omega)) (o 89 (by decide) (by decide)) (o 90 (by decide) (by decide)) k5
  · rw [o 999 (by decide) (by decide)]; exact k6
/-- all is laid -/
def LA (M : Mm) (d : Dt) : Prop := mB M = d ∧ farOf (nC d) (fun i j => M 10 (12 * i + j)) (M 80) ∧ LQ M (nF d) (M 16) (M 17) (M 18) (M 19) (M 20) (M 21) (M 22) ∧ (∀ f : Nat, (f : Int) < nF d → M 17 f ≠ -6 → M 88 f = M 23 f) ∧ M 71 20 = pcs (M 17) (nF d).toNat
theorem k_lay {M : Mm} (h : Inv M) : OK (fX5_layAll M) (fun M' => offA M M' ∧ CL 2 M' (mB M) ∧ LA M' (mB M) ∧ Inv M') := by
  obtain ⟨hW, hL, -⟩ := id h
  obtain ⟨hC, -, ⟨-, -, hT, -⟩, S, hS⟩ := CL_2 hL
  refine ok_mono (k_layAll M hW.1 hW.2.1 hW.2.2 hC.2.2.2.2 hT hS) (fun M' h' => ?_)
  obtain ⟨a, b, c, e, f⟩ := h'
  refine ⟨a, CL_frame (fun x x1 x2 => a.1 x (by omega) (by omega)) hL, ⟨mB_A a, ?_, ?_, ?_, ?_⟩, Inv_A a h⟩
  · rw [a.1 10 (by decide) (by decide)]; exact b
  · rw [a.1 16 (by decide) (by decide), a.1 17 (by decide) (by decide), a.1 18 (by decide) (by decide), a.1 19 (by decide) (by decide), a.1 20 (by decide) (by decide), a.1 21 (by decide) (by decide), a.1 22 (by decide) (by decide)]; exact c
  · rw [a.1 17 (by decide) (by decide), a.1 23 (by decide) (by decide)]; exact e
  · rw [a.1 17 (by decide) (by decide)]; exact f
section LAS
variable {M : Mm} {d : Dt}
theorem LA_n (hL : LA M d) : M 71 10 = nF d := by rw [← hL.1]; rfl
/-- a chosen candidate's place -/
theorem LA_at (hW : Wd d) (h : CL 2 M d) (hL : LA M d) {f : Nat} (hf : (f : Int) < nF d) (hp : M 17 f ≠ -6) : f < 16 ∧ M 88 f = M 23 f ∧ (0 ≤ M 23 f ∧ M 23 f < 20) ∧ (20 * (f : Int) + M 23 f).toNat = 20 * f + (M 23 f).toNat ∧ M 81 (20 * f + (M 23 f).toNat) = spF (M 17) (M 19) (M 23) f ∧ M 83 (20 * f + (M 23 f).toNat) = M 21 (20 * f + (M 23 f).toNat) := by
  have hv := (CL_V h hf hp).1
  have hc := (CL_TS hW h f hf).1
  have n16 := hW.2.2.1
  have hq := (hL.2.2.1 f hf).2.2.2 (M 23 f).toNat (by omega)
  refine ⟨by omega, hL.2.2.2.1 f hf hp, by omega, by omega, ?_, hq.2.2.1⟩
  unfold spF
  rw [if_neg hp]
  exact hq.1
theorem m_stepOf (hW : Wd d) (h : CL 2 M d) (hL : LA M d) (x : Int) (hx : 0 ≤ x ∧ x < nF d) : OK (fX5_stepOf M x) (fun r => r = slF d (fun i j => M 10 (12 * i + j)) (M 17) (M 18) (M 19) (M 23) x.toNat) := by
  obtain ⟨f, hf⟩ : ∃ f : Nat, x.toNat = f := ⟨_, rfl⟩
  have hfx : x = (f : Int) := by omega
  have n16 := hW.2.2.1
  have hT := CL_TS hW h
  have hq := hL.2.2.1 f (by omega)
  have hpc := TS_pc hT (f := f) (by omega)
  unfold fX5_stepOf slF
  rw [hf, hq.2.1]
  refine ok_jn (ok_gd (by omega) (ok_if (fun z => ok_some (by rw [if_pos (Or.inl (by omega))])) (fun z => ok_gd (by omega) ?_)))
  have hp : M 17 f ≠ -6 := by omega
  rw [hq.2.2.1 (by omega)]
  by_cases hb : M 18 f = -6
  · rw [if_pos (Or.inr hb)]
    exact ok_f (by omega) (ok_some rfl)
  · obtain ⟨g, g1, g2, g3, -⟩ := TS_bf hT (f := f) (by omega) hp hb
    obtain ⟨a0, a1, a2, a3, a4, -⟩ := LA_at hW h hL (f := f) (by omega) hp
    obtain ⟨b0, b1, b2, b3, b4, -⟩ := LA_at hW h hL (f := g) (by omega) (by omega)
    have s1 := CL_ss hW h (f := f) (by omega) hp hb
    have s2 := CL_sf hW h (f := f) (by omega) hp
    have es : ssF (M 17) (M 18) (M 19) (M 23) f = spF (M 17) (M 19) (M 23) g := by
      unfold ssF spF
      rw [if_neg (by omega), if_neg (by omega), g2, tn]
    have ew : (if M 17 f = -6 ∨ M 18 f = -6 then (-6 : Int) else wy d (fun i j => M 10 (12 * i + j)) (ssF (M 17) (M 18) (M 19) (M 23) f) (spF (M 17) (M 19) (M 23) f)) = wy d (fun i j => M 10 (12 * i + j)) (ssF (M 17) (M 18) (M 19) (M 23) f) (spF (M 17) (M 19) (M 23) f) := if_neg (by omega)
    rw [ew, g2, tn, b1, a1, hfx, b3, a3, b4, a4, ← es]
    obtain ⟨e1, e2, -⟩ := hL
    subst e1
    refine ok_t (by omega) (ok_gd ⟨by omega, ⟨by omega, by omega⟩, by omega, by omega, ⟨by omega, by omega⟩, by omega, ⟨by omega, by omega⟩, by omega, ⟨by omega, by omega⟩, by omega⟩ (ok_cal (k_wayOf hW.1 (CL_2 h).1.2.2.2.2 e2 s1 s2) (fun r h => ok_some h)))
theorem m_isDecided (hW : Wd d) (h : CL 2 M d) (hL : LA M d) (x : Int) (hx : 0 ≤ x ∧ x < nF d) : OK (fX5_isDecided M x) (fun r => r = M 24 x.toNat) := by
  obtain ⟨-, -, -, S, hS⟩ := CL_2 h
  exact k_isDecided M (LA_n hL) hL.2.2.2.2 hW.2.2.1 (CL_TS hW h) hS hL.2.2.1 x hx
theorem m_isFix (hW : WF (mB M)) (x : Int) : OK (fX5_isFix M x) (fun r => yes r (0 ≤ x ∧ x < nF (mB M))) := by
  have n16 := hW.1
  unfold fX5_isFix
  refine ok_gd ⟨?_, ?_⟩ (ok_cal (k_in M x 0 (M 71 10 - 1)) (fun r hr => ok_gd (by unfold yes at hr; omega) (ok_some ?_)))
  · show -2147483648 ≤ nF (mB M) - 1; omega
  · show nF (mB M) - 1 ≤ 2147483647; omega
  · have e : M 71 10 = nF (mB M) := rfl
    rw [e] at hr
    unfold yes at *
    omega
end LAS
