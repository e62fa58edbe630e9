/-! candidates of a fix -/
def sB (d : Dt) (x y : Int) (r : Nat) : Bool := decide (apR d r x y ≤ ru d 0)
/-- cn: how many; sp, ap: their spots and how far apart -/
def CD (d : Dt) (f : Nat) (cn sp ap : Nat → Int) : Prop := cn f = ((cN (sB d (fx d f) (fy d f)) (nR d).toNat : Nat) : Int) ∧ ∀ r : Nat, (r : Int) < nR d → sB d (fx d f) (fy d f) r = true → sp (20 * f + cN (sB d (fx d f) (fy d f)) r) = 100 * (r : Int) + ofR d r (fx d f) (fy d f) ∧ ap (20 * f + cN (sB d (fx d f) (fy d f)) r) = apR d r (fx d f) (fy d f)
theorem cN_sur (p : Nat → Bool) : ∀ n k, k < cN p n → ∃ r, r < n ∧ p r = true ∧ cN p r = k
  | 0, k, h => by unfold cN at h; omega
  | n + 1, k, h => by
    rw [cN_succ] at h
    by_cases hk : k < cN p n
    · obtain ⟨r, h1, h2, h3⟩ := cN_sur p n k hk
      exact ⟨r, by omega, h2, h3⟩
    · by_cases hp : p n = true
      · rw [if_pos hp] at h
        exact ⟨n, by omega, hp, by omega⟩
      · rw [if_neg hp] at h; omega
theorem cN_lt_of (p : Nat → Bool) : ∀ n r, r < n → p r = true → cN p r < cN p n
  | 0, r, h, _ => by omega
  | n + 1, r, h, hp => by
    rw [cN_succ]
    by_cases hr : r = n
    · subst hr; rw [if_pos hp]; omega
    · have := cN_lt_of p n r (by omega) hp
      omega
theorem ap_nn {d : Dt} {r : Nat} {x y : Int} : 0 ≤ apR d r x y := by
  unfold apR
  have h1 := iabs_nn (held x (cx d (rF d r)) (cx d (rL d r)) - x)
  have h2 := iabs_nn (held y (cy d (rF d r)) (cy d (rL d r)) - y)
  omega
theorem sp_Sp {d : Dt} (hN : WN d) {r : Nat} (hr : (r : Int) < nR d) (x y : Int) : Sp d (100 * (r : Int) + ofR d r x y) := by
  have hl := len_b hN hr
  have g := (geo2 hN hr (t := 0) (by omega) x y).2
  have e1 : sr (100 * (r : Int) + ofR d r x y) = r := by unfold sr; omega
  refine ⟨by omega, by omega, ?_⟩
  rw [e1]
  unfold so
  omega
/-- a candidate: what is known of it -/
theorem CD_k {d : Dt} (hN : WN d) (hR : WRu d) {f : Nat} {cn sp ap : Nat → Int} (h : CD d f cn sp ap) {k : Nat} (hk : (k : Int) < cn f) : ∃ r : Nat, (r : Int) < nR d ∧ sB d (fx d f) (fy d f) r = true ∧ cN (sB d (fx d f) (fy d f)) r = k ∧ sp (20 * f + k) = 100 * (r : Int) + ofR d r (fx d f) (fy d f) ∧ ap (20 * f + k) = apR d r (fx d f) (fy d f) ∧ Sp d (sp (20 * f + k)) ∧ 0 ≤ ap (20 * f + k) ∧ ap (20 * f + k) ≤ 8 := by
  have n1 := hN.2.1
  obtain ⟨r, h1, h2, h3⟩ := cN_sur (sB d (fx d f) (fy d f)) (nR d).toNat k (by rw [h.1] at hk; omega)
  have h4 := h.2 r (by omega) h2
  rw [h3] at h4
  have h5 : apR d r (fx d f) (fy d f) ≤ ru d 0 := by unfold sB at h2; exact of_decide_eq_true h2
  have h6 := hR.1
  have h7 := ap_nn (d := d) (r := r) (x := fx d f) (y := fy d f)
  exact ⟨r, by omega, h2, h3, h4.1, h4.2, by rw [h4.1]; exact sp_Sp hN (by omega) _ _, by rw [h4.2]; exact h7, by rw [h4.2]; omega⟩
theorem CD_n {d : Dt} (hN : WN d) {f : Nat} {cn sp ap : Nat → Int} (h : CD d f cn sp ap) : 0 ≤ cn f ∧ cn f ≤ 20 := by
  have n1 := hN.2.1
  have := cN_le (sB d (fx d f) (fy d f)) (nR d).toNat
  rw [h.1]
  omega
/-- both have the same candidates -/
theorem CD_uniq {d : Dt} (hN : WN d) (hR : WRu d) {f : Nat} {cn sp ap cn2 sp2 ap2 : Nat → Int} (h : CD d f cn sp ap) (h2 : CD d f cn2 sp2 ap2) : cn f = cn2 f ∧ ∀ k : Nat, (k : Int) < cn f → sp (20 * f + k) = sp2 (20 * f + k) ∧ ap (20 * f + k) = ap2 (20 * f + k) := by
  have e : cn f = cn2 f := h.1.trans h2.1.symm
  refine ⟨e, fun k hk => ?_⟩
  obtain ⟨r, a1, a2, a3, a4, a5, -⟩ := CD_k hN hR h hk
  have b := h2.2 r a1 a2
  rw [a3] at b
  rw [a4, a5, b.1, b.2]
  exact ⟨rfl, rfl⟩
theorem CD_congr {d d' : Dt} {f : Nat} {cn sp ap cn' sp' ap' : Nat → Int} (hd : nR d' = nR d ∧ ru d' = ru d ∧ apR d' = apR d ∧ ofR d' = ofR d ∧ fx d' f = fx d f ∧ fy d' f = fy d f) (hn : cn f ≤ 20) (h1 : cn' f = cn f) (h2 : ∀ k : Nat, k < 20 → sp' (20 * f + k) = sp (20 * f + k) ∧ ap' (20 * f + k) = ap (20 * f + k)) (h : CD d f cn sp ap) : CD d' f cn' sp' ap' := by
  obtain ⟨e1, e2, e3, e4, e5, e6⟩ := hd
  have es : sB d' (fx d f) (fy d f) = sB d (fx d f) (fy d f) := by funext r; unfold sB; rw [e2, e3]
  unfold CD
  rw [e5, e6, es, e1, e4, e3]
  refine ⟨h1.trans h.1, fun r hr hs => ?_⟩
  have hk : cN (sB d (fx d f) (fy d f)) r < 20 := by
    have a := cN_lt_of (sB d (fx d f) (fy d f)) (nR d).toNat r (by omega) hs
    have b := h.1
    omega
  rw [(h2 _ hk).1, (h2 _ hk).2]
  exact h.2 r hr hs
theorem k_slot (M : Mm) {f k : Int} (hf : 0 ≤ f ∧ f < 16) (hk : 0 ≤ k ∧ k < 20) : OK (fX3_slot M f k) (fun r => r = f * 20 + k ∧ 0 ≤ r ∧ r < 320) := by
  unfold fX3_slot
  refine ok_gd (by omega) (ok_some ?_)
  omega
/-- the class's candidates, road by road -/
def CDp (d : Dt) (f : Nat) (x y : Int) (v : Int) (c : Int) (sp ap : Nat → Int) : Prop := c = ((cN (sB d x y) v.toNat : Nat) : Int) ∧ ∀ r : Nat, (r : Int) < v → sB d x y r = true → sp (20 * f + cN (sB d x y) r) = 100 * (r : Int) + ofR d r x y ∧ ap (20 * f + cN (sB d x y) r) = apR d r x y
theorem k_findCandL {d : Dt} (hN : WN d) (k : Int → Mm → Option Mm) (P : Mm → Prop) (M0 : Mm) (hC : CN (M0 3) (M0 4) (M0 5) (M0 6) (M0 7) (M0 8) (M0 9) (M0 10) d) (hru : M0 12 0 = ru d 0) (f : Int) (hf : 0 ≤ f ∧ f < 16) (hx : 0 ≤ M0 14 f.toNat ∧ M0 14 f.toNat ≤ 63) (hy : 0 ≤ M0 15 f.toNat ∧ M0 15 f.toNat ≤ 63)
    (hk : ∀ c M', (∀ a, a ≠ 19 → a ≠ 20 → M' a = M0 a) → (∀ j : Nat, j < 20 * f.toNat → M' 19 j = M0 19 j ∧ M' 20 j = M0 20 j) → CDp d f.toNat (M0 14 f.toNat) (M0 15 f.toNat) (nR d) c (M' 19) (M' 20) → OK (k c M') P) :
    ∀ (n : Nat) (c v : Int) (M : Mm), 0 ≤ v → v ≤ nR d → 20 < (n : Int) + v → (∀ a, a ≠ 19 → a ≠ 20 → M a = M0 a) → (∀ j : Nat, j < 20 * f.toNat → M 19 j = M0 19 j ∧ M 20 j = M0 20 j) → CDp d f.toNat (M0 14 f.toNat) (M0 15 f.toNat) v c (M 19) (M 20) → OK (fX3_findCandidates_L4 f k n c v M) P := by
  have n1 := hN.2.1
  intro n
  induction n with
  | zero => intro c v M h0 h1 h2; omega
  | succ n ih =>
    intro c v M h0 h1 h2 h3 h4 h5
    have cb := cN_le (sB d (M0 14 f.toNat) (M0 15 f.toNat)) v.toNat
    have hc := h5.1
    have e3 := h3 3 (by decide) (by decide)
    have hC2 : CN (M 3) (M 4) (M 5) (M 6) (M 7) (M 8) (M 9) (M 10) d := by
      rw [e3, h3 4 (by decide) (by decide), h3 5 (by decide) (by decide), h3 6 (by decide) (by decide), h3 7 (by decide) (by decide), h3 8 (by decide) (by decide), h3 9 (by decide) (by decide), h3 10 (by decide) (by decide)]
      exact hC
    have e31 : M 3 1 = nR d := hC2.2.1
    unfold fX3_findCandidates_L4
    refine ok_if (fun h => ?_) (fun h => ?_)
    · have : v = nR d := by omega
      rw [this] at h5
      exact hk c M h3 h4 h5
    · have e5 : (v + 1).toNat = v.toNat + 1 := by omega
      have g14 := h3 14 (by decide) (by decide)
      have g15 := h3 15 (by decide) (by decide)
      have g12 : M 12 (0 : Int).toNat = ru d 0 := by rw [h3 12 (by decide) (by decide)]; exact hru
      rw [g14, g15, g12]
      refine ok_jn (ok_gd (by omega) (ok_cal (k_apartFromRoad hN hC2 ⟨h0, by omega⟩ hx hy) (fun r13 e13 => ?_)))
      refine ok_if (fun h6 => ?_) (fun h6 => ?_)
      · refine ok_gd (by omega) (ih c (v + 1) M (by omega) (by omega) (by omega) h3 h4 ⟨?_, fun r hr hs => ?_⟩)
        · rw [e5, cN_succ, if_neg (by unfold sB; rw [decide_eq_true_iff]; omega)]; exact hc
        · by_cases hrv : r = v.toNat
          · rw [hrv] at hs
            unfold sB at hs
            rw [decide_eq_true_iff] at hs
            omega
          · exact h5.2 r (by omega) hs
      · have hsel : sB d (M0 14 f.toNat) (M0 15 f.toNat) v.toNat = true := by unfold sB; rw [decide_eq_true_iff]; omega
        have hcv : c < 20 := by omega
        refine ok_cal (k_slot M hf (k := c) (by omega)) (fun r14 h14 => ok_gd (by omega) (ok_cal (k_nearestSpot hN hC2 ⟨h0, by omega⟩ hx hy) (fun r15 e15 => ok_gd h14.2 (ok_bnd (fun M2 e2 => ok_cal (k_slot M2 hf (k := c) (by omega)) (fun r17 h17 => ok_gd h17.2 (ok_bnd (fun M3 e3 => ok_gd (by omega) (ok_gd (by omega) ?_)))))))))
        have i14 : r14.toNat = 20 * f.toNat + cN (sB d (M0 14 f.toNat) (M0 15 f.toNat)) v.toNat := by omega
        have i17 : r17.toNat = 20 * f.toNat + cN (sB d (M0 14 f.toNat) (M0 15 f.toNat)) v.toNat := by omega
        have s19 : M3 19 = uf (M 19) r14.toNat r15 := by rw [e3, up_row (by decide), e2]; funext j; rw [up_at]; rfl
        have s20 : M3 20 = uf (M 20) r17.toNat r13 := by rw [e3]; funext j; rw [up_at, e2, up_row (by decide)]; rfl
        refine ih (c + 1) (v + 1) M3 (by omega) (by omega) (by omega) (fun a a1 a2 => by rw [e3, up_row a2, e2, up_row a1, h3 a a1 a2]) (fun j hj => ?_) ⟨?_, fun r hr hs => ?_⟩
        · rw [s19, s20]
          unfold uf
          rw [if_neg (by omega), if_neg (by omega)]
          exact h4 j hj
        · rw [e5, cN_succ, if_pos hsel]; omega
        · rw [s19, s20, i14, i17]
          unfold uf
          by_cases hrv : r = v.toNat
          · rw [hrv, if_pos rfl, if_pos rfl, e15, e13]
            exact ⟨by omega, rfl⟩
          · have hlt := cN_lt_of (sB d (M0 14 f.toNat) (M0 15 f.toNat)) v.toNat r (by omega) hs
            rw [if_neg (by omega), if_neg (by omega)]
            exact h5.2 r (by omega) hs
theorem k_findCandidates {d : Dt} (hN : WN d) (M : Mm) (hC : CN (M 3) (M 4) (M 5) (M 6) (M 7) (M 8) (M 9) (M 10) d) (hru : M 12 0 = ru d 0) (f : Int) (hf : 0 ≤ f ∧ f < 16) (hx : 0 ≤ M 14 f.toNat ∧ M 14 f.toNat ≤ 63) (hy : 0 ≤ M 15 f.toNat ∧ M 15 f.toNat ≤ 63) : OK (fX3_findCandidates M f) (fun M' => (∀ a, a ≠ 16 → a ≠ 19 → a ≠ 20 → M' a = M a) ∧ (∀ j : Nat, j < 20 * f.toNat → M' 19 j = M 19 j ∧ M' 20 j = M 20 j) ∧ (∀ j : Nat, j ≠ f.toNat → M' 16 j = M 16 j) ∧ CDp d f.toNat (M 14 f.toNat) (M 15 f.toNat) (nR d) (M' 16 f.toNat) (M' 19) (M' 20)) := by
  have n1 := hN.2.1
  unfold fX3_findCandidates
  refine k_findCandL hN _ _ M hC hru f hf hx hy (fun c M2 g1 g2 g3 => ok_gd (by omega) (ok_bnd (fun M3 e3 => ok_some ?_))) 1000 0 0 M (by omega) (by omega) (by omega) (fun _ _ _ => rfl) (fun _ _ => ⟨rfl, rfl⟩) ⟨rfl, fun r hr => by omega⟩
  refine ⟨fun a a1 a2 a3 => by rw [e3, up_row a1, g1 a a2 a3], fun j hj => by rw [e3, up_row (by decide), up_row (by decide)]; exact g2 j hj, fun j hj => by rw [e3, up_ne hj, g1 16 (by decide) (by decide)], ?_⟩
  rw [e3, up_eq, up_row (by decide), up_row (by decide)]
  exact g3
/-- the reference's candidates -/
theorem k_layCandL (M0 : Mm) (hN : WN (mB M0)) (hR : WRu (mB M0)) (f : Int) (hf : 0 ≤ f ∧ f < 16) (hx : 0 ≤ M0 78 f.toNat ∧ M0 78 f.toNat ≤ 63) (hy : 0 ≤ M0 79 f.toNat ∧ M0 79 f.toNat ≤ 63) :
    ∀ (n : Nat) (v : Int) (M : Mm), 0 ≤ v → v ≤ nR (mB M0) → 20 < (n : Int) + v → (∀ a, a ≠ 81 → a ≠ 82 → a ≠ 85 → M a = M0 a) → (∀ j : Nat, j < 20 * f.toNat → M 81 j = M0 81 j ∧ M 82 j = M0 82 j) → (∀ j : Nat, j ≠ f.toNat → M 85 j = M0 85 j) → CDp (mB M0) f.toNat (M0 78 f.toNat) (M0 79 f.toNat) v (M 85 f.toNat) (M 81) (M 82) → OK (fX5_layCandidates_L9 f n v M) (fun M' => (∀ a, a ≠ 81 → a ≠ 82 → a ≠ 85 → M' a = M0 a) ∧ (∀ j : Nat, j < 20 * f.toNat → M' 81 j = M0 81 j ∧ M' 82 j = M0 82 j) ∧ (∀ j : Nat, j ≠ f.toNat → M' 85 j = M0 85 j) ∧ CDp (mB M0) f.toNat (M0 78 f.toNat) (M0 79 f.toNat) (nR (mB M0)) (M' 85 f.toNat) (M' 81) (M' 82)) := by
  have n1 := hN.2.1
  intro n
  induction n with
  | zero => intro v M h0 h1 h2; omega
  | succ n ih =>
    intro v M h0 h1 h2 h3 h4 h4b h5
    have cb := cN_le (sB (mB M0) (M0 78 f.toNat) (M0 79 f.toNat)) v.toNat
    have hc := h5.1
    have eb : mB M = mB M0 := by
      unfold mB
      rw [h3 71 (by decide) (by decide) (by decide), h3 72 (by decide) (by decide) (by decide), h3 73 (by decide) (by decide) (by decide), h3 74 (by decide) (by decide) (by decide), h3 75 (by decide) (by decide) (by decide), h3 76 (by decide) (by decide) (by decide), h3 77 (by decide) (by decide) (by decide), h3 78 (by decide) (by decide) (by decide), h3 79 (by decide) (by decide) (by decide)]
    have hN2 : WN (mB M) := by rw [eb]; exact hN
    have e6 : M 71 6 = nR (mB M0) := by rw [h3 71 (by decide) (by decide) (by decide)]; rfl
    have hv : v < nR (mB M0) → 0 ≤ v ∧ v < nR (mB M) := fun h => by rw [eb]; exact ⟨h0, h⟩
    unfold fX5_layCandidates_L9
    refine ok_if (fun h => ok_some ?_) (fun h => ?_)
    · have : v = nR (mB M0) := by omega
      rw [this] at h5
      exact ⟨h3, h4, h4b, h5⟩
    · have e5 : (v + 1).toNat = v.toNat + 1 := by omega
      have g14 := h3 78 (by decide) (by decide) (by decide)
      have g15 := h3 79 (by decide) (by decide) (by decide)
      have g12 : M 77 (0 : Int).toNat = ru (mB M0) 0 := by rw [h3 77 (by decide) (by decide) (by decide)]; rfl
      rw [g14, g15, g12]
      have hv2 := hv (by omega)
      have hr : ((v.toNat : Nat) : Int) < nR (mB M0) := by omega
      have hl := len_b hN hr
      have go := geo2 hN hr (t := ofR (mB M0) v.toNat (M0 78 f.toNat) (M0 79 f.toNat)) (by have := (geo2 hN hr (t := 0) (by omega) (M0 78 f.toNat) (M0 79 f.toNat)).2; exact this) (M0 78 f.toNat) (M0 79 f.toNat)
      refine ok_jn (ok_gd (by omega) (ok_cal (k_nearest hN2 hv2 hx hy) (fun r8 e8 => ?_)))
      rw [eb] at e8
      have b8 : 0 ≤ r8 ∧ r8 ≤ 63 := by omega
      refine ok_cal (k_spotXY hN2 hv2 (t := r8) b8).1 (fun r9 e9 => ok_cal (k_spotXY hN2 hv2 (t := r8) b8).2 (fun r10 e10 => ok_gd (by omega) (ok_cal (k_dist hN2 hv2 (t := r8) b8 hx hy e9 e10) (fun r11 e11 => ?_))))
      rw [eb, e8, go.1, Int.sub_self, iabs0, Int.add_zero] at e11
      refine ok_if (fun h6 => ?_) (fun h6 => ?_)
      · refine ok_gd (by omega) (ih (v + 1) M (by omega) (by omega) (by omega) h3 h4 h4b ⟨?_, fun r hr hs => ?_⟩)
        · rw [e5, cN_succ, if_neg (by unfold sB; rw [decide_eq_true_iff]; omega)]; exact hc
        · by_cases hrv : r = v.toNat
          · rw [hrv] at hs
            unfold sB at hs
            rw [decide_eq_true_iff] at hs
            omega
          · exact h5.2 r (by omega) hs
      · have hsel : sB (mB M0) (M0 78 f.toNat) (M0 79 f.toNat) v.toNat = true := by unfold sB; rw [decide_eq_true_iff]; omega
        have hR0 := hR.1
        have an := ap_nn (d := mB M0) (r := v.toNat) (x := M0 78 f.toNat) (y := M0 79 f.toNat)
        refine ok_gd (by omega) (ok_bnd (fun M2 e2 => ?_))
        have s85 : M2 85 f.toNat = M 85 f.toNat := by rw [e2, up_row (by decide)]
        refine ok_gd (by omega) (ok_bnd (fun M3 e3 => ?_))
        have t85 : M3 85 f.toNat = M 85 f.toNat := by rw [e3, up_row (by decide)]; exact s85
        refine ok_gd (by omega) (ok_bnd (fun M4 e4 => ok_gd (by omega) ?_))
        rw [s85] at e3
        rw [t85] at e4
        have i14 : (20 * f + M 85 f.toNat).toNat = 20 * f.toNat + cN (sB (mB M0) (M0 78 f.toNat) (M0 79 f.toNat)) v.toNat := by omega
        rw [i14] at e2 e3
        have s81 : M4 81 = uf (M 81) (20 * f.toNat + cN (sB (mB M0) (M0 78 f.toNat) (M0 79 f.toNat)) v.toNat) (100 * v + r8) := by rw [e4, up_row (by decide), e3, up_row (by decide), e2]; funext j; rw [up_at]; rfl
        have s82 : M4 82 = uf (M 82) (20 * f.toNat + cN (sB (mB M0) (M0 78 f.toNat) (M0 79 f.toNat)) v.toNat) r11 := by rw [e4, up_row (by decide), e3]; funext j; rw [up_at, e2, up_row (by decide)]; rfl
        have u85 : ∀ j, M4 85 j = if j = f.toNat then M 85 f.toNat + 1 else M 85 j := fun j => by rw [e4, up_at, e3, up_row (by decide), e2, up_row (by decide)]
        refine ih (v + 1) M4 (by omega) (by omega) (by omega) (fun a a1 a2 a3 => by rw [e4, up_row a3, e3, up_row a2, e2, up_row a1, h3 a a1 a2 a3]) (fun j hj => ?_) (fun j hj => by rw [u85, if_neg hj]; exact h4b j hj) ⟨?_, fun r hr hs => ?_⟩
        · rw [s81, s82]
          unfold uf
          rw [if_neg (by omega), if_neg (by omega)]
          exact h4 j hj
        · rw [u85, if_pos rfl, e5, cN_succ, if_pos hsel]; omega
        · rw [s81, s82]
          unfold uf
          by_cases hrv : r = v.toNat
          · rw [hrv, if_pos rfl, if_pos rfl, e8, e11]
            exact ⟨by omega, rfl⟩
          · have hlt := cN_lt_of (sB (mB M0) (M0 78 f.toNat) (M0 79 f.toNat)) v.toNat r (by omega) hs
            rw [if_neg (by omega), if_neg (by omega)]
            exact h5.2 r (by omega) hs
theorem k_layCandidates (M : Mm) (hN : WN (mB M)) (hR : WRu (mB M)) (f : Int) (hf : 0 ≤ f ∧ f < 16) (hx : 0 ≤ M 78 f.toNat ∧ M 78 f.toNat ≤ 63) (hy : 0 ≤ M 79 f.toNat ∧ M 79 f.toNat ≤ 63) : OK (fX5_layCandidates M f) (fun M' => (∀ a, a ≠ 81 → a ≠ 82 → a ≠ 85 → M' a = M a) ∧ (∀ j : Nat, j < 20 * f.toNat → M' 81 j = M 81 j ∧ M' 82 j = M 82 j) ∧ (∀ j : Nat, j ≠ f.toNat → M' 85 j = M 85 j) ∧ CD (mB M) f.toNat (M' 85) (M' 81) (M' 82)) := by
  have n1 := hN.2.1
  unfold fX5_layCandidates
  refine ok_gd hf (ok_bnd (fun M1 e1 => ?_))
  have r1 : ∀ a, a ≠ 85 → M1 a = M a := fun a ha => by rw [e1, up_row ha]
  have eb : mB M1 = mB M := by
    unfold mB
    rw [r1 71 (by decide), r1 72 (by decide), r1 73 (by decide), r1 74 (by decide), r1 75 (by decide), r1 76 (by decide), r1 77 (by decide), r1 78 (by decide), r1 79 (by decide)]
  refine ok_mono (k_layCandL M1 (by rw [eb]; exact hN) (by rw [eb]; exact hR) f hf (by rw [r1 78 (by decide)]; exact hx) (by rw [r1 79 (by decide)]; exact hy) 1000 0 M1 (by omega) (by rw [eb]; omega) (by omega) (fun _ _ _ _ => rfl) (fun _ _ => ⟨rfl, rfl⟩) (fun _ _ => rfl) ⟨by rw [e1, up_eq]; rfl, fun r hr => by omega⟩) (fun M' h => ?_)
  obtain ⟨q1, q2, q3, q4⟩ := h
  rw [eb, r1 78 (by decide), r1 79 (by decide)] at q4
  refine ⟨fun a a1 a2 a3 => by rw [q1 a a1 a2 a3, r1 a a3], fun j hj => ?_, fun j hj => by rw [q3 j hj, e1, up_ne hj], q4⟩
  rw [(q2 j hj).1, (q2 j hj).2, r1 81 (by decide), r1 82 (by decide)]
  exact ⟨rfl, rfl⟩
