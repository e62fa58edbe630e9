/-! from one fix to the next: costs and pointers back -/
def sj (d : Dt) (p : Int × Int) (c l st : Int) (n : Nat) : Int × Int := if c = -6 ∨ l = -6 ∨ st + ru d 3 < l then p else if p.1 = -6 ∨ c + ru d 2 * iabs (l - st) < p.1 then (c + ru d 2 * iabs (l - st), (n : Int)) else p
def jcs (d : Dt) (G : Nat → Nat → Int) (sp co : Nat → Int) (g : Nat) (s st : Int) : Nat → Int × Int
  | 0 => (-6, -6)
  | n + 1 => sj d (jcs d G sp co g s st n) (co (20 * g + n)) (wy d G (sp (20 * g + n)) s) st n
def jco (d : Dt) (p : Int × Int) (a : Int) : Int := if p.1 = -6 then -6 else p.1 + ru d 1 * a
theorem mul_b {a x A X : Int} (ha : 0 ≤ a ∧ a ≤ A) (hx : 0 ≤ x ∧ x ≤ X) : 0 ≤ a * x ∧ a * x ≤ A * X := ⟨Int.mul_nonneg ha.1 hx.1, Int.mul_le_mul ha.2 hx.2 hx.1 (Int.le_trans ha.1 ha.2)⟩
theorem jcs_congr {d : Dt} {G G2 : Nat → Nat → Int} {sp co sp2 co2 : Nat → Int} {g : Nat} {s st : Int} : ∀ n : Nat, (∀ i, i < n → co2 (20 * g + i) = co (20 * g + i) ∧ (co (20 * g + i) = -6 ∨ wy d G2 (sp2 (20 * g + i)) s = wy d G (sp (20 * g + i)) s)) → jcs d G2 sp2 co2 g s st n = jcs d G sp co g s st n
  | 0, _ => rfl
  | n + 1, h => by
    have ih := jcs_congr (d := d) (G := G) (G2 := G2) (sp := sp) (co := co) (sp2 := sp2) (co2 := co2) (g := g) (s := s) (st := st) n (fun i hi => h i (by omega))
    obtain ⟨h1, h2⟩ := h n (by omega)
    unfold jcs
    rw [ih, h1]
    rcases h2 with h2 | h2
    · unfold sj; rw [if_pos (Or.inl h2), if_pos (Or.inl h2)]
    · rw [h2]
/-- what the sum is like -/
def okC (B : Int) (c : Int) : Prop := c = -6 ∨ (0 ≤ c ∧ c ≤ B)
theorem step_b {d : Dt} (hR : WRu d) {c l st B : Int} (hst : 0 ≤ st ∧ st ≤ 126) (hc : 0 ≤ c ∧ c ≤ B) (hl : 0 ≤ l ∧ l ≤ 882) (h : ¬ st + ru d 3 < l) : 0 ≤ iabs (l - st) ∧ iabs (l - st) ≤ 126 ∧ 0 ≤ ru d 2 * iabs (l - st) ∧ ru d 2 * iabs (l - st) ≤ 1134 := by
  obtain ⟨-, -, h2, h3⟩ := hR
  have h4 : 0 ≤ iabs (l - st) ∧ iabs (l - st) ≤ 126 := by unfold iabs; split <;> omega
  have h5 := mul_b h2 h4
  omega
theorem jcs_b {d : Dt} (hN : WN d) (hR : WRu d) {G : Nat → Nat → Int} (hG : DM (nC d) (eg d) G) {sp co : Nat → Int} {g : Nat} {s st B : Int} (hs : Sp d s) (hst : 0 ≤ st ∧ st ≤ 126) : ∀ n : Nat, (∀ i, i < n → Sp d (sp (20 * g + i)) ∧ okC B (co (20 * g + i))) → (jcs d G sp co g s st n = (-6, -6)) ∨ ((0 ≤ (jcs d G sp co g s st n).1 ∧ (jcs d G sp co g s st n).1 ≤ B + 1134) ∧ ∃ i : Nat, i < n ∧ (jcs d G sp co g s st n).2 = (i : Int) ∧ co (20 * g + i) ≠ -6)
  | 0, _ => Or.inl rfl
  | n + 1, h => by
    have ih := jcs_b hN hR hG (sp := sp) (co := co) (g := g) (s := s) (st := st) (B := B) hs hst n (fun i hi => h i (by omega))
    obtain ⟨h1, h2⟩ := h n (by omega)
    have keep : (jcs d G sp co g s st n = (-6, -6)) ∨ ((0 ≤ (jcs d G sp co g s st n).1 ∧ (jcs d G sp co g s st n).1 ≤ B + 1134) ∧ ∃ i : Nat, i < n + 1 ∧ (jcs d G sp co g s st n).2 = (i : Int) ∧ co (20 * g + i) ≠ -6) := by
      rcases ih with e | ⟨e, i, e1, e2⟩
      · exact Or.inl e
      · exact Or.inr ⟨e, i, by omega, e2⟩
    have hu : jcs d G sp co g s st (n + 1) = sj d (jcs d G sp co g s st n) (co (20 * g + n)) (wy d G (sp (20 * g + n)) s) st n := rfl
    rw [hu]
    unfold sj
    split
    · exact keep
    · rename_i h3
      split
      · have w := wy_b hN hG h1 hs
        have b := step_b hR hst (c := co (20 * g + n)) (l := wy d G (sp (20 * g + n)) s) (B := B) (by unfold okC at h2; omega) (by omega) (by omega)
        unfold okC at h2
        exact Or.inr ⟨⟨by show 0 ≤ co (20 * g + n) + _; omega, by show co (20 * g + n) + _ ≤ _; omega⟩, n, by omega, rfl, by omega⟩
      · exact keep
theorem jco_b {d : Dt} (hR : WRu d) {p : Int × Int} {a B : Int} (ha : 0 ≤ a ∧ a ≤ 8) (hp : p.1 = -6 ∨ (0 ≤ p.1 ∧ p.1 ≤ B)) : (p.1 = -6 ∧ jco d p a = -6) ∨ (p.1 ≠ -6 ∧ 0 ≤ jco d p a ∧ jco d p a ≤ B + 72 ∧ jco d p a = p.1 + ru d 1 * a ∧ 0 ≤ ru d 1 * a ∧ ru d 1 * a ≤ 72) := by
  have h := mul_b hR.2.1 ha
  unfold jco
  split
  · rename_i e; exact Or.inl ⟨e, rfl⟩
  · rename_i e; exact Or.inr ⟨e, by omega, by omega, rfl, by omega, by omega⟩
/-- what a join needs of the class's rows -/
def JP (d : Dt) (M : Mm) (f g : Int) (B : Int) : Prop := CN (M 3) (M 4) (M 5) (M 6) (M 7) (M 8) (M 9) (M 10) d ∧ (M 12 1 = ru d 1 ∧ M 12 2 = ru d 2 ∧ M 12 3 = ru d 3) ∧ (0 ≤ f ∧ f < 16) ∧ (0 ≤ g ∧ g < 16) ∧ f ≠ g ∧ (0 ≤ M 16 f.toNat ∧ M 16 f.toNat ≤ 20) ∧ (0 ≤ M 16 g.toNat ∧ M 16 g.toNat ≤ 20) ∧ (∀ i : Nat, (i : Int) < M 16 g.toNat → Sp d (M 19 (20 * g.toNat + i)) ∧ okC B (M 21 (20 * g.toNat + i))) ∧ (∀ k : Nat, (k : Int) < M 16 f.toNat → Sp d (M 19 (20 * f.toNat + k)) ∧ 0 ≤ M 20 (20 * f.toNat + k) ∧ M 20 (20 * f.toNat + k) ≤ 8) ∧ ((0 ≤ M 14 f.toNat ∧ M 14 f.toNat ≤ 63) ∧ (0 ≤ M 15 f.toNat ∧ M 15 f.toNat ≤ 63)) ∧ ((0 ≤ M 14 g.toNat ∧ M 14 g.toNat ≤ 63) ∧ (0 ≤ M 15 g.toNat ∧ M 15 g.toNat ≤ 63)) ∧ (0 ≤ B ∧ B ≤ 20000)
def stM (M : Mm) (f g : Int) : Int := iabs (M 14 f.toNat - M 14 g.toNat) + iabs (M 15 f.toNat - M 15 g.toNat)
def jrM (d : Dt) (M : Mm) (f g : Int) (k : Nat) : Int × Int := jcs d (fun i j => M 10 (12 * i + j)) (M 19) (M 21) g.toNat (M 19 (20 * f.toNat + k)) (stM M f g) (M 16 g.toNat).toNat
theorem stM_b {d : Dt} {M : Mm} {f g B : Int} (h : JP d M f g B) : 0 ≤ stM M f g ∧ stM M f g ≤ 126 := by
  obtain ⟨-, -, -, -, -, -, -, -, -, h1, h2, -⟩ := h
  unfold stM iabs
  split <;> split <;> omega
theorem k_joinL46 {d : Dt} (hN : WN d) (hR : WRu d) (M : Mm) (f g kk : Int) (B : Int) (hJ : JP d M f g B) (hk : 0 ≤ kk ∧ kk < M 16 f.toNat) (k : Int → Int → Mm → Option Mm) (P : Mm → Prop) (hP : OK (k (jrM d M f g kk.toNat).1 (jrM d M f g kk.toNat).2 M) P) :
    ∀ (n : Nat) (v : Int), 0 ≤ v → v ≤ M 16 g.toNat → 20 < (n : Int) + v → OK (fX3_joinCandidate_L46 f kk g k n (stM M f g) (jcs d (fun i j => M 10 (12 * i + j)) (M 19) (M 21) g.toNat (M 19 (20 * f.toNat + kk.toNat)) (stM M f g) v.toNat).1 (jcs d (fun i j => M 10 (12 * i + j)) (M 19) (M 21) g.toNat (M 19 (20 * f.toNat + kk.toNat)) (stM M f g) v.toNat).2 v M) P := by
  have hst := stM_b hJ
  obtain ⟨hC, hr3, hf, hg, hfg, cf, cg, hgs, hfs, hxf, hxg, hB⟩ := hJ
  have hs := (hfs kk.toNat (by omega)).1
  have hG := hC.2.2.2.2
  intro n
  induction n with
  | zero => intro v h0 h1 h2; omega
  | succ n ih =>
    intro v h0 h1 h2
    unfold fX3_joinCandidate_L46
    refine ok_gd (by omega) ?_
    refine ok_if (fun h => ?_) (fun h => ?_)
    · have e : v = M 16 g.toNat := by omega
      rw [e]
      exact hP
    · have e5 : (v + 1).toNat = v.toNat + 1 := by omega
      have hv := hgs v.toNat (by omega)
      have ihv := ih (v + 1) (by omega) (by omega) (by omega)
      rw [e5] at ihv
      have hpb := jcs_b hN hR hG (sp := M 19) (co := M 21) (g := g.toNat) (s := M 19 (20 * f.toNat + kk.toNat)) (st := stM M f g) (B := B) hs hst v.toNat (fun i hi => hgs i (by omega))
      have hu : jcs d (fun i j => M 10 (12 * i + j)) (M 19) (M 21) g.toNat (M 19 (20 * f.toNat + kk.toNat)) (stM M f g) (v.toNat + 1) = sj d (jcs d (fun i j => M 10 (12 * i + j)) (M 19) (M 21) g.toNat (M 19 (20 * f.toNat + kk.toNat)) (stM M f g) v.toNat) (M 21 (20 * g.toNat + v.toNat)) (wy d (fun i j => M 10 (12 * i + j)) (M 19 (20 * g.toNat + v.toNat)) (M 19 (20 * f.toNat + kk.toNat))) (stM M f g) v.toNat := rfl
      have hw := wy_b hN hG hv.1 hs
      have kw := k_wayLength hN hC hv.1 hs
      rw [hu] at ihv
      generalize hp : jcs d (fun i j => M 10 (12 * i + j)) (M 19) (M 21) g.toNat (M 19 (20 * f.toNat + kk.toNat)) (stM M f g) v.toNat = p at *
      generalize hwv : wy d (fun i j => M 10 (12 * i + j)) (M 19 (20 * g.toNat + v.toNat)) (M 19 (20 * f.toNat + kk.toNat)) = l at *
      generalize hst2 : stM M f g = st at *
      have ev : ((v.toNat : Nat) : Int) = v := by omega
      have nxt : ∀ a b, (a, b) = sj d p (M 21 (20 * g.toNat + v.toNat)) l st v.toNat → OK (gd (inR (v + 1)) (fX3_joinCandidate_L46 f kk g k n st a b (v + 1) M)) P := by
        intro a b hab
        rw [← hab] at ihv
        exact ok_gd (by omega) ihv
      have pe : (p.1, p.2) = p := rfl
      have r3 : M 12 (3 : Int).toNat = ru d 3 := hr3.2.2
      have r2 : M 12 (2 : Int).toNat = ru d 2 := hr3.2.1
      obtain ⟨-, -, w2, w3⟩ := id hR
      refine ok_jnK (fun K => ∀ w, (M 21 (20 * g.toNat + v.toNat) = -6 ∧ w = -6) ∨ (M 21 (20 * g.toNat + v.toNat) ≠ -6 ∧ w = l) → OK (K st p.1 p.2 v (M 21 (20 * g.toNat + v.toNat)) w M) P) (fun w hw2 => ?_) (fun K hK => ?_)
      · refine ok_jn ?_
        rw [r3, r2]
        refine ok_if (fun q1 => nxt p.1 p.2 ?_) (fun q1 => ok_gd (by omega) ?_)
        · rw [pe]; unfold sj
          rw [if_pos]
          rcases hw2 with hw2 | hw2
          · exact Or.inl hw2.1
          · exact Or.inr (Or.inl (by omega))
        · have q2 : M 21 (20 * g.toNat + v.toNat) ≠ -6 ∧ w = l := by
            rcases hw2 with hw2 | hw2
            · exact absurd hw2.2 q1
            · exact hw2
          obtain ⟨q2, rfl⟩ := q2
          refine ok_if (fun q3 => ok_jn ?_) (fun q3 => nxt p.1 p.2 ?_)
          · have hc2 : 0 ≤ M 21 (20 * g.toNat + v.toNat) ∧ M 21 (20 * g.toNat + v.toNat) ≤ B := by have := hv.2; unfold okC at this; omega
            have b := step_b hR hst (c := M 21 (20 * g.toNat + v.toNat)) (l := w) (B := B) hc2 (by omega) (by omega)
            have hsj : sj d p (M 21 (20 * g.toNat + v.toNat)) w st v.toNat = if p.1 = -6 ∨ M 21 (20 * g.toNat + v.toNat) + ru d 2 * iabs (w - st) < p.1 then (M 21 (20 * g.toNat + v.toNat) + ru d 2 * iabs (w - st), ((v.toNat : Nat) : Int)) else p := by
              unfold sj; rw [if_neg (by omega)]
            refine ok_gd (by omega) (ok_gd (by omega) (ok_bnd (fun t ht => ?_)))
            refine ok_if (fun q4 => nxt t v ?_) (fun q4 => ok_if (fun q5 => nxt p.1 p.2 ?_) (fun q5 => nxt t v ?_))
            · rw [hsj, if_pos (Or.inl q4), ev, ht]
            · rw [hsj, if_neg (by omega)]
            · rw [hsj, if_pos (Or.inr (by omega)), ev, ht]
          · rw [pe]; unfold sj; rw [if_pos (Or.inr (Or.inr (by omega)))]
      · refine ok_cal (k_slot M hg (k := v) (by omega)) (fun r54 h54 => ok_gd h54.2 ?_)
        have i54 : r54.toNat = 20 * g.toNat + v.toNat := by omega
        rw [i54]
        refine ok_if (fun q1 => hK (-6) (Or.inl ⟨q1, rfl⟩)) (fun q1 => ok_cal (k_slot M hg (k := v) (by omega)) (fun r55 h55 => ok_gd h55.2 (ok_cal (k_slot M hf (k := kk) (by omega)) (fun r56 h56 => ok_gd h56.2 ?_))))
        have i55 : r55.toNat = 20 * g.toNat + v.toNat := by omega
        have i56 : r56.toNat = 20 * f.toNat + kk.toNat := by omega
        rw [i55, i56]
        exact ok_cal kw (fun r57 h57 => hK r57 (Or.inr ⟨q1, h57⟩))
theorem k_joinCandidate {d : Dt} (hN : WN d) (hR : WRu d) (M : Mm) (f g kk : Int) (B : Int) (hJ : JP d M f g B) (hk : 0 ≤ kk ∧ kk < M 16 f.toNat) : OK (fX3_joinCandidate M f kk g) (fun M' => (∀ a, a ≠ 21 → a ≠ 22 → M' a = M a) ∧ M' 21 = uf (M 21) (20 * f.toNat + kk.toNat) (jco d (jrM d M f g kk.toNat) (M 20 (20 * f.toNat + kk.toNat))) ∧ M' 22 = uf (M 22) (20 * f.toNat + kk.toNat) (jrM d M f g kk.toNat).2) := by
  have hst := stM_b hJ
  obtain ⟨hC, hr3, hf, hg, hfg, cf, cg, hgs, hfs, hxf, hxg, hB⟩ := id hJ
  have hs := hfs kk.toNat (by omega)
  have hG := hC.2.2.2.2
  have hpb := jcs_b hN hR hG (sp := M 19) (co := M 21) (g := g.toNat) (s := M 19 (20 * f.toNat + kk.toNat)) (st := stM M f g) (B := B) hs.1 hst (M 16 g.toNat).toNat (fun i hi => hgs i (by omega))
  have hjb := jco_b hR (p := jrM d M f g kk.toNat) (a := M 20 (20 * f.toNat + kk.toNat)) (B := B + 1134) hs.2 (by
    unfold jrM
    rcases hpb with e | e
    · rw [e]; exact Or.inl rfl
    · exact Or.inr e.1)
  unfold fX3_joinCandidate
  refine ok_gd (by omega) (ok_gd (by omega) (ok_gd (by unfold iabs; split <;> split <;> omega) (ok_bnd (fun t ht => ?_))))
  have ht2 : t = stM M f g := ht
  rw [ht2]
  refine k_joinL46 hN hR M f g kk B hJ hk _ _ ?_ 1000 0 (by omega) (by omega) (by omega)
  have mb := mul_b hR.2.1 hs.2
  have fin : ∀ c w14 : Int, c = jco d (jrM d M f g kk.toNat) (M 20 (20 * f.toNat + kk.toNat)) → (w14 = f * 20 + kk ∧ 0 ≤ w14 ∧ w14 < 320) → OK (gd ((0 ≤ w14 ∧ w14 < 320)) (bnd (up M 21 w14.toNat c) (fun (M17 : Mm) => cal (fX3_slot M17 f kk) (fun (r18 : Int) => gd ((0 ≤ r18 ∧ r18 < 320)) (bnd (up M17 22 r18.toNat (jrM d M f g kk.toNat).2) (fun (M19 : Mm) => some M19)))))) (fun M' => (∀ a, a ≠ 21 → a ≠ 22 → M' a = M a) ∧ M' 21 = uf (M 21) (20 * f.toNat + kk.toNat) (jco d (jrM d M f g kk.toNat) (M 20 (20 * f.toNat + kk.toNat))) ∧ M' 22 = uf (M 22) (20 * f.toNat + kk.toNat) (jrM d M f g kk.toNat).2) := by
    intro c w14 hc hw
    refine ok_gd hw.2 (ok_bnd (fun M17 e17 => ok_cal (k_slot M17 hf (k := kk) (by omega)) (fun r18 h18 => ok_gd h18.2 (ok_bnd (fun M19 e19 => ok_some ?_)))))
    have i1 : w14.toNat = 20 * f.toNat + kk.toNat := by omega
    have i2 : r18.toNat = 20 * f.toNat + kk.toNat := by omega
    rw [i1] at e17
    rw [i2] at e19
    refine ⟨fun a a1 a2 => by rw [e19, up_row a2, e17, up_row a1], ?_, ?_⟩
    · rw [e19, up_row (by decide), e17, ← hc]; funext j; rw [up_at]; rfl
    · rw [e19]; funext j; rw [up_at, e17, up_row (by decide)]; rfl
  have r1 : M 12 (1 : Int).toNat = ru d 1 := hr3.1
  refine ok_jn (ok_cal (k_slot M hf (k := kk) (by omega)) (fun r22 h22 => ?_))
  have i22 : r22.toNat = 20 * f.toNat + kk.toNat := by omega
  rw [i22, r1]
  refine ok_gd (by omega) (ok_bnd (fun t23 e23 => ok_cal (k_slot M hf (k := kk) (by omega)) (fun r24 h24 => ?_)))
  refine ok_if (fun q => fin (-6) r24 ?_ h24) (fun q => ok_gd (by omega) (fin _ r24 ?_ h24))
  · unfold jco; rw [if_pos q]
  · unfold jco; rw [if_neg q, e23]
