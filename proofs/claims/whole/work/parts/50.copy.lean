/-! copies of a state -/
theorem DM_congr {c : Int} {E : Nat → Nat → Int → Prop} {F G : Nat → Nat → Int} (hE : EB c E) (h : ∀ i j : Nat, (i : Int) < c → (j : Int) < c → G i j = F i j) (hF : DM c E F) : DM c E G := by
  refine ⟨fun i hi => by rw [h i i hi hi]; exact hF.1 i hi, fun i j hi hj => by rw [h i j hi hj]; exact hF.2.1 i j hi hj, fun i k w j he hj hk => ?_⟩
  have hb := hE.2 _ _ _ he
  rw [h k j hb.2.2 hj] at hk ⊢
  rw [h i j hb.2.1 hj]
  exact hF.2.2 i k w j he hj hk
theorem CN_congr {d : Dt} (hW : WN d) {o x y f l k g t o' x' y' f' l' k' g' t' : Nat → Int} (h0 : o' 0 = o 0) (h1 : o' 1 = o 1) (hx : ∀ j, j < 12 → x' j = x j ∧ y' j = y j) (hr : ∀ j, j < 20 → f' j = f j ∧ l' j = l j ∧ k' j = k j ∧ g' j = g j) (ht : ∀ j, j < 144 → t' j = t j) (h : CN o x y f l k g t d) : CN o' x' y' f' l' k' g' t' d := by
  obtain ⟨c1, c2, c3, c4, c5⟩ := h
  have n12 := hW.1
  have n20 := hW.2.1
  refine ⟨h0.trans c1, h1.trans c2, fun j hj => ?_, fun r hr2 => ?_, DM_congr (eg_b hW) (fun i j hi hj => ht _ (by omega)) c5⟩
  · rw [(hx j (by omega)).1, (hx j (by omega)).2]; exact c3 j hj
  · obtain ⟨e1, e2, e3, e4⟩ := hr r (by omega)
    rw [e1, e2, e3, e4]; exact c4 r hr2
theorem wy_G {d : Dt} (hN : WN d) {G G' : Nat → Nat → Int} (h : ∀ i j : Nat, (i : Int) < nC d → (j : Int) < nC d → G' i j = G i j) {s t : Int} (hs : Sp d s) (ht : Sp d t) : wy d G' s t = wy d G s t := by
  have a := Sp_b hN hs
  have b := Sp_b hN ht
  have p1 := (rF_lt hN a.1).2.2
  have p2 := (rL_lt hN a.1).2.2
  have p3 := (rF_lt hN b.1).2.2
  have p4 := (rL_lt hN b.1).2.2
  have e : oL d G' s t = oL d G s t := by
    funext q
    unfold oL o1 o2 o3 o4
    rw [h _ _ p1 p3, h _ _ p1 p4, h _ _ p2 p3, h _ _ p2 p4]
  unfold wy
  rw [e]
theorem TR_G {d : Dt} (hN : WN d) (hR : WRu d) {G G' : Nat → Nat → Int} (h : ∀ i j : Nat, (i : Int) < nC d → (j : Int) < nC d → G' i j = G i j) {cn pc bf sp ap co bk : Nat → Int} {n : Int} (hT : TR d G cn pc bf sp ap co bk n) : TR d G' cn pc bf sp ap co bk n := by
  intro f hf
  have ej : ∀ g k : Nat, g < f → (k : Int) < cn f → jrT d G' cn sp co f g k = jrT d G cn sp co f g k := by
    intro g k hg hk
    obtain ⟨r, -, -, -, -, -, hs, -⟩ := CD_k hN hR (hT f hf).1 hk
    unfold jrT
    refine jcs_congr _ (fun i hi => ⟨rfl, Or.inr ?_⟩)
    obtain ⟨r2, -, -, -, -, -, hs2, -⟩ := CD_k hN hR (hT g (by omega)).1 (k := i) (by omega)
    exact wy_G hN h hs2 hs
  obtain ⟨h1, h2⟩ := hT f hf
  refine ⟨h1, ?_⟩
  rcases h2 with q | q | ⟨a, g, b, c, ⟨k, k1, k2⟩, i, j, l⟩ | ⟨a, g, b, c, e, i, j, l⟩
  · exact Or.inl q
  · exact Or.inr (Or.inl q)
  · refine Or.inr (Or.inr (Or.inl ⟨a, g, b, c, ⟨k, k1, by rw [ej g k b k1]; exact k2⟩, i, j, fun k hk => ?_⟩))
    rw [ej g k b hk]
    exact l k hk
  · exact Or.inr (Or.inr (Or.inr ⟨a, g, b, c, fun k hk => by rw [ej g k b hk]; exact e k hk, i, j, l⟩))
theorem TC_congr {d : Dt} (hW : Wd d) {o tx ty cn pc bf sp ap co bk o' tx' ty' cn' pc' bf' sp' ap' co' bk' : Nat → Int} {G G' : Nat → Nat → Int} (hG : ∀ i j : Nat, (i : Int) < nC d → (j : Int) < nC d → G' i j = G i j) (h0 : o' 2 = o 2) (hx : ∀ j, j < 16 → tx' j = tx j ∧ ty' j = ty j ∧ cn' j = cn j ∧ pc' j = pc j ∧ bf' j = bf j) (ht : ∀ j, j < 320 → sp' j = sp j ∧ ap' j = ap j ∧ co' j = co j ∧ bk' j = bk j) (h : TC o tx ty cn pc bf sp ap co bk G d) : TC o' tx' ty' cn' pc' bf' sp' ap' co' bk' G' d := by
  obtain ⟨t1, t2, t3, t4⟩ := h
  have n16 := hW.2.2.1
  have t5 := TR_G hW.1 hW.2.1 hG t3
  refine ⟨h0.trans t1, fun j hj => ?_, fun f hf => ?_, fun f hf => ?_⟩
  · obtain ⟨e1, e2, -⟩ := hx j (by omega)
    rw [e1, e2]; exact t2 j hj
  · exact TR1_congr (d := d) (d' := d) ⟨rfl, rfl, rfl, rfl, rfl⟩ (fun i hi => ⟨rfl, rfl⟩) (fun i hi => ⟨(hx i (by omega)).2.2.1, (hx i (by omega)).2.2.2.1, (TR_cn hW.1 t3 (f := i) (by omega)).2⟩) (fun _ => (hx f (by omega)).2.2.2.2) (fun i k hi hk => ht _ (by omega)) (t5 f hf)
  · obtain ⟨-, -, e3, -, e5⟩ := hx f (by omega)
    rw [e3, e5]; exact t4 f hf
/-- behind settle the rows of a state hold -/
theorem k_setb {b : Nat} {M1 : Mm} {d : Dt} (hW : Wd d) (hC : CN (M1 (b + 1)) (M1 (b + 2)) (M1 (b + 3)) (M1 (b + 4)) (M1 (b + 5)) (M1 (b + 6)) (M1 (b + 7)) (M1 (b + 8)) d) (hr : ∀ j : Nat, j < 4 → M1 (b + 10) j = ru d j) (hT : TC (M1 (b + 11)) (M1 (b + 12)) (M1 (b + 13)) (M1 (b + 14)) (M1 (b + 15)) (M1 (b + 16)) (M1 (b + 17)) (M1 (b + 18)) (M1 (b + 19)) (M1 (b + 20)) (fun i j => M1 (b + 8) (12 * i + j)) d) : OK (fX3_settle b M1) (fun M2 => (∀ a, a ≠ b + 21 → a ≠ b + 22 → M2 a = M1 a) ∧ CL b M2 d) := by
  obtain ⟨t1, t2, t3, t4⟩ := id hT
  have hTS := TR_TS hW.1 hW.2.1 hW.2.2 hC.2.2.2.2 t3 (Int.le_refl _)
  have hs := k_settle b M1 (by rw [t1]; exact hW.2.2.1) (by rw [t1]; exact hTS)
  rw [t1] at hs
  refine ok_mono hs (fun M2 h2 => ?_)
  obtain ⟨o, S, hS⟩ := h2
  refine ⟨o, ?_⟩
  unfold CL
  rw [o (b + 1) (by omega) (by omega), o (b + 2) (by omega) (by omega), o (b + 3) (by omega) (by omega), o (b + 4) (by omega) (by omega), o (b + 5) (by omega) (by omega), o (b + 6) (by omega) (by omega), o (b + 7) (by omega) (by omega), o (b + 8) (by omega) (by omega), o (b + 10) (by omega) (by omega), o (b + 11) (by omega) (by omega), o (b + 12) (by omega) (by omega), o (b + 13) (by omega) (by omega), o (b + 14) (by omega) (by omega), o (b + 15) (by omega) (by omega), o (b + 16) (by omega) (by omega), o (b + 17) (by omega) (by omega), o (b + 18) (by omega) (by omega), o (b + 19) (by omega) (by omega), o (b + 20) (by omega) (by omega)]
  exact ⟨hC, hr, hT, S, hS⟩
section CPS
variable {b b2 : Nat}
theorem k_cp0 (hb : b + 22 < b2 ∨ b2 + 22 < b) (M : Mm) : OK (fX0_copyFrom b b2 M) (fun M' => (∀ a, (a ≤ b ∨ b + 8 < a) → M' a = M a) ∧ (M' (b + 1) 0 = M (b2 + 1) 0 ∧ M' (b + 1) 1 = M (b2 + 1) 1) ∧ (∀ j, j < 12 → M' (b + 2) j = M (b2 + 2) j ∧ M' (b + 3) j = M (b2 + 3) j) ∧ (∀ j, j < 20 → M' (b + 4) j = M (b2 + 4) j ∧ M' (b + 5) j = M (b2 + 5) j ∧ M' (b + 6) j = M (b2 + 6) j ∧ M' (b + 7) j = M (b2 + 7) j) ∧ ∀ j, j < 144 → M' (b + 8) j = M (b2 + 8) j) := by
  unfold fX0_copyFrom
  refine ok_bnd (fun M1 e1 => ok_bnd (fun M2 e2 => ok_bnd (fun M3 e3 => ok_bnd (fun M4 e4 => ok_bnd (fun M5 e5 => ok_bnd (fun M6 e6 => ok_bnd (fun M7 e7 => ok_bnd (fun M8 e8 => ok_bnd (fun M9 e9 => ok_some ?_)))))))))
  have o1 : ∀ a, a ≠ b + 1 → M1 a = M a := fun a ha => by rw [e1, up_row ha]
  have o2 : ∀ a, a ≠ b + 1 → M2 a = M a := fun a ha => by rw [e2, up_row ha, o1 a ha]
  have f0 : M2 (b + 1) 0 = M (b2 + 1) 0 := by rw [e2, up_ne (by decide), e1, up_eq]
  have f1 : M2 (b + 1) 1 = M (b2 + 1) 1 := by rw [e2, up_eq, o1 (b2 + 1) (by omega)]
  have o3 : ∀ a, a ≠ b + 2 → M3 a = M2 a := fun a ha => by rw [e3, cp_row ha]
  have c3 : ∀ j, j < 12 → M3 (b + 2) j = M2 (b2 + 2) j := fun j hj => by rw [e3, cp_at (show j < (12 : Int).toNat from hj)]
  have o4 : ∀ a, a ≠ b + 3 → M4 a = M3 a := fun a ha => by rw [e4, cp_row ha]
  have c4 : ∀ j, j < 12 → M4 (b + 3) j = M3 (b2 + 3) j := fun j hj => by rw [e4, cp_at (show j < (12 : Int).toNat from hj)]
  have o5 : ∀ a, a ≠ b + 4 → M5 a = M4 a := fun a ha => by rw [e5, cp_row ha]
  have c5 : ∀ j, j < 20 → M5 (b + 4) j = M4 (b2 + 4) j := fun j hj => by rw [e5, cp_at (show j < (20 : Int).toNat from hj)]
  have o6 : ∀ a, a ≠ b + 5 → M6 a = M5 a := fun a ha => by rw [e6, cp_row ha]
  have c6 : ∀ j, j < 20 → M6 (b + 5) j = M5 (b2 + 5) j := fun j hj => by rw [e6, cp_at (show j < (20 : Int).toNat from hj)]
  have o7 : ∀ a, a ≠ b + 6 → M7 a = M6 a := fun a ha => by rw [e7, cp_row ha]
  have c7 : ∀ j, j < 20 → M7 (b + 6) j = M6 (b2 + 6) j := fun j hj => by rw [e7, cp_at (show j < (20 : Int).toNat from hj)]
  have o8 : ∀ a, a ≠ b + 7 → M8 a = M7 a := fun a ha => by rw [e8, cp_row ha]
  have c8 : ∀ j, j < 20 → M8 (b + 7) j = M7 (b2 + 7) j := fun j hj => by rw [e8, cp_at (show j < (20 : Int).toNat from hj)]
  have o9 : ∀ a, a ≠ b + 8 → M9 a = M8 a := fun a ha => by rw [e9, cp_row ha]
  have c9 : ∀ j, j < 144 → M9 (b + 8) j = M8 (b2 + 8) j := fun j hj => by rw [e9, cp_at (show j < (144 : Int).toNat from hj)]
  have fo : ∀ a, (a ≤ b ∨ b + 8 < a) → M9 a = M a := fun a ha => by rw [o9 a (by omega), o8 a (by omega), o7 a (by omega), o6 a (by omega), o5 a (by omega), o4 a (by omega), o3 a (by omega), o2 a (by omega)]
  have g3 : ∀ j, j < 12 → M9 (b + 2) j = M (b2 + 2) j := fun j hj => by rw [o9 (b + 2) (by omega), o8 (b + 2) (by omega), o7 (b + 2) (by omega), o6 (b + 2) (by omega), o5 (b + 2) (by omega), o4 (b + 2) (by omega), c3 j hj, o2 (b2 + 2) (by omega)]
  have g4 : ∀ j, j < 12 → M9 (b + 3) j = M (b2 + 3) j := fun j hj => by rw [o9 (b + 3) (by omega), o8 (b + 3) (by omega), o7 (b + 3) (by omega), o6 (b + 3) (by omega), o5 (b + 3) (by omega), c4 j hj, o3 (b2 + 3) (by omega), o2 (b2 + 3) (by omega)]
  have g5 : ∀ j, j < 20 → M9 (b + 4) j = M (b2 + 4) j := fun j hj => by rw [o9 (b + 4) (by omega), o8 (b + 4) (by omega), o7 (b + 4) (by omega), o6 (b + 4) (by omega), c5 j hj, o4 (b2 + 4) (by omega), o3 (b2 + 4) (by omega), o2 (b2 + 4) (by omega)]
  have g6 : ∀ j, j < 20 → M9 (b + 5) j = M (b2 + 5) j := fun j hj => by rw [o9 (b + 5) (by omega), o8 (b + 5) (by omega), o7 (b + 5) (by omega), c6 j hj, o5 (b2 + 5) (by omega), o4 (b2 + 5) (by omega), o3 (b2 + 5) (by omega), o2 (b2 + 5) (by omega)]
  have g7 : ∀ j, j < 20 → M9 (b + 6) j = M (b2 + 6) j := fun j hj => by rw [o9 (b + 6) (by omega), o8 (b + 6) (by omega), c7 j hj, o6 (b2 + 6) (by omega), o5 (b2 + 6) (by omega), o4 (b2 + 6) (by omega), o3 (b2 + 6) (by omega), o2 (b2 + 6) (by omega)]
  have g8 : ∀ j, j < 20 → M9 (b + 7) j = M (b2 + 7) j := fun j hj => by rw [o9 (b + 7) (by omega), c8 j hj, o7 (b2 + 7) (by omega), o6 (b2 + 7) (by omega), o5 (b2 + 7) (by omega), o4 (b2 + 7) (by omega), o3 (b2 + 7) (by omega), o2 (b2 + 7) (by omega)]
  have g9 : ∀ j, j < 144 → M9 (b + 8) j = M (b2 + 8) j := fun j hj => by rw [c9 j hj, o8 (b2 + 8) (by omega), o7 (b2 + 8) (by omega), o6 (b2 + 8) (by omega), o5 (b2 + 8) (by omega), o4 (b2 + 8) (by omega), o3 (b2 + 8) (by omega), o2 (b2 + 8) (by omega)]
  exact ⟨fo, ⟨by rw [o9 (b + 1) (by omega), o8 (b + 1) (by omega), o7 (b + 1) (by omega), o6 (b + 1) (by omega), o5 (b + 1) (by omega), o4 (b + 1) (by omega), o3 (b + 1) (by omega)]; exact f0, by rw [o9 (b + 1) (by omega), o8 (b + 1) (by omega), o7 (b + 1) (by omega), o6 (b + 1) (by omega), o5 (b + 1) (by omega), o4 (b + 1) (by omega), o3 (b + 1) (by omega)]; exact f1⟩, fun j hj => ⟨g3 j hj, g4 j hj⟩, fun j hj => ⟨g5 j hj, g6 j hj, g7 j hj, g8 j hj⟩, g9⟩
theorem k_cp1 (M : Mm) : OK (fX1_copyFrom b b2 M) (fun M' => (∀ a, a ≠ b + 10 → M' a = M a) ∧ ∀ j, j < 4 → M' (b + 10) j = M (b2 + 10) j) := by
  unfold fX1_copyFrom
  exact ok_bnd (fun M1 e1 => ok_some ⟨fun a ha => by rw [e1, cp_row ha], fun j hj => by rw [e1, cp_at (show j < (4 : Int).toNat from hj)]⟩)
theorem k_cp3 (hb : b + 22 < b2 ∨ b2 + 22 < b) (M : Mm) (P : Mm → Prop) (hk : ∀ M' : Mm, (∀ a, (a ≤ b + 10 ∨ b + 20 < a) → M' a = M a) → M' (b + 11) 2 = M (b2 + 11) 2 → (∀ j, j < 16 → M' (b + 12) j = M (b2 + 12) j ∧ M' (b + 13) j = M (b2 + 13) j ∧ M' (b + 14) j = M (b2 + 14) j ∧ M' (b + 15) j = M (b2 + 15) j ∧ M' (b + 16) j = M (b2 + 16) j) → (∀ j, j < 320 → M' (b + 17) j = M (b2 + 17) j ∧ M' (b + 18) j = M (b2 + 18) j ∧ M' (b + 19) j = M (b2 + 19) j ∧ M' (b + 20) j = M (b2 + 20) j) → OK (fX3_settle b M') P) : OK (fX3_copyFrom b b2 M) P := by
  unfold fX3_copyFrom
  refine ok_bnd (fun M1 e1 => ok_bnd (fun M2 e2 => ok_bnd (fun M3 e3 => ok_bnd (fun M4 e4 => ok_bnd (fun M5 e5 => ok_bnd (fun M6 e6 => ok_bnd (fun M7 e7 => ok_bnd (fun M8 e8 => ok_bnd (fun M9 e9 => ok_bnd (fun M10 e10 => ok_cal (P1 := P) ?_ (fun M11 h11 => ok_some h11)))))))))))
  have o1 : ∀ a, a ≠ b + 11 → M1 a = M a := fun a ha => by rw [e1, up_row ha]
  have f0 : M1 (b + 11) 2 = M (b2 + 11) 2 := by rw [e1, up_eq]
  have o2 : ∀ a, a ≠ b + 12 → M2 a = M1 a := fun a ha => by rw [e2, cp_row ha]
  have c2 : ∀ j, j < 16 → M2 (b + 12) j = M1 (b2 + 12) j := fun j hj => by rw [e2, cp_at (show j < (16 : Int).toNat from hj)]
  have o3 : ∀ a, a ≠ b + 13 → M3 a = M2 a := fun a ha => by rw [e3, cp_row ha]
  have c3 : ∀ j, j < 16 → M3 (b + 13) j = M2 (b2 + 13) j := fun j hj => by rw [e3, cp_at (show j < (16 : Int).toNat from hj)]
  have o4 : ∀ a, a ≠ b + 14 → M4 a = M3 a := fun a ha => by rw [e4, cp_row ha]
  have c4 : ∀ j, j < 16 → M4 (b + 14) j = M3 (b2 + 14) j := fun j hj => by rw [e4, cp_at (show j < (16 : Int).toNat from hj)]
  have o5 : ∀ a, a ≠ b + 15 → M5 a = M4 a := fun a ha => by rw [e5, cp_row ha]
  have c5 : ∀ j, j < 16 → M5 (b + 15) j = M4 (b2 + 15) j := fun j hj => by rw [e5, cp_at (show j < (16 : Int).toNat from hj)]
  have o6 : ∀ a, a ≠ b + 16 → M6 a = M5 a := fun a ha => by rw [e6, cp_row ha]
  have c6 : ∀ j, j < 16 → M6 (b + 16) j = M5 (b2 + 16) j := fun j hj => by rw [e6, cp_at (show j < (16 : Int).toNat from hj)]
  have o7 : ∀ a, a ≠ b + 17 → M7 a = M6 a := fun a ha => by rw [e7, cp_row ha]
  have c7 : ∀ j, j < 320 → M7 (b + 17) j = M6 (b2 + 17) j := fun j hj => by rw [e7, cp_at (show j < (320 : Int).toNat from hj)]
  have o8 : ∀ a, a ≠ b + 18 → M8 a = M7 a := fun a ha => by rw [e8, cp_row ha]
  have c8 : ∀ j, j < 320 → M8 (b + 18) j = M7 (b2 + 18) j := fun j hj => by rw [e8, cp_at (show j < (320 : Int).toNat from hj)]
  have o9 : ∀ a, a ≠ b + 19 → M9 a = M8 a := fun a ha => by rw [e9, cp_row ha]
  have c9 : ∀ j, j < 320 → M9 (b + 19) j = M8 (b2 + 19) j := fun j hj => by rw [e9, cp_at (show j < (320 : Int).toNat from hj)]
  have o10 : ∀ a, a ≠ b + 20 → M10 a = M9 a := fun a ha => by rw [e10, cp_row ha]
  have c10 : ∀ j, j < 320 → M10 (b + 20) j = M9 (b2 + 20) j := fun j hj => by rw [e10, cp_at (show j < (320 : Int).toNat from hj)]
  have fo : ∀ a, (a ≤ b + 10 ∨ b + 20 < a) → M10 a = M a := fun a ha => by rw [o10 a (by omega), o9 a (by omega), o8 a (by omega), o7 a (by omega), o6 a (by omega), o5 a (by omega), o4 a (by omega), o3 a (by omega), o2 a (by omega), o1 a (by omega)]
  have g2 : ∀ j, j < 16 → M10 (b + 12) j = M (b2 + 12) j := fun j hj => by rw [o10 (b + 12) (by omega), o9 (b + 12) (by omega), o8 (b + 12) (by omega), o7 (b + 12) (by omega), o6 (b + 12) (by omega), o5 (b + 12) (by omega), o4 (b + 12) (by omega), o3 (b + 12) (by omega), c2 j hj, o1 (b2 + 12) (by omega)]
  have g3 : ∀ j, j < 16 → M10 (b + 13) j = M (b2 + 13) j := fun j hj => by rw [o10 (b + 13) (by omega), o9 (b + 13) (by omega), o8 (b + 13) (by omega), o7 (b + 13) (by omega), o6 (b + 13) (by omega), o5 (b + 13) (by omega), o4 (b + 13) (by omega), c3 j hj, o2 (b2 + 13) (by omega), o1 (b2 + 13) (by omega)]
  have g4 : ∀ j, j < 16 → M10 (b + 14) j = M (b2 + 14) j := fun j hj => by rw [o10 (b + 14) (by omega), o9 (b + 14) (by omega), o8 (b + 14) (by omega), o7 (b + 14) (by omega), o6 (b + 14) (by omega), o5 (b + 14) (by omega), c4 j hj, o3 (b2 + 14) (by omega), o2 (b2 + 14) (by omega), o1 (b2 + 14) (by omega)]
  have g5 : ∀ j, j < 16 → M10 (b + 15) j = M (b2 + 15) j := fun j hj => by rw [o10 (b + 15) (by omega), o9 (b + 15) (by omega), o8 (b + 15) (by omega), o7 (b + 15) (by omega), o6 (b + 15) (by omega), c5 j hj, o4 (b2 + 15) (by omega), o3 (b2 + 15) (by omega), o2 (b2 + 15) (by omega), o1 (b2 + 15) (by omega)]
  have g6 : ∀ j, j < 16 → M10 (b + 16) j = M (b2 + 16) j := fun j hj => by rw [o10 (b + 16) (by omega), o9 (b + 16) (by omega), o8 (b + 16) (by omega), o7 (b + 16) (by omega), c6 j hj, o5 (b2 + 16) (by omega), o4 (b2 + 16) (by omega), o3 (b2 + 16) (by omega), o2 (b2 + 16) (by omega), o1 (b2 + 16) (by omega)]
  have g7 : ∀ j, j < 320 → M10 (b + 17) j = M (b2 + 17) j := fun j hj => by rw [o10 (b + 17) (by omega), o9 (b + 17) (by omega), o8 (b + 17) (by omega), c7 j hj, o6 (b2 + 17) (by omega), o5 (b2 + 17) (by omega), o4 (b2 + 17) (by omega), o3 (b2 + 17) (by omega), o2 (b2 + 17) (by omega), o1 (b2 + 17) (by omega)]
  have g8 : ∀ j, j < 320 → M10 (b + 18) j = M (b2 + 18) j := fun j hj => by rw [o10 (b + 18) (by omega), o9 (b + 18) (by omega), c8 j hj, o7 (b2 + 18) (by omega), o6 (b2 + 18) (by omega), o5 (b2 + 18) (by omega), o4 (b2 + 18) (by omega), o3 (b2 + 18) (by omega), o2 (b2 + 18) (by omega), o1 (b2 + 18) (by omega)]
  have g9 : ∀ j, j < 320 → M10 (b + 19) j = M (b2 + 19) j := fun j hj => by rw [o10 (b + 19) (by omega), c9 j hj, o8 (b2 + 19) (by omega), o7 (b2 + 19) (by omega), o6 (b2 + 19) (by omega), o5 (b2 + 19) (by omega), o4 (b2 + 19) (by omega), o3 (b2 + 19) (by omega), o2 (b2 + 19) (by omega), o1 (b2 + 19) (by omega)]
  have g10 : ∀ j, j < 320 → M10 (b + 20) j = M (b2 + 20) j := fun j hj => by rw [c10 j hj, o9 (b2 + 20) (by omega), o8 (b2 + 20) (by omega), o7 (b2 + 20) (by omega), o6 (b2 + 20) (by omega), o5 (b2 + 20) (by omega), o4 (b2 + 20) (by omega), o3 (b2 + 20) (by omega), o2 (b2 + 20) (by omega), o1 (b2 + 20) (by omega)]
  exact hk M10 fo (by rw [o10 (b + 11) (by omega), o9 (b + 11) (by omega), o8 (b + 11) (by omega), o7 (b + 11) (by omega), o6 (b + 11) (by omega), o5 (b + 11) (by omega), o4 (b + 11) (by omega), o3 (b + 11) (by omega), o2 (b + 11) (by omega)]; exact f0) (fun j hj => ⟨g2 j hj, g3 j hj, g4 j hj, g5 j hj, g6 j hj⟩) (fun j hj => ⟨g7 j hj, g8 j hj, g9 j hj, g10 j hj⟩)
theorem k_copy (hb : b + 22 < b2 ∨ b2 + 22 < b) {M : Mm} {d : Dt} (hW : Wd d) (hC : CL b2 M d) : OK (fX2_copyFrom b b2 M) (fun M' => (∀ a, (a ≤ b ∨ b + 22 < a) → M' a = M a) ∧ CL b M' d) := by
  obtain ⟨hN, hr, hT, -⟩ := hC
  unfold fX2_copyFrom
  refine ok_cal (k_cp0 hb M) (fun M1 h1 => ok_cal (k_cp1 (b := b) (b2 := b2) M1) (fun M2 h2 => ok_cal (P1 := fun M' => (∀ a, (a ≤ b ∨ b + 22 < a) → M' a = M a) ∧ CL b M' d) ?_ (fun M3 h3 => ok_some h3)))
  obtain ⟨p1, ⟨p2, p3⟩, p4, p5, p6⟩ := h1
  obtain ⟨q1, q2⟩ := h2
  refine k_cp3 hb M2 _ (fun M3 s1 s2 s3 s4 => ?_)
  have n12 := hW.1.1
  have e0 : ∀ a, (a ≤ b ∨ b + 22 < a) → M3 a = M a := fun a ha => by rw [s1 a (by omega), q1 a (by omega), p1 a (by omega)]
  have e1 : ∀ a, b < a → a ≤ b + 8 → M3 a = M1 a := fun a a1 a2 => by rw [s1 a (by omega), q1 a (by omega)]
  have e2 : ∀ a, (a ≤ b ∨ b + 22 < a) → M2 a = M a := fun a ha => by rw [q1 a (by omega), p1 a (by omega)]
  have hN3 : CN (M3 (b + 1)) (M3 (b + 2)) (M3 (b + 3)) (M3 (b + 4)) (M3 (b + 5)) (M3 (b + 6)) (M3 (b + 7)) (M3 (b + 8)) d := by
    rw [e1 (b + 1) (by omega) (by omega), e1 (b + 2) (by omega) (by omega), e1 (b + 3) (by omega) (by omega), e1 (b + 4) (by omega) (by omega), e1 (b + 5) (by omega) (by omega), e1 (b + 6) (by omega) (by omega), e1 (b + 7) (by omega) (by omega), e1 (b + 8) (by omega) (by omega)]
    exact CN_congr hW.1 p2 p3 p4 p5 p6 hN
  have hr3 : ∀ j : Nat, j < 4 → M3 (b + 10) j = ru d j := fun j hj => by
    rw [s1 (b + 10) (by omega), q2 j hj, p1 (b2 + 10) (by omega)]; exact hr j hj
  have hT3 : TC (M3 (b + 11)) (M3 (b + 12)) (M3 (b + 13)) (M3 (b + 14)) (M3 (b + 15)) (M3 (b + 16)) (M3 (b + 17)) (M3 (b + 18)) (M3 (b + 19)) (M3 (b + 20)) (fun i j => M3 (b + 8) (12 * i + j)) d := by
    refine TC_congr hW (fun i j hi hj => ?_) ?_ (fun j hj => ?_) (fun j hj => ?_) hT
    · show M3 (b + 8) (12 * i + j) = M (b2 + 8) (12 * i + j)
      rw [e1 (b + 8) (by omega) (by omega)]; exact p6 _ (by omega)
    · rw [s2, e2 (b2 + 11) (by omega)]
    · have := s3 j hj
      rw [e2 (b2 + 12) (by omega), e2 (b2 + 13) (by omega), e2 (b2 + 14) (by omega), e2 (b2 + 15) (by omega), e2 (b2 + 16) (by omega)] at this
      exact this
    · have := s4 j hj
      rw [e2 (b2 + 17) (by omega), e2 (b2 + 18) (by omega), e2 (b2 + 19) (by omega), e2 (b2 + 20) (by omega)] at this
      exact this
  exact ok_mono (k_setb hW hN3 hr3 hT3) (fun M4 h4 => ⟨fun a ha => by rw [h4.1 a (by omega) (by omega), e0 a ha], h4.2⟩)
end CPS
