def fL_law_L18 (xs : Nat → Int) (L : Int) : Nat → Int → Mm → Option (Int)
  | 0, _, _ => none
  | n + 1, v1, M2 => gd ((inR (L - (4 : Int)))) (if (L - (4 : Int)) < v1 then some (1 : Int) else jn (fun (v3 : Int) (M4 : Mm) => gd ((inR (v3 + (4 : Int)))) (fL_law_L18 xs L n (v3 + (4 : Int)) M4)) (fun (K5 : Int → Mm → Option (Int)) => gd ((0 ≤ v1 ∧ v1 < L)) (if (iandI (xs v1.toNat) (31 : Int)) = 0 then gd ((inR (v1 + (1 : Int))) ∧ (0 ≤ (v1 + (1 : Int)) ∧ (v1 + (1 : Int)) < L)) (gd ((inR (v1 + (2 : Int))) ∧ (0 ≤ (v1 + (2 : Int)) ∧ (v1 + (2 : Int)) < L)) (cal2 (fX4_crossing M2 (xs (v1 + (1 : Int)).toNat) (xs (v1 + (2 : Int)).toNat)) (fun (r7 : Int) (M8 : Mm) => gd ((inR (v1 + (1 : Int))) ∧ (0 ≤ (v1 + (1 : Int)) ∧ (v1 + (1 : Int)) < L)) (gd ((inR (v1 + (2 : Int))) ∧ (0 ≤ (v1 + (2 : Int)) ∧ (v1 + (2 : Int)) < L)) (cal2 (fX5_crossing M8 (xs (v1 + (1 : Int)).toNat) (xs (v1 + (2 : Int)).toNat)) (fun (r9 : Int) (M10 : Mm) => if r7 = r9 then K5 v1 M10 else some (0 : Int))))))) else if (iandI (xs v1.toNat) (31 : Int)) = 1 then gd ((inR (v1 + (1 : Int))) ∧ (0 ≤ (v1 + (1 : Int)) ∧ (v1 + (1 : Int)) < L)) (gd ((inR (v1 + (2 : Int))) ∧ (0 ≤ (v1 + (2 : Int)) ∧ (v1 + (2 : Int)) < L)) (gd ((inR (v1 + (3 : Int))) ∧ (0 ≤ (v1 + (3 : Int)) ∧ (v1 + (3 : Int)) < L)) (cal2 (fX4_road M2 (xs (v1 + (1 : Int)).toNat) (xs (v1 + (2 : Int)).toNat) (xs (v1 + (3 : Int)).toNat)) (fun (r19 : Int) (M20 : Mm) => gd ((inR (v1 + (1 : Int))) ∧ (0 ≤ (v1 + (1 : Int)) ∧ (v1 + (1 : Int)) < L)) (gd ((inR (v1 + (2 : Int))) ∧ (0 ≤ (v1 + (2 : Int)) ∧ (v1 + (2 : Int)) < L)) (gd ((inR (v1 + (3 : Int))) ∧ (0 ≤ (v1 + (3 : Int)) ∧ (v1 + (3 : Int)) < L)) (cal2 (fX5_road M20 (xs (v1 + (1 : Int)).toNat) (xs (v1 + (2 : Int)).toNat) (xs (v1 + (3 : Int)).toNat)) (fun (r21 : Int) (M22 : Mm) => if r19 = r21 then K5 v1 M22 else some (0 : Int))))))))) else if (iandI (xs v1.toNat) (31 : Int)) = 2 then gd ((inR (v1 + (1 : Int))) ∧ (0 ≤ (v1 + (1 : Int)) ∧ (v1 + (1 : Int)) < L)) (gd ((inR (v1 + (2 : Int))) ∧ (0 ≤ (v1 + (2 : Int)) ∧ (v1 + (2 : Int)) < L)) (cal2 (fX4_rule M2 (xs (v1 + (1 : Int)).toNat) (xs (v1 + (2 : Int)).toNat)) (fun (r35 : Int) (M36 : Mm) => gd ((inR (v1 + (1 : Int))) ∧ (0 ≤ (v1 + (1 : Int)) ∧ (v1 + (1 : Int)) < L)) (gd ((inR (v1 + (2 : Int))) ∧ (0 ≤ (v1 + (2 : Int)) ∧ (v1 + (2 : Int)) < L)) (cal2 (fX5_rule M36 (xs (v1 + (1 : Int)).toNat) (xs (v1 + (2 : Int)).toNat)) (fun (r37 : Int) (M38 : Mm) => if r35 = r37 then K5 v1 M38 else some (0 : Int))))))) else if (iandI (xs v1.toNat) (31 : Int)) = 3 then gd ((inR (v1 + (1 : Int))) ∧ (0 ≤ (v1 + (1 : Int)) ∧ (v1 + (1 : Int)) < L)) (gd ((inR (v1 + (2 : Int))) ∧ (0 ≤ (v1 + (2 : Int)) ∧ (v1 + (2 : Int)) < L)) (cal (fX4_cell M2 (xs (v1 + (1 : Int)).toNat) (xs (v1 + (2 : Int)).toNat)) (fun (r47 : Int) => gd ((inR (v1 + (1 : Int))) ∧ (0 ≤ (v1 + (1 : Int)) ∧ (v1 + (1 : Int)) < L)) (gd ((inR (v1 + (2 : Int))) ∧ (0 ≤ (v1 + (2 : Int)) ∧ (v1 + (2 : Int)) < L)) (cal (fX5_cell M2 (xs (v1 + (1 : Int)).toNat) (xs (v1 + (2 : Int)).toNat)) (fun (r48 : Int) => if r47 = r48 then K5 v1 M2 else some (0 : Int))))))) else if (iandI (xs v1.toNat) (31 : Int)) = 4 then gd ((inR (v1 + (1 : Int))) ∧ (0 ≤ (v1 + (1 : Int)) ∧ (v1 + (1 : Int)) < L)) (gd ((inR (v1 + (2 : Int))) ∧ (0 ≤ (v1 + (2 : Int)) ∧ (v1 + (2 : Int)) < L)) (cal (fX4_between M2 (xs (v1 + (1 : Int)).toNat) (xs (v1 + (2 : Int)).toNat)) (fun (r57 : Int) => gd ((inR (v1 + (1 : Int))) ∧ (0 ≤ (v1 + (1 : Int)) ∧ (v1 + (1 : Int)) < L)) (gd ((inR (v1 + (2 : Int))) ∧ (0 ≤ (v1 + (2 : Int)) ∧ (v1 + (2 : Int)) < L)) (cal2 (fX5_between M2 (xs (v1 + (1 : Int)).toNat) (xs (v1 + (2 : Int)).toNat)) (fun (r58 : Int) (M59 : Mm) => if r57 = r58 then K5 v1 M59 else some (0 : Int))))))) else if (iandI (xs v1.toNat) (31 : Int)) = 5 then gd ((inR (v1 + (1 : Int))) ∧ (0 ≤ (v1 + (1 : Int)) ∧ (v1 + (1 : Int)) < L)) (gd ((inR (v1 + (2 : Int))) ∧ (0 ≤ (v1 + (2 : Int)) ∧ (v1 + (2 : Int)) < L)) (cal (fX4_way M2 (xs (v1 + (1 : Int)).toNat) (xs (v1 + (2 : Int)).toNat)) (fun (r68 : Int) => gd ((inR (v1 + (1 : Int))) ∧ (0 ≤ (v1 + (1 : Int)) ∧ (v1 + (1 : Int)) < L)) (gd ((inR (v1 + (2 : Int))) ∧ (0 ≤ (v1 + (2 : Int)) ∧ (v1 + (2 : Int)) < L)) (cal2 (fX5_way M2 (xs (v1 + (1 : Int)).toNat) (xs (v1 + (2 : Int)).toNat)) (fun (r69 : Int) (M70 : Mm) => if r68 = r69 then K5 v1 M70 else some (0 : Int))))))) else if (iandI (xs v1.toNat) (31 : Int)) = 6 then gd ((inR (v1 + (1 : Int))) ∧ (0 ≤ (v1 + (1 : Int)) ∧ (v1 + (1 : Int)) < L)) (gd ((inR (v1 + (2 : Int))) ∧ (0 ≤ (v1 + (2 : Int)) ∧ (v1 + (2 : Int)) < L)) (cal2 (fX4_fix M2 (xs (v1 + (1 : Int)).toNat) (xs (v1 + (2 : Int)).toNat)) (fun (r79 : Int) (M80 : Mm) => gd ((inR (v1 + (1 : Int))) ∧ (0 ≤ (v1 + (1 : Int)) ∧ (v1 + (1 : Int)) < L)) (gd ((inR (v1 + (2 : Int))) ∧ (0 ≤ (v1 + (2 : Int)) ∧ (v1 + (2 : Int)) < L)) (cal2 (fX5_fix M80 (xs (v1 + (1 : Int)).toNat) (xs (v1 + (2 : Int)).toNat)) (fun (r81 : Int) (M82 : Mm) => if r79 = r81 then K5 v1 M82 else some (0 : Int))))))) else if (iandI (xs v1.toNat) (31 : Int)) = 7 then cal2 (fX4_drop M2) (fun (r91 : Int) (M92 : Mm) => cal2 (fX5_drop M92) (fun (r93 : Int) (M94 : Mm) => if r91 = r93 then K5 v1 M94 else some (0 : Int))) else if (iandI (xs v1.toNat) (31 : Int)) = 8 then gd ((inR (v1 + (1 : Int))) ∧ (0 ≤ (v1 + (1 : Int)) ∧ (v1 + (1 : Int)) < L)) (gd ((inR (v1 + (2 : Int))) ∧ (0 ≤ (v1 + (2 : Int)) ∧ (v1 + (2 : Int)) < L)) (gd ((inR (v1 + (3 : Int))) ∧ (0 ≤ (v1 + (3 : Int)) ∧ (v1 + (3 : Int)) < L)) (cal (fX4_candidate M2 (xs (v1 + (1 : Int)).toNat) (xs (v1 + (2 : Int)).toNat) (xs (v1 + (3 : Int)).toNat)) (fun (r95 : Int) => gd ((inR (v1 + (1 : Int))) ∧ (0 ≤ (v1 + (1 : Int)) ∧ (v1 + (1 : Int)) < L)) (gd ((inR (v1 + (2 : Int))) ∧ (0 ≤ (v1 + (2 : Int)) ∧ (v1 + (2 : Int)) < L)) (gd ((inR (v1 + (3 : Int))) ∧ (0 ≤ (v1 + (3 : Int)) ∧ (v1 + (3 : Int)) < L)) (cal2 (fX5_candidate M2 (xs (v1 + (1 : Int)).toNat) (xs (v1 + (2 : Int)).toNat) (xs (v1 + (3 : Int)).toNat)) (fun (r96 : Int) (M97 : Mm) => if r95 = r96 then K5 v1 M97 else some (0 : Int))))))))) else if (iandI (xs v1.toNat) (31 : Int)) = 9 then gd ((inR (v1 + (1 : Int))) ∧ (0 ≤ (v1 + (1 : Int)) ∧ (v1 + (1 : Int)) < L)) (cal (fX4_best M2 (xs (v1 + (1 : Int)).toNat)) (fun (r110 : Int) => gd ((inR (v1 + (1 : Int))) ∧ (0 ≤ (v1 + (1 : Int)) ∧ (v1 + (1 : Int)) < L)) (cal2 (fX5_best M2 (xs (v1 + (1 : Int)).toNat)) (fun (r111 : Int) (M112 : Mm) => if r110 = r111 then K5 v1 M112 else some (0 : Int))))) else if (iandI (xs v1.toNat) (31 : Int)) = 10 then gd ((inR (v1 + (1 : Int))) ∧ (0 ≤ (v1 + (1 : Int)) ∧ (v1 + (1 : Int)) < L)) (cal (fX4_decided M2 (xs (v1 + (1 : Int)).toNat)) (fun (r117 : Int) => gd ((inR (v1 + (1 : Int))) ∧ (0 ≤ (v1 + (1 : Int)) ∧ (v1 + (1 : Int)) < L)) (cal2 (fX5_decided M2 (xs (v1 + (1 : Int)).toNat)) (fun (r118 : Int) (M119 : Mm) => if r117 = r118 then K5 v1 M119 else some (0 : Int))))) else if (iandI (xs v1.toNat) (31 : Int)) = 11 then gd ((inR (v1 + (1 : Int))) ∧ (0 ≤ (v1 + (1 : Int)) ∧ (v1 + (1 : Int)) < L)) (cal (fX4_piece M2 (xs (v1 + (1 : Int)).toNat)) (fun (r124 : Int) => gd ((inR (v1 + (1 : Int))) ∧ (0 ≤ (v1 + (1 : Int)) ∧ (v1 + (1 : Int)) < L)) (cal2 (fX5_piece M2 (xs (v1 + (1 : Int)).toNat)) (fun (r125 : Int) (M126 : Mm) => if r124 = r125 then K5 v1 M126 else some (0 : Int))))) else if (iandI (xs v1.toNat) (31 : Int)) = 12 then gd ((inR (v1 + (1 : Int))) ∧ (0 ≤ (v1 + (1 : Int)) ∧ (v1 + (1 : Int)) < L)) (cal (fX4_step M2 (xs (v1 + (1 : Int)).toNat)) (fun (r131 : Int) => gd ((inR (v1 + (1 : Int))) ∧ (0 ≤ (v1 + (1 : Int)) ∧ (v1 + (1 : Int)) < L)) (cal2 (fX5_step M2 (xs (v1 + (1 : Int)).toNat)) (fun (r132 : Int) (M133 : Mm) => if r131 = r132 then K5 v1 M133 else some (0 : Int))))) else if (iandI (xs v1.toNat) (31 : Int)) = 13 then gd ((inR (v1 + (1 : Int))) ∧ (0 ≤ (v1 + (1 : Int)) ∧ (v1 + (1 : Int)) < L)) (gd ((inR (v1 + (2 : Int))) ∧ (0 ≤ (v1 + (2 : Int)) ∧ (v1 + (2 : Int)) < L)) (cal (fX4_through M2 (xs (v1 + (1 : Int)).toNat) (xs (v1 + (2 : Int)).toNat)) (fun (r138 : Int) => gd ((inR (v1 + (1 : Int))) ∧ (0 ≤ (v1 + (1 : Int)) ∧ (v1 + (1 : Int)) < L)) (gd ((inR (v1 + (2 : Int))) ∧ (0 ≤ (v1 + (2 : Int)) ∧ (v1 + (2 : Int)) < L)) (cal2 (fX5_through M2 (xs (v1 + (1 : Int)).toNat) (xs (v1 + (2 : Int)).toNat)) (fun (r139 : Int) (M140 : Mm) => if r138 = r139 then K5 v1 M140 else some (0 : Int))))))) else if (iandI (xs v1.toNat) (31 : Int)) = 14 then gd ((inR (v1 + (1 : Int))) ∧ (0 ≤ (v1 + (1 : Int)) ∧ (v1 + (1 : Int)) < L)) (cal (fX4_total M2 (xs (v1 + (1 : Int)).toNat)) (fun (r149 : Int) => gd ((inR (v1 + (1 : Int))) ∧ (0 ≤ (v1 + (1 : Int)) ∧ (v1 + (1 : Int)) < L)) (cal2 (fX5_total M2 (xs (v1 + (1 : Int)).toNat)) (fun (r150 : Int) (M151 : Mm) => if r149 = r150 then K5 v1 M151 else some (0 : Int))))) else if (iandI (xs v1.toNat) (31 : Int)) = 15 then gd ((inR (v1 + (1 : Int))) ∧ (0 ≤ (v1 + (1 : Int)) ∧ (v1 + (1 : Int)) < L)) (cal2 (fX4_image M2 (xs (v1 + (1 : Int)).toNat)) (fun (r156 : Int) (M157 : Mm) => gd ((inR (v1 + (1 : Int))) ∧ (0 ≤ (v1 + (1 : Int)) ∧ (v1 + (1 : Int)) < L)) (cal2 (fX5_image M157 (xs (v1 + (1 : Int)).toNat)) (fun (r158 : Int) (M159 : Mm) => if r156 = r158 then K5 v1 M159 else some (0 : Int))))) else if (iandI (xs v1.toNat) (31 : Int)) = 16 then gd ((inR (v1 + (1 : Int))) ∧ (0 ≤ (v1 + (1 : Int)) ∧ (v1 + (1 : Int)) < L)) (cal2 (fX4_restore M2 (xs (v1 + (1 : Int)).toNat)) (fun (r164 : Int) (M165 : Mm) => gd ((inR (v1 + (1 : Int))) ∧ (0 ≤ (v1 + (1 : Int)) ∧ (v1 + (1 : Int)) < L)) (cal2 (fX5_restore M165 (xs (v1 + (1 : Int)).toNat)) (fun (r166 : Int) (M167 : Mm) => if r164 = r166 then K5 v1 M167 else some (0 : Int))))) else if (iandI (xs v1.toNat) (31 : Int)) = 17 then gd ((inR (v1 + (1 : Int))) ∧ (0 ≤ (v1 + (1 : Int)) ∧ (v1 + (1 : Int)) < L)) (cal (fX4_told M2 (xs (v1 + (1 : Int)).toNat)) (fun (r172 : Int) => gd ((inR (v1 + (1 : Int))) ∧ (0 ≤ (v1 + (1 : Int)) ∧ (v1 + (1 : Int)) < L)) (cal (fX5_told M2 (xs (v1 + (1 : Int)).toNat)) (fun (r173 : Int) => if r172 = r173 then K5 v1 M2 else some (0 : Int))))) else K5 v1 M2)))
set_option maxRecDepth 100000 in
theorem mL_law_L18 {z : Zx} (hz : Cx qL_law z) (hZ : Lz z) {xs : Nat → Int} {L : Int} (hX : Xs L xs z) : ∀ (n : Nat) (v1 : Int) (M2 : Mm), OK (fL_law_L18 xs L n v1 M2) (fun r2 => r2 = 1) → Aw z 18 [some (.inr 998), some (.inr 0), some (.inr 71), some (.inl v1)] [] M2 := by
  intro n
  induction n with
  | zero =>
    intro v1 M2 h
    exact (show False from h).elim
  | succ n ih =>
    intro v1 M2 h
    unfold fL_law_L18 at h
    refine a_run qL_md hz 2 [] (pc' := 20) (lv' := [some (.inr 998), some (.inr 0), some (.inr 71), some (.inl v1)]) (st' := [.inr 998, .inl v1]) (M' := M2) (P := True) rfl trivial ?_
    refine a_slen hz hX (d_at qL_md rfl) ?_
    show Aw z 21 [some (.inr 998), some (.inr 0), some (.inr 71), some (.inl v1)] [.inl L, .inl v1] M2
    obtain ⟨h179, h⟩ := gd_elim h
    refine ite_elim h (fun hc h => ?_) (fun hc h => ?_)
    · refine a_run qL_md hz 3 [1] (pc' := 640) (lv' := [some (.inr 998), some (.inr 0), some (.inr 71), some (.inl v1)]) (st' := []) (M' := M2) (P := (inR (L - (4 : Int))) ∧ ((L - (4 : Int)) < v1) ∧ True) rfl ⟨h179, hc, trivial⟩ ?_
      refine a_run qL_md hz 1 [] (pc' := 641) (lv' := [some (.inr 998), some (.inr 0), some (.inr 71), some (.inl v1)]) (st' := [.inl (1 : Int)]) (M' := M2) (P := True) rfl trivial ?_
      exact a_lret qL_md hz hZ rfl
    · refine a_run qL_md hz 3 [0] (pc' := 26) (lv' := [some (.inr 998), some (.inr 0), some (.inr 71), some (.inl v1)]) (st' := []) (M' := M2) (P := (inR (L - (4 : Int))) ∧ (¬ ((L - (4 : Int)) < v1)) ∧ True) rfl ⟨h179, hc, trivial⟩ ?_
      refine jn_elim h (fun (K5 : Int → Mm → Option (Int)) => ∀ (v3 : Int), ∀ (M4 : Mm), OK (K5 v3 M4) (fun r2 => r2 = 1) → Aw z 634 [some (.inr 998), some (.inr 0), some (.inr 71), some (.inl v3)] [] M4) (fun v3 M4 h => ?_) (fun K5 hK5 h => ?_)
      · obtain ⟨h6, h⟩ := gd_elim h
        refine a_run qL_md hz 2 [] (pc' := 18) (lv' := [some (.inr 998), some (.inr 0), some (.inr 71), some (.inl (v3 + (4 : Int)))]) (st' := []) (M' := M4) (P := (inR (v3 + (4 : Int))) ∧ True) rfl ⟨h6, trivial⟩ ?_
        refine a_mask [true, true, true, true] ?_
        exact ih (v3 + (4 : Int)) M4 h
      · obtain ⟨h178, h⟩ := gd_elim h
        refine a_run qL_md hz 2 [] (pc' := 28) (lv' := [some (.inr 998), some (.inr 0), some (.inr 71), some (.inl v1)]) (st' := [.inl v1, .inr 998]) (M' := M2) (P := True) rfl trivial ?_
        refine a_sld hz hX h178 (d_at qL_md rfl) ?_
        show Aw z 29 [some (.inr 998), some (.inr 0), some (.inr 71), some (.inl v1)] [.inl (xs v1.toNat)] M2
        refine ite_elim h (fun hs0 h => ?_) (fun hs0 h => ?_)
        · refine a_run qL_md hz 3 [0] (pc' := 120) (lv' := [some (.inr 998), some (.inr 0), some (.inr 71), some (.inl v1)]) (st' := []) (M' := M2) (P := ((iandI (xs v1.toNat) (31 : Int)) = (0 : Int) + ((0 : Nat) : Int)) ∧ True) rfl ⟨hs0.trans (by decide), trivial⟩ ?_
          obtain ⟨⟨h18, h17⟩, h⟩ := gd_elim h
          refine a_run qL_md hz 5 [] (pc' := 125) (lv' := [some (.inr 998), some (.inr 0), some (.inr 71), some (.inl v1)]) (st' := [.inl (v1 + (1 : Int)), .inr 998, .inr 0]) (M' := M2) (P := (inR (v1 + (1 : Int))) ∧ True) rfl ⟨h18, trivial⟩ ?_
          refine a_sld hz hX h17 (d_at qL_md rfl) ?_
          show Aw z 126 [some (.inr 998), some (.inr 0), some (.inr 71), some (.inl v1)] [.inl (xs (v1 + (1 : Int)).toNat), .inr 0] M2
          obtain ⟨⟨h16, h15⟩, h⟩ := gd_elim h
          refine a_run qL_md hz 4 [] (pc' := 130) (lv' := [some (.inr 998), some (.inr 0), some (.inr 71), some (.inl v1)]) (st' := [.inl (v1 + (2 : Int)), .inr 998, .inl (xs (v1 + (1 : Int)).toNat), .inr 0]) (M' := M2) (P := (inR (v1 + (2 : Int))) ∧ True) rfl ⟨h16, trivial⟩ ?_
          refine a_sld hz hX h15 (d_at qL_md rfl) ?_
          show Aw z 131 [some (.inr 998), some (.inr 0), some (.inr 71), some (.inl v1)] [.inl (xs (v1 + (2 : Int)).toNat), .inl (xs (v1 + (1 : Int)).toNat), .inr 0] M2
          obtain ⟨r7, M8, hr, h⟩ := cal2_elim h
          refine a_fV (as := [.inl (xs (v1 + (1 : Int)).toNat), .inl (xs (v1 + (2 : Int)).toNat)]) (a := 0) (st := []) (mX4_crossing z.1 hr) qL_md qX4_crossing_ok hz lkL_13 rfl 2 0 (by decide +kernel) rfl rfl rfl rfl ?_
          show Aw z 134 [some (.inr 998), some (.inr 0), some (.inr 71), some (.inl v1)] [.inl r7] M8
          obtain ⟨⟨h14, h13⟩, h⟩ := gd_elim h
          refine a_run qL_md hz 5 [] (pc' := 139) (lv' := [some (.inr 998), some (.inr 0), some (.inr 71), some (.inl v1)]) (st' := [.inl (v1 + (1 : Int)), .inr 998, .inr 71, .inl r7]) (M' := M8) (P := (inR (v1 + (1 : Int))) ∧ True) rfl ⟨h14, trivial⟩ ?_
          refine a_sld hz hX h13 (d_at qL_md rfl) ?_
          show Aw z 140 [some (.inr 998), some (.inr 0), some (.inr 71), some (.inl v1)] [.inl (xs (v1 + (1 : Int)).toNat), .inr 71, .inl r7] M8
          obtain ⟨⟨h12, h11⟩, h⟩ := gd_elim h
          refine a_run qL_md hz 4 [] (pc' := 144) (lv' := [some (.inr 998), some (.inr 0), some (.inr 71), some (.inl v1)]) (st' := [.inl (v1 + (2 : Int)), .inr 998, .inl (xs (v1 + (1 : Int)).toNat), .inr 71, .inl r7]) (M' := M8) (P := (inR (v1 + (2 : Int))) ∧ True) rfl ⟨h12, trivial⟩ ?_
          refine a_sld hz hX h11 (d_at qL_md rfl) ?_
          show Aw z 145 [some (.inr 998), some (.inr 0), some (.inr 71), some (.inl v1)] [.inl (xs (v1 + (2 : Int)).toNat), .inl (xs (v1 + (1 : Int)).toNat), .inr 71, .inl r7] M8
          obtain ⟨r9, M10, hr, h⟩ := cal2_elim h
          refine a_fV (as := [.inl (xs (v1 + (1 : Int)).toNat), .inl (xs (v1 + (2 : Int)).toNat)]) (a := 71) (st := [.inl r7]) (mX5_crossing z.1 hr) qL_md qX5_crossing_ok hz lkL_17 rfl 2 1 (by decide +kernel) rfl rfl rfl rfl ?_
          show Aw z 148 [some (.inr 998), some (.inr 0), some (.inr 71), some (.inl v1)] [.inl r9, .inl r7] M10
          refine ite_elim h (fun hc h => ?_) (fun hc h => ?_)
          · refine a_run qL_md hz 1 [1] (pc' := 634) (lv' := [some (.inr 998), some (.inr 0), some (.inr 71), some (.inl v1)]) (st' := []) (M' := M10) (P := (r7 = r9) ∧ True) rfl ⟨hc, trivial⟩ ?_
            refine a_mask [true, true, true, true] ?_
            exact hK5 v1 M10 h
          · refine a_run qL_md hz 1 [0] (pc' := 151) (lv' := [some (.inr 998), some (.inr 0), some (.inr 71), some (.inl v1)]) (st' := []) (M' := M10) (P := (¬ (r7 = r9)) ∧ True) rfl ⟨hc, trivial⟩ ?_
            refine a_run qL_md hz 1 [] (pc' := 152) (lv' := [some (.inr 998), some (.inr 0), some (.inr 71), some (.inl v1)]) (st' := [.inl (0 : Int)]) (M' := M10) (P := True) rfl trivial ?_
            exact absurd h (show ¬ (0 : Int) = 1 by decide)
        · refine ite_elim h (fun hs1 h => ?_) (fun hs1 h => ?_)
          · refine a_run qL_md hz 3 [1] (pc' := 153) (lv' := [some (.inr 998), some (.inr 0), some (.inr 71), some (.inl v1)]) (st' := []) (M' := M2) (P := ((iandI (xs v1.toNat) (31 : Int)) = (0 : Int) + ((1 : Nat) : Int)) ∧ True) rfl ⟨hs1.trans (by decide), trivial⟩ ?_
            obtain ⟨⟨h34, h33⟩, h⟩ := gd_elim h
            refine a_run qL_md hz 5 [] (pc' := 158) (lv' := [some (.inr 998), some (.inr 0), some (.inr 71), some (.inl v1)]) (st' := [.inl (v1 + (1 : Int)), .inr 998, .inr 0]) (M' := M2) (P := (inR (v1 + (1 : Int))) ∧ True) rfl ⟨h34, trivial⟩ ?_
            refine a_sld hz hX h33 (d_at qL_md rfl) ?_
            show Aw z 159 [some (.inr 998), some (.inr 0), some (.inr 71), some (.inl v1)] [.inl (xs (v1 + (1 : Int)).toNat), .inr 0] M2
            obtain ⟨⟨h32, h31⟩, h⟩ := gd_elim h
            refine a_run qL_md hz 4 [] (pc' := 163) (lv' := [some (.inr 998), some (.inr 0), some (.inr 71), some (.inl v1)]) (st' := [.inl (v1 + (2 : Int)), .inr 998, .inl (xs (v1 + (1 : Int)).toNat), .inr 0]) (M' := M2) (P := (inR (v1 + (2 : Int))) ∧ True) rfl ⟨h32, trivial⟩ ?_
            refine a_sld hz hX h31 (d_at qL_md rfl) ?_
            show Aw z 164 [some (.inr 998), some (.inr 0), some (.inr 71), some (.inl v1)] [.inl (xs (v1 + (2 : Int)).toNat), .inl (xs (v1 + (1 : Int)).toNat), .inr 0] M2
            obtain ⟨⟨h30, h29⟩, h⟩ := gd_elim h
            refine a_run qL_md hz 4 [] (pc' := 168) (lv' := [some (.inr 998), some (.inr 0), some (.inr 71), some (.inl v1)]) (st' := [.inl (v1 + (3 : Int)), .inr 998, .inl (xs (v1 + (2 : Int)).toNat), .inl (xs (v1 + (1 : Int)).toNat), .inr 0]) (M' := M2) (P := (inR (v1 + (3 : Int))) ∧ True) rfl ⟨h30, trivial⟩ ?_
            refine a_sld hz hX h29 (d_at qL_md rfl) ?_
            show Aw z 169 [some (.inr 998), some (.inr 0), some (.inr 71), some (.inl v1)] [.inl (xs (v1 + (3 : Int)).toNat), .inl (xs (v1 + (2 : Int)).toNat), .inl (xs (v1 + (1 : Int)).toNat), .inr 0] M2
            obtain ⟨r19, M20, hr, h⟩ := cal2_elim h
            refine a_fV (as := [.inl (xs (v1 + (1 : Int)).toNat), .inl (xs (v1 + (2 : Int)).toNat), .inl (xs (v1 + (3 : Int)).toNat)]) (a := 0) (st := []) (mX4_road z.1 hr) qL_md qX4_road_ok hz lkL_18 rfl 3 0 (by decide +kernel) rfl rfl rfl rfl ?_
            show Aw z 172 [some (.inr 998), some (.inr 0), some (.inr 71), some (.inl v1)] [.inl r19] M20
            obtain ⟨⟨h28, h27⟩, h⟩ := gd_elim h
            refine a_run qL_md hz 5 [] (pc' := 177) (lv' := [some (.inr 998), some (.inr 0), some (.inr 71), some (.inl v1)]) (st' := [.inl (v1 + (1 : Int)), .inr 998, .inr 71, .inl r19]) (M' := M20) (P := (inR (v1 + (1 : Int))) ∧ True) rfl ⟨h28, trivial⟩ ?_
            refine a_sld hz hX h27 (d_at qL_md rfl) ?_
            show Aw z 178 [some (.inr 998), some (.inr 0), some (.inr 71), some (.inl v1)] [.inl (xs (v1 + (1 : Int)).toNat), .inr 71, .inl r19] M20
            obtain ⟨⟨h26, h25⟩, h⟩ := gd_elim h
            refine a_run qL_md hz 4 [] (pc' := 182) (lv' := [some (.inr 998), some (.inr 0), some (.inr 71), some (.inl v1)]) (st' := [.inl (v1 + (2 : Int)), .inr 998, .inl (xs (v1 + (1 : Int)).toNat), .inr 71, .inl r19]) (M' := M20) (P := (inR (v1 + (2 : Int))) ∧ True) rfl ⟨h26, trivial⟩ ?_
            refine a_sld hz hX h25 (d_at qL_md rfl) ?_
            show Aw z 183 [some (.inr 998), some (.inr 0), some (.inr 71), some (.inl v1)] [.inl (xs (v1 + (2 : Int)).toNat), .inl (xs (v1 + (1 : Int)).toNat), .inr 71, .inl r19] M20
            obtain ⟨⟨h24, h23⟩, h⟩ := gd_elim h
            refine a_run qL_md hz 4 [] (pc' := 187) (lv' := [some (.inr 998), some (.inr 0), some (.inr 71), some (.inl v1)]) (st' := [.inl (v1 + (3 : Int)), .inr 998, .inl (xs (v1 + (2 : Int)).toNat), .inl (xs (v1 + (1 : Int)).toNat), .inr 71, .inl r19]) (M' := M20) (P := (inR (v1 + (3 : Int))) ∧ True) rfl ⟨h24, trivial⟩ ?_
            refine a_sld hz hX h23 (d_at qL_md rfl) ?_
            show Aw z 188 [some (.inr 998), some (.inr 0), some (.inr 71), some (.inl v1)] [.inl (xs (v1 + (3 : Int)).toNat), .inl (xs (v1 + (2 : Int)).toNat), .inl (xs (v1 + (1 : Int)).toNat), .inr 71, .inl r19] M20
            obtain ⟨r21, M22, hr, h⟩ := cal2_elim h
            refine a_fV (as := [.inl (xs (v1 + (1 : Int)).toNat), .inl (xs (v1 + (2 : Int)).toNat), .inl (xs (v1 + (3 : Int)).toNat)]) (a := 71) (st := [.inl r19]) (mX5_road z.1 hr) qL_md qX5_road_ok hz lkL_22 rfl 3 1 (by decide +kernel) rfl rfl rfl rfl ?_
            show Aw z 191 [some (.inr 998), some (.inr 0), some (.inr 71), some (.inl v1)] [.inl r21, .inl r19] M22
            refine ite_elim h (fun hc h => ?_) (fun hc h => ?_)
            · refine a_run qL_md hz 1 [1] (pc' := 634) (lv' := [some (.inr 998), some (.inr 0), some (.inr 71), some (.inl v1)]) (st' := []) (M' := M22) (P := (r19 = r21) ∧ True) rfl ⟨hc, trivial⟩ ?_
              refine a_mask [true, true, true, true] ?_
              exact hK5 v1 M22 h
            · refine a_run qL_md hz 1 [0] (pc' := 194) (lv' := [some (.inr 998), some (.inr 0), some (.inr 71), some (.inl v1)]) (st' := []) (M' := M22) (P := (¬ (r19 = r21)) ∧ True) rfl ⟨hc, trivial⟩ ?_
              refine a_run qL_md hz 1 [] (pc' := 195) (lv' := [some (.inr 998), some (.inr 0), some (.inr 71), some (.inl v1)]) (st' := [.inl (0 : Int)]) (M' := M22) (P := True) rfl trivial ?_
              exact absurd h (show ¬ (0 : Int) = 1 by decide)
          · refine ite_elim h (fun hs2 h => ?_) (fun hs2 h => ?_)
            · refine a_run qL_md hz 3 [2] (pc' := 196) (lv' := [some (.inr 998), some (.inr 0), some (.inr 71), some (.inl v1)]) (st' := []) (M' := M2) (P := ((iandI (xs v1.toNat) (31 : Int)) = (0 : Int) + ((2 : Nat) : Int)) ∧ True) rfl ⟨hs2.trans (by decide), trivial⟩ ?_
              obtain ⟨⟨h46, h45⟩, h⟩ := gd_elim h
              refine a_run qL_md hz 5 [] (pc' := 201) (lv' := [some (.inr 998), some (.inr 0), some (.inr 71), some (.inl v1)]) (st' := [.inl (v1 + (1 : Int)), .inr 998, .inr 0]) (M' := M2) (P := (inR (v1 + (1 : Int))) ∧ True) rfl ⟨h46, trivial⟩ ?_
              refine a_sld hz hX h45 (d_at qL_md rfl) ?_
              show Aw z 202 [some (.inr 998), some (.inr 0), some (.inr 71), some (.inl v1)] [.inl (xs (v1 + (1 : Int)).toNat), .inr 0] M2
              obtain ⟨⟨h44, h43⟩, h⟩ := gd_elim h
              refine a_run qL_md hz 4 [] (pc' := 206) (lv' := [some (.inr 998), some (.inr 0), some (.inr 71), some (.inl v1)]) (st' := [.inl (v1 + (2 : Int)), .inr 998, .inl (xs (v1 + (1 : Int)).toNat), .inr 0]) (M' := M2) (P := (inR (v1 + (2 : Int))) ∧ True) rfl ⟨h44, trivial⟩ ?_
              refine a_sld hz hX h43 (d_at qL_md rfl) ?_
              show Aw z 207 [some (.inr 998), some (.inr 0), some (.inr 71), some (.inl v1)] [.inl (xs (v1 + (2 : Int)).toNat), .inl (xs (v1 + (1 : Int)).toNat), .inr 0] M2
              obtain ⟨r35, M36, hr, h⟩ := cal2_elim h
              refine a_fV (as := [.inl (xs (v1 + (1 : Int)).toNat), .inl (xs (v1 + (2 : Int)).toNat)]) (a := 0) (st := []) (mX4_rule z.1 hr) qL_md qX4_rule_ok hz lkL_23 rfl 2 0 (by decide +kernel) rfl rfl rfl rfl ?_
              show Aw z 210 [some (.inr 998), some (.inr 0), some (.inr 71), some (.inl v1)] [.inl r35] M36
              obtain ⟨⟨h42, h41⟩, h⟩ := gd_elim h
              refine a_run qL_md hz 5 [] (pc' := 215) (lv' := [some (.inr 998), some (.inr 0), some (.inr 71), some (.inl v1)]) (st' := [.inl (v1 + (1 : Int)), .inr 998, .inr 71, .inl r35]) (M' := M36) (P := (inR (v1 + (1 : Int))) ∧ True) rfl ⟨h42, trivial⟩ ?_
              refine a_sld hz hX h41 (d_at qL_md rfl) ?_
              show Aw z 216 [some (.inr 998), some (.inr 0), some (.inr 71), some (.inl v1)] [.inl (xs (v1 + (1 : Int)).toNat), .inr 71, .inl r35] M36
              obtain ⟨⟨h40, h39⟩, h⟩ := gd_elim h
              refine a_run qL_md hz 4 [] (pc' := 220) (lv' := [some (.inr 998), some (.inr 0), some (.inr 71), some (.inl v1)]) (st' := [.inl (v1 + (2 : Int)), .inr 998, .inl (xs (v1 + (1 : Int)).toNat), .inr 71, .inl r35]) (M' := M36) (P := (inR (v1 + (2 : Int))) ∧ True) rfl ⟨h40, trivial⟩ ?_
              refine a_sld hz hX h39 (d_at qL_md rfl) ?_
              show Aw z 221 [some (.inr 998), some (.inr 0), some (.inr 71), some (.inl v1)] [.inl (xs (v1 + (2 : Int)).toNat), .inl (xs (v1 + (1 : Int)).toNat), .inr 71, .inl r35] M36
              obtain ⟨r37, M38, hr, h⟩ := cal2_elim h
              refine a_fV (as := [.inl (xs (v1 + (1 : Int)).toNat), .inl (xs (v1 + (2 : Int)).toNat)]) (a := 71) (st := [.inl r35]) (mX5_rule z.1 hr) qL_md qX5_rule_ok hz lkL_26 rfl 2 1 (by decide +kernel) rfl rfl rfl rfl ?_
              show Aw z 224 [some (.inr 998), some (.inr 0), some (.inr 71), some (.inl v1)] [.inl r37, .inl r35] M38
              refine ite_elim h (fun hc h => ?_) (fun hc h => ?_)
              · refine a_run qL_md hz 1 [1] (pc' := 634) (lv' := [some (.inr 998), some (.inr 0), some (.inr 71), some (.inl v1)]) (st' := []) (M' := M38) (P := (r35 = r37) ∧ True) rfl ⟨hc, trivial⟩ ?_
                refine a_mask [true, true, true, true] ?_
                exact hK5 v1 M38 h
              · refine a_run qL_md hz 1 [0] (pc' := 227) (lv' := [some (.inr 998), some (.inr 0), some (.inr 71), some (.inl v1)]) (st' := []) (M' := M38) (P := (¬ (r35 = r37)) ∧ True) rfl ⟨hc, trivial⟩ ?_
                refine a_run qL_md hz 1 [] (pc' := 228) (lv' := [some (.inr 998), some (.inr 0), some (.inr 71), some (.inl v1)]) (st' := [.inl (0 : Int)]) (M' := M38) (P := True) rfl trivial ?_
                exact absurd h (show ¬ (0 : Int) = 1 by decide)
            · refine ite_elim h (fun hs3 h => ?_) (fun hs3 h => ?_)
              · refine a_run qL_md hz 3 [3] (pc' := 229) (lv' := [some (.inr 998), some (.inr 0), some (.inr 71), some (.inl v1)]) (st' := []) (M' := M2) (P := ((iandI (xs v1.toNat) (31 : Int)) = (0 : Int) + ((3 : Nat) : Int)) ∧ True) rfl ⟨hs3.trans (by decide), trivial⟩ ?_
                obtain ⟨⟨h56, h55⟩, h⟩ := gd_elim h
                refine a_run qL_md hz 5 [] (pc' := 234) (lv' := [some (.inr 998), some (.inr 0), some (.inr 71), some (.inl v1)]) (st' := [.inl (v1 + (1 : Int)), .inr 998, .inr 0]) (M' := M2) (P := (inR (v1 + (1 : Int))) ∧ True) rfl ⟨h56, trivial⟩ ?_
                refine a_sld hz hX h55 (d_at qL_md rfl) ?_
                show Aw z 235 [some (.inr 998), some (.inr 0), some (.inr 71), some (.inl v1)] [.inl (xs (v1 + (1 : Int)).toNat), .inr 0] M2
                obtain ⟨⟨h54, h53⟩, h⟩ := gd_elim h
                refine a_run qL_md hz 4 [] (pc' := 239) (lv' := [some (.inr 998), some (.inr 0), some (.inr 71), some (.inl v1)]) (st' := [.inl (v1 + (2 : Int)), .inr 998, .inl (xs (v1 + (1 : Int)).toNat), .inr 0]) (M' := M2) (P := (inR (v1 + (2 : Int))) ∧ True) rfl ⟨h54, trivial⟩ ?_
                refine a_sld hz hX h53 (d_at qL_md rfl) ?_
                show Aw z 240 [some (.inr 998), some (.inr 0), some (.inr 71), some (.inl v1)] [.inl (xs (v1 + (2 : Int)).toNat), .inl (xs (v1 + (1 : Int)).toNat), .inr 0] M2
                obtain ⟨r47, hr, h⟩ := cal_elim h
                refine a_fV (as := [.inl (xs (v1 + (1 : Int)).toNat), .inl (xs (v1 + (2 : Int)).toNat)]) (a := 0) (st := []) (mX4_cell z.1 hr) qL_md qX4_cell_ok hz lkL_27 rfl 2 0 (by decide +kernel) rfl rfl rfl rfl ?_
                show Aw z 243 [some (.inr 998), some (.inr 0), some (.inr 71), some (.inl v1)] [.inl r47] M2
                obtain ⟨⟨h52, h51⟩, h⟩ := gd_elim h
                refine a_run qL_md hz 5 [] (pc' := 248) (lv' := [some (.inr 998), some (.inr 0), some (.inr 71), some (.inl v1)]) (st' := [.inl (v1 + (1 : Int)), .inr 998, .inr 71, .inl r47]) (M' := M2) (P := (inR (v1 + (1 : Int))) ∧ True) rfl ⟨h52, trivial⟩ ?_
                refine a_sld hz hX h51 (d_at qL_md rfl) ?_
                show Aw z 249 [some (.inr 998), some (.inr 0), some (.inr 71), some (.inl v1)] [.inl (xs (v1 + (1 : Int)).toNat), .inr 71, .inl r47] M2
                obtain ⟨⟨h50, h49⟩, h⟩ := gd_elim h
                refine a_run qL_md hz 4 [] (pc' := 253) (lv' := [some (.inr 998), some (.inr 0), some (.inr 71), some (.inl v1)]) (st' := [.inl (v1 + (2 : Int)), .inr 998, .inl (xs (v1 + (1 : Int)).toNat), .inr 71, .inl r47]) (M' := M2) (P := (inR (v1 + (2 : Int))) ∧ True) rfl ⟨h50, trivial⟩ ?_
                refine a_sld hz hX h49 (d_at qL_md rfl) ?_
                show Aw z 254 [some (.inr 998), some (.inr 0), some (.inr 71), some (.inl v1)] [.inl (xs (v1 + (2 : Int)).toNat), .inl (xs (v1 + (1 : Int)).toNat), .inr 71, .inl r47] M2
                obtain ⟨r48, hr, h⟩ := cal_elim h
                refine a_fV (as := [.inl (xs (v1 + (1 : Int)).toNat), .inl (xs (v1 + (2 : Int)).toNat)]) (a := 71) (st := [.inl r47]) (mX5_cell z.1 hr) qL_md qX5_cell_ok hz lkL_30 rfl 2 1 (by decide +kernel) rfl rfl rfl rfl ?_
                show Aw z 257 [some (.inr 998), some (.inr 0), some (.inr 71), some (.inl v1)] [.inl r48, .inl r47] M2
                refine ite_elim h (fun hc h => ?_) (fun hc h => ?_)
                · refine a_run qL_md hz 1 [1] (pc' := 634) (lv' := [some (.inr 998), some (.inr 0), some (.inr 71), some (.inl v1)]) (st' := []) (M' := M2) (P := (r47 = r48) ∧ True) rfl ⟨hc, trivial⟩ ?_
                  refine a_mask [true, true, true, true] ?_
                  exact hK5 v1 M2 h
                · refine a_run qL_md hz 1 [0] (pc' := 260) (lv' := [some (.inr 998), some (.inr 0), some (.inr 71), some (.inl v1)]) (st' := []) (M' := M2) (P := (¬ (r47 = r48)) ∧ True) rfl ⟨hc, trivial⟩ ?_
                  refine a_run qL_md hz 1 [] (pc' := 261) (lv' := [some (.inr 998), some (.inr 0), some (.inr 71), some (.inl v1)]) (st' := [.inl (0 : Int)]) (M' := M2) (P := True) rfl trivial ?_
                  exact absurd h (show ¬ (0 : Int) = 1 by decide)
              · refine ite_elim h (fun hs4 h => ?_) (fun hs4 h => ?_)
                · refine a_run qL_md hz 3 [4] (pc' := 262) (lv' := [some (.inr 998), some (.inr 0), some (.inr 71), some (.inl v1)]) (st' := []) (M' := M2) (P := ((iandI (xs v1.toNat) (31 : Int)) = (0 : Int) + ((4 : Nat) : Int)) ∧ True) rfl ⟨hs4.trans (by decide), trivial⟩ ?_
                  obtain ⟨⟨h67, h66⟩, h⟩ := gd_elim h
                  refine a_run qL_md hz 5 [] (pc' := 267) (lv' := [some (.inr 998), some (.inr 0), some (.inr 71), some (.inl v1)]) (st' := [.inl (v1 + (1 : Int)), .inr 998, .inr 0]) (M' := M2) (P := (inR (v1 + (1 : Int))) ∧ True) rfl ⟨h67, trivial⟩ ?_
                  refine a_sld hz hX h66 (d_at qL_md rfl) ?_
                  show Aw z 268 [some (.inr 998), some (.inr 0), some (.inr 71), some (.inl v1)] [.inl (xs (v1 + (1 : Int)).toNat), .inr 0] M2
                  obtain ⟨⟨h65, h64⟩, h⟩ := gd_elim h
                  refine a_run qL_md hz 4 [] (pc' := 272) (lv' := [some (.inr 998), some (.inr 0), some (.inr 71), some (.inl v1)]) (st' := [.inl (v1 + (2 : Int)), .inr 998, .inl (xs (v1 + (1 : Int)).toNat), .inr 0]) (M' := M2) (P := (inR (v1 + (2 : Int))) ∧ True) rfl ⟨h65, trivial⟩ ?_
                  refine a_sld hz hX h64 (d_at qL_md rfl) ?_
                  show Aw z 273 [some (.inr 998), some (.inr 0), some (.inr 71), some (.inl v1)] [.inl (xs (v1 + (2 : Int)).toNat), .inl (xs (v1 + (1 : Int)).toNat), .inr 0] M2
                  obtain ⟨r57, hr, h⟩ := cal_elim h
                  refine a_fV (as := [.inl (xs (v1 + (1 : Int)).toNat), .inl (xs (v1 + (2 : Int)).toNat)]) (a := 0) (st := []) (mX4_between z.1 hr) qL_md qX4_between_ok hz lkL_31 rfl 2 0 (by decide +kernel) rfl rfl rfl rfl ?_
                  show Aw z 276 [some (.inr 998), some (.inr 0), some (.inr 71), some (.inl v1)] [.inl r57] M2
                  obtain ⟨⟨h63, h62⟩, h⟩ := gd_elim h
                  refine a_run qL_md hz 5 [] (pc' := 281) (lv' := [some (.inr 998), some (.inr 0), some (.inr 71), some (.inl v1)]) (st' := [.inl (v1 + (1 : Int)), .inr 998, .inr 71, .inl r57]) (M' := M2) (P := (inR (v1 + (1 : Int))) ∧ True) rfl ⟨h63, trivial⟩ ?_
                  refine a_sld hz hX h62 (d_at qL_md rfl) ?_
                  show Aw z 282 [some (.inr 998), some (.inr 0), some (.inr 71), some (.inl v1)] [.inl (xs (v1 + (1 : Int)).toNat), .inr 71, .inl r57] M2
                  obtain ⟨⟨h61, h60⟩, h⟩ := gd_elim h
                  refine a_run qL_md hz 4 [] (pc' := 286) (lv' := [some (.inr 998), some (.inr 0), some (.inr 71), some (.inl v1)]) (st' := [.inl (v1 + (2 : Int)), .inr 998, .inl (xs (v1 + (1 : Int)).toNat), .inr 71, .inl r57]) (M' := M2) (P := (inR (v1 + (2 : Int))) ∧ True) rfl ⟨h61, trivial⟩ ?_
                  refine a_sld hz hX h60 (d_at qL_md rfl) ?_
                  show Aw z 287 [some (.inr 998), some (.inr 0), some (.inr 71), some (.inl v1)] [.inl (xs (v1 + (2 : Int)).toNat), .inl (xs (v1 + (1 : Int)).toNat), .inr 71, .inl r57] M2
                  obtain ⟨r58, M59, hr, h⟩ := cal2_elim h
                  refine a_fV (as := [.inl (xs (v1 + (1 : Int)).toNat), .inl (xs (v1 + (2 : Int)).toNat)]) (a := 71) (st := [.inl r57]) (mX5_between z.1 hr) qL_md qX5_between_ok hz lkL_34 rfl 2 1 (by decide +kernel) rfl rfl rfl rfl ?_
                  show Aw z 290 [some (.inr 998), some (.inr 0), some (.inr 71), some (.inl v1)] [.inl r58, .inl r57] M59
                  refine ite_elim h (fun hc h => ?_) (fun hc h => ?_)
                  · refine a_run qL_md hz 1 [1] (pc' := 634) (lv' := [some (.inr 998), some (.inr 0), some (.inr 71), some (.inl v1)]) (st' := []) (M' := M59) (P := (r57 = r58) ∧ True) rfl ⟨hc, trivial⟩ ?_
                    refine a_mask [true, true, true, true] ?_
                    exact hK5 v1 M59 h
                  · refine a_run qL_md hz 1 [0] (pc' := 293) (lv' := [some (.inr 998), some (.inr 0), some (.inr 71), some (.inl v1)]) (st' := []) (M' := M59) (P := (¬ (r57 = r58)) ∧ True) rfl ⟨hc, trivial⟩ ?_
                    refine a_run qL_md hz 1 [] (pc' := 294) (lv' := [some (.inr 998), some (.inr 0), some (.inr 71), some (.inl v1)]) (st' := [.inl (0 : Int)]) (M' := M59) (P := True) rfl trivial ?_
                    exact absurd h (show ¬ (0 : Int) = 1 by decide)
                · refine ite_elim h (fun hs5 h => ?_) (fun hs5 h => ?_)
                  · refine a_run qL_md hz 3 [5] (pc' := 295) (lv' := [some (.inr 998), some (.inr 0), some (.inr 71), some (.inl v1)]) (st' := []) (M' := M2) (P := ((iandI (xs v1.toNat) (31 : Int)) = (0 : Int) + ((5 : Nat) : Int)) ∧ True) rfl ⟨hs5.trans (by decide), trivial⟩ ?_
                    obtain ⟨⟨h78, h77⟩, h⟩ := gd_elim h
                    refine a_run qL_md hz 5 [] (pc' := 300) (lv' := [some (.inr 998), some (.inr 0), some (.inr 71), some (.inl v1)]) (st' := [.inl (v1 + (1 : Int)), .inr 998, .inr 0]) (M' := M2) (P := (inR (v1 + (1 : Int))) ∧ True) rfl ⟨h78, trivial⟩ ?_
                    refine a_sld hz hX h77 (d_at qL_md rfl) ?_
                    show Aw z 301 [some (.inr 998), some (.inr 0), some (.inr 71), some (.inl v1)] [.inl (xs (v1 + (1 : Int)).toNat), .inr 0] M2
                    obtain ⟨⟨h76, h75⟩, h⟩ := gd_elim h
                    refine a_run qL_md hz 4 [] (pc' := 305) (lv' := [some (.inr 998), some (.inr 0), some (.inr 71), some (.inl v1)]) (st' := [.inl (v1 + (2 : Int)), .inr 998, .inl (xs (v1 + (1 : Int)).toNat), .inr 0]) (M' := M2) (P := (inR (v1 + (2 : Int))) ∧ True) rfl ⟨h76, trivial⟩ ?_
                    refine a_sld hz hX h75 (d_at qL_md rfl) ?_
                    show Aw z 306 [some (.inr 998), some (.inr 0), some (.inr 71), some (.inl v1)] [.inl (xs (v1 + (2 : Int)).toNat), .inl (xs (v1 + (1 : Int)).toNat), .inr 0] M2
                    obtain ⟨r68, hr, h⟩ := cal_elim h
                    refine a_fV (as := [.inl (xs (v1 + (1 : Int)).toNat), .inl (xs (v1 + (2 : Int)).toNat)]) (a := 0) (st := []) (mX4_way z.1 hr) qL_md qX4_way_ok hz lkL_35 rfl 2 0 (by decide +kernel) rfl rfl rfl rfl ?_
                    show Aw z 309 [some (.inr 998), some (.inr 0), some (.inr 71), some (.inl v1)] [.inl r68] M2
                    obtain ⟨⟨h74, h73⟩, h⟩ := gd_elim h
                    refine a_run qL_md hz 5 [] (pc' := 314) (lv' := [some (.inr 998), some (.inr 0), some (.inr 71), some (.inl v1)]) (st' := [.inl (v1 + (1 : Int)), .inr 998, .inr 71, .inl r68]) (M' := M2) (P := (inR (v1 + (1 : Int))) ∧ True) rfl ⟨h74, trivial⟩ ?_
                    refine a_sld hz hX h73 (d_at qL_md rfl) ?_
                    show Aw z 315 [some (.inr 998), some (.inr 0), some (.inr 71), some (.inl v1)] [.inl (xs (v1 + (1 : Int)).toNat), .inr 71, .inl r68] M2
                    obtain ⟨⟨h72, h71⟩, h⟩ := gd_elim h
                    refine a_run qL_md hz 4 [] (pc' := 319) (lv' := [some (.inr 998), some (.inr 0), some (.inr 71), some (.inl v1)]) (st' := [.inl (v1 + (2 : Int)), .inr 998, .inl (xs (v1 + (1 : Int)).toNat), .inr 71, .inl r68]) (M' := M2) (P := (inR (v1 + (2 : Int))) ∧ True) rfl ⟨h72, trivial⟩ ?_
                    refine a_sld hz hX h71 (d_at qL_md rfl) ?_
                    show Aw z 320 [some (.inr 998), some (.inr 0), some (.inr 71), some (.inl v1)] [.inl (xs (v1 + (2 : Int)).toNat), .inl (xs (v1 + (1 : Int)).toNat), .inr 71, .inl r68] M2
                    obtain ⟨r69, M70, hr, h⟩ := cal2_elim h
                    refine a_fV (as := [.inl (xs (v1 + (1 : Int)).toNat), .inl (xs (v1 + (2 : Int)).toNat)]) (a := 71) (st := [.inl r68]) (mX5_way z.1 hr) qL_md qX5_way_ok hz lkL_38 rfl 2 1 (by decide +kernel) rfl rfl rfl rfl ?_
                    show Aw z 323 [some (.inr 998), some (.inr 0), some (.inr 71), some (.inl v1)] [.inl r69, .inl r68] M70
                    refine ite_elim h (fun hc h => ?_) (fun hc h => ?_)
                    · refine a_run qL_md hz 1 [1] (pc' := 634) (lv' := [some (.inr 998), some (.inr 0), some (.inr 71), some (.inl v1)]) (st' := []) (M' := M70) (P := (r68 = r69) ∧ True) rfl ⟨hc, trivial⟩ ?_
                      refine a_mask [true, true, true, true] ?_
                      exact hK5 v1 M70 h
                    · refine a_run qL_md hz 1 [0] (pc' := 326) (lv' := [some (.inr 998), some (.inr 0), some (.inr 71), some (.inl v1)]) (st' := []) (M' := M70) (P := (¬ (r68 = r69)) ∧ True) rfl ⟨hc, trivial⟩ ?_
                      refine a_run qL_md hz 1 [] (pc' := 327) (lv' := [some (.inr 998), some (.inr 0), some (.inr 71), some (.inl v1)]) (st' := [.inl (0 : Int)]) (M' := M70) (P := True) rfl trivial ?_
                      exact absurd h (show ¬ (0 : Int) = 1 by decide)
                  · refine ite_elim h (fun hs6 h => ?_) (fun hs6 h => ?_)
                    · refine a_run qL_md hz 3 [6] (pc' := 328) (lv' := [some (.inr 998), some (.inr 0), some (.inr 71), some (.inl v1)]) (st' := []) (M' := M2) (P := ((iandI (xs v1.toNat) (31 : Int)) = (0 : Int) + ((6 : Nat) : Int)) ∧ True) rfl ⟨hs6.trans (by decide), trivial⟩ ?_
                      obtain ⟨⟨h90, h89⟩, h⟩ := gd_elim h
                      refine a_run qL_md hz 5 [] (pc' := 333) (lv' := [some (.inr 998), some (.inr 0), some (.inr 71), some (.inl v1)]) (st' := [.inl (v1 + (1 : Int)), .inr 998, .inr 0]) (M' := M2) (P := (inR (v1 + (1 : Int))) ∧ True) rfl ⟨h90, trivial⟩ ?_
                      refine a_sld hz hX h89 (d_at qL_md rfl) ?_
                      show Aw z 334 [some (.inr 998), some (.inr 0), some (.inr 71), some (.inl v1)] [.inl (xs (v1 + (1 : Int)).toNat), .inr 0] M2
                      obtain ⟨⟨h88, h87⟩, h⟩ := gd_elim h
                      refine a_run qL_md hz 4 [] (pc' := 338) (lv' := [some (.inr 998), some (.inr 0), some (.inr 71), some (.inl v1)]) (st' := [.inl (v1 + (2 : Int)), .inr 998, .inl (xs (v1 + (1 : Int)).toNat), .inr 0]) (M' := M2) (P := (inR (v1 + (2 : Int))) ∧ True) rfl ⟨h88, trivial⟩ ?_
                      refine a_sld hz hX h87 (d_at qL_md rfl) ?_
                      show Aw z 339 [some (.inr 998), some (.inr 0), some (.inr 71), some (.inl v1)] [.inl (xs (v1 + (2 : Int)).toNat), .inl (xs (v1 + (1 : Int)).toNat), .inr 0] M2
                      obtain ⟨r79, M80, hr, h⟩ := cal2_elim h
                      refine a_fV (as := [.inl (xs (v1 + (1 : Int)).toNat), .inl (xs (v1 + (2 : Int)).toNat)]) (a := 0) (st := []) (mX4_fix z.1 hr) qL_md qX4_fix_ok hz lkL_39 rfl 2 0 (by decide +kernel) rfl rfl rfl rfl ?_
                      show Aw z 342 [some (.inr 998), some (.inr 0), some (.inr 71), some (.inl v1)] [.inl r79] M80
                      obtain ⟨⟨h86, h85⟩, h⟩ := gd_elim h
                      refine a_run qL_md hz 5 [] (pc' := 347) (lv' := [some (.inr 998), some (.inr 0), some (.inr 71), some (.inl v1)]) (st' := [.inl (v1 + (1 : Int)), .inr 998, .inr 71, .inl r79]) (M' := M80) (P := (inR (v1 + (1 : Int))) ∧ True) rfl ⟨h86, trivial⟩ ?_
                      refine a_sld hz hX h85 (d_at qL_md rfl) ?_
                      show Aw z 348 [some (.inr 998), some (.inr 0), some (.inr 71), some (.inl v1)] [.inl (xs (v1 + (1 : Int)).toNat), .inr 71, .inl r79] M80
                      obtain ⟨⟨h84, h83⟩, h⟩ := gd_elim h
                      refine a_run qL_md hz 4 [] (pc' := 352) (lv' := [some (.inr 998), some (.inr 0), some (.inr 71), some (.inl v1)]) (st' := [.inl (v1 + (2 : Int)), .inr 998, .inl (xs (v1 + (1 : Int)).toNat), .inr 71, .inl r79]) (M' := M80) (P := (inR (v1 + (2 : Int))) ∧ True) rfl ⟨h84, trivial⟩ ?_
                      refine a_sld hz hX h83 (d_at qL_md rfl) ?_
                      show Aw z 353 [some (.inr 998), some (.inr 0), some (.inr 71), some (.inl v1)] [.inl (xs (v1 + (2 : Int)).toNat), .inl (xs (v1 + (1 : Int)).toNat), .inr 71, .inl r79] M80
                      obtain ⟨r81, M82, hr, h⟩ := cal2_elim h
                      refine a_fV (as := [.inl (xs (v1 + (1 : Int)).toNat), .inl (xs (v1 + (2 : Int)).toNat)]) (a := 71) (st := [.inl r79]) (mX5_fix z.1 hr) qL_md qX5_fix_ok hz lkL_42 rfl 2 1 (by decide +kernel) rfl rfl rfl rfl ?_
                      show Aw z 356 [some (.inr 998), some (.inr 0), some (.inr 71), some (.inl v1)] [.inl r81, .inl r79] M82
                      refine ite_elim h (fun hc h => ?_) (fun hc h => ?_)
                      · refine a_run qL_md hz 1 [1] (pc' := 634) (lv' := [some (.inr 998), some (.inr 0), some (.inr 71), some (.inl v1)]) (st' := []) (M' := M82) (P := (r79 = r81) ∧ True) rfl ⟨hc, trivial⟩ ?_
                        refine a_mask [true, true, true, true] ?_
                        exact hK5 v1 M82 h
                      · refine a_run qL_md hz 1 [0] (pc' := 359) (lv' := [some (.inr 998), some (.inr 0), some (.inr 71), some (.inl v1)]) (st' := []) (M' := M82) (P := (¬ (r79 = r81)) ∧ True) rfl ⟨hc, trivial⟩ ?_
                        refine a_run qL_md hz 1 [] (pc' := 360) (lv' := [some (.inr 998), some (.inr 0), some (.inr 71), some (.inl v1)]) (st' := [.inl (0 : Int)]) (M' := M82) (P := True) rfl trivial ?_
                        exact absurd h (show ¬ (0 : Int) = 1 by decide)
                    · refine ite_elim h (fun hs7 h => ?_) (fun hs7 h => ?_)
                      · refine a_run qL_md hz 3 [7] (pc' := 361) (lv' := [some (.inr 998), some (.inr 0), some (.inr 71), some (.inl v1)]) (st' := []) (M' := M2) (P := ((iandI (xs v1.toNat) (31 : Int)) = (0 : Int) + ((7 : Nat) : Int)) ∧ True) rfl ⟨hs7.trans (by decide), trivial⟩ ?_
                        refine a_run qL_md hz 1 [] (pc' := 362) (lv' := [some (.inr 998), some (.inr 0), some (.inr 71), some (.inl v1)]) (st' := [.inr 0]) (M' := M2) (P := True) rfl trivial ?_
                        obtain ⟨r91, M92, hr, h⟩ := cal2_elim h
                        refine a_fV (as := []) (a := 0) (st := []) (mX4_drop z.1 hr) qL_md qX4_drop_ok hz lkL_43 rfl 0 0 (by decide +kernel) rfl rfl rfl rfl ?_
                        show Aw z 365 [some (.inr 998), some (.inr 0), some (.inr 71), some (.inl v1)] [.inl r91] M92
                        refine a_run qL_md hz 1 [] (pc' := 366) (lv' := [some (.inr 998), some (.inr 0), some (.inr 71), some (.inl v1)]) (st' := [.inr 71, .inl r91]) (M' := M92) (P := True) rfl trivial ?_
                        obtain ⟨r93, M94, hr, h⟩ := cal2_elim h
                        refine a_fV (as := []) (a := 71) (st := [.inl r91]) (mX5_drop z.1 hr) qL_md qX5_drop_ok hz lkL_47 rfl 0 1 (by decide +kernel) rfl rfl rfl rfl ?_
                        show Aw z 369 [some (.inr 998), some (.inr 0), some (.inr 71), some (.inl v1)] [.inl r93, .inl r91] M94
                        refine ite_elim h (fun hc h => ?_) (fun hc h => ?_)
                        · refine a_run qL_md hz 1 [1] (pc' := 634) (lv' := [some (.inr 998), some (.inr 0), some (.inr 71), some (.inl v1)]) (st' := []) (M' := M94) (P := (r91 = r93) ∧ True) rfl ⟨hc, trivial⟩ ?_
                          refine a_mask [true, true, true, true] ?_
                          exact hK5 v1 M94 h
                        · refine a_run qL_md hz 1 [0] (pc' := 372) (lv' := [some (.inr 998), some (.inr 0), some (.inr 71), some (.inl v1)]) (st' := []) (M' := M94) (P := (¬ (r91 = r93)) ∧ True) rfl ⟨hc, trivial⟩ ?_
                          refine a_run qL_md hz 1 [] (pc' := 373) (lv' := [some (.inr 998), some (.inr 0), some (.inr 71), some (.inl v1)]) (st' := [.inl (0 : Int)]) (M' := M94) (P := True) rfl trivial ?_
                          exact absurd h (show ¬ (0 : Int) = 1 by decide)
                      · refine ite_elim h (fun hs8 h => ?_) (fun hs8 h => ?_)
                        · refine a_run qL_md hz 3 [8] (pc' := 374) (lv' := [some (.inr 998), some (.inr 0), some (.inr 71), some (.inl v1)]) (st' := []) (M' := M2) (P := ((iandI (xs v1.toNat) (31 : Int)) = (0 : Int) + ((8 : Nat) : Int)) ∧ True) rfl ⟨hs8.trans (by decide), trivial⟩ ?_
                          obtain ⟨⟨h109, h108⟩, h⟩ := gd_elim h
                          refine a_run qL_md hz 5 [] (pc' := 379) (lv' := [some (.inr 998), some (.inr 0), some (.inr 71), some (.inl v1)]) (st' := [.inl (v1 + (1 : Int)), .inr 998, .inr 0]) (M' := M2) (P := (inR (v1 + (1 : Int))) ∧ True) rfl ⟨h109, trivial⟩ ?_
                          refine a_sld hz hX h108 (d_at qL_md rfl) ?_
                          show Aw z 380 [some (.inr 998), some (.inr 0), some (.inr 71), some (.inl v1)] [.inl (xs (v1 + (1 : Int)).toNat), .inr 0] M2
                          obtain ⟨⟨h107, h106⟩, h⟩ := gd_elim h
                          refine a_run qL_md hz 4 [] (pc' := 384) (lv' := [some (.inr 998), some (.inr 0), some (.inr 71), some (.inl v1)]) (st' := [.inl (v1 + (2 : Int)), .inr 998, .inl (xs (v1 + (1 : Int)).toNat), .inr 0]) (M' := M2) (P := (inR (v1 + (2 : Int))) ∧ True) rfl ⟨h107, trivial⟩ ?_
                          refine a_sld hz hX h106 (d_at qL_md rfl) ?_
                          show Aw z 385 [some (.inr 998), some (.inr 0), some (.inr 71), some (.inl v1)] [.inl (xs (v1 + (2 : Int)).toNat), .inl (xs (v1 + (1 : Int)).toNat), .inr 0] M2
                          obtain ⟨⟨h105, h104⟩, h⟩ := gd_elim h
                          refine a_run qL_md hz 4 [] (pc' := 389) (lv' := [some (.inr 998), some (.inr 0), some (.inr 71), some (.inl v1)]) (st' := [.inl (v1 + (3 : Int)), .inr 998, .inl (xs (v1 + (2 : Int)).toNat), .inl (xs (v1 + (1 : Int)).toNat), .inr 0]) (M' := M2) (P := (inR (v1 + (3 : Int))) ∧ True) rfl ⟨h105, trivial⟩ ?_
                          refine a_sld hz hX h104 (d_at qL_md rfl) ?_
                          show Aw z 390 [some (.inr 998), some (.inr 0), some (.inr 71), some (.inl v1)] [.inl (xs (v1 + (3 : Int)).toNat), .inl (xs (v1 + (2 : Int)).toNat), .inl (xs (v1 + (1 : Int)).toNat), .inr 0] M2
                          obtain ⟨r95, hr, h⟩ := cal_elim h
                          refine a_fV (as := [.inl (xs (v1 + (1 : Int)).toNat), .inl (xs (v1 + (2 : Int)).toNat), .inl (xs (v1 + (3 : Int)).toNat)]) (a := 0) (st := []) (mX4_candidate z.1 hr) qL_md qX4_candidate_ok hz lkL_48 rfl 3 0 (by decide +kernel) rfl rfl rfl rfl ?_
                          show Aw z 393 [some (.inr 998), some (.inr 0), some (.inr 71), some (.inl v1)] [.inl r95] M2
                          obtain ⟨⟨h103, h102⟩, h⟩ := gd_elim h
                          refine a_run qL_md hz 5 [] (pc' := 398) (lv' := [some (.inr 998), some (.inr 0), some (.inr 71), some (.inl v1)]) (st' := [.inl (v1 + (1 : Int)), .inr 998, .inr 71, .inl r95]) (M' := M2) (P := (inR (v1 + (1 : Int))) ∧ True) rfl ⟨h103, trivial⟩ ?_
                          refine a_sld hz hX h102 (d_at qL_md rfl) ?_
                          show Aw z 399 [some (.inr 998), some (.inr 0), some (.inr 71), some (.inl v1)] [.inl (xs (v1 + (1 : Int)).toNat), .inr 71, .inl r95] M2
                          obtain ⟨⟨h101, h100⟩, h⟩ := gd_elim h
                          refine a_run qL_md hz 4 [] (pc' := 403) (lv' := [some (.inr 998), some (.inr 0), some (.inr 71), some (.inl v1)]) (st' := [.inl (v1 + (2 : Int)), .inr 998, .inl (xs (v1 + (1 : Int)).toNat), .inr 71, .inl r95]) (M' := M2) (P := (inR (v1 + (2 : Int))) ∧ True) rfl ⟨h101, trivial⟩ ?_
                          refine a_sld hz hX h100 (d_at qL_md rfl) ?_
                          show Aw z 404 [some (.inr 998), some (.inr 0), some (.inr 71), some (.inl v1)] [.inl (xs (v1 + (2 : Int)).toNat), .inl (xs (v1 + (1 : Int)).toNat), .inr 71, .inl r95] M2
                          obtain ⟨⟨h99, h98⟩, h⟩ := gd_elim h
                          refine a_run qL_md hz 4 [] (pc' := 408) (lv' := [some (.inr 998), some (.inr 0), some (.inr 71), some (.inl v1)]) (st' := [.inl (v1 + (3 : Int)), .inr 998, .inl (xs (v1 + (2 : Int)).toNat), .inl (xs (v1 + (1 : Int)).toNat), .inr 71, .inl r95]) (M' := M2) (P := (inR (v1 + (3 : Int))) ∧ True) rfl ⟨h99, trivial⟩ ?_
                          refine a_sld hz hX h98 (d_at qL_md rfl) ?_
                          show Aw z 409 [some (.inr 998), some (.inr 0), some (.inr 71), some (.inl v1)] [.inl (xs (v1 + (3 : Int)).toNat), .inl (xs (v1 + (2 : Int)).toNat), .inl (xs (v1 + (1 : Int)).toNat), .inr 71, .inl r95] M2
                          obtain ⟨r96, M97, hr, h⟩ := cal2_elim h
                          refine a_fV (as := [.inl (xs (v1 + (1 : Int)).toNat), .inl (xs (v1 + (2 : Int)).toNat), .inl (xs (v1 + (3 : Int)).toNat)]) (a := 71) (st := [.inl r95]) (mX5_candidate z.1 hr) qL_md qX5_candidate_ok hz lkL_51 rfl 3 1 (by decide +kernel) rfl rfl rfl rfl ?_
                          show Aw z 412 [some (.inr 998), some (.inr 0), some (.inr 71), some (.inl v1)] [.inl r96, .inl r95] M97
                          refine ite_elim h (fun hc h => ?_) (fun hc h => ?_)
                          · refine a_run qL_md hz 1 [1] (pc' := 634) (lv' := [some (.inr 998), some (.inr 0), some (.inr 71), some (.inl v1)]) (st' := []) (M' := M97) (P := (r95 = r96) ∧ True) rfl ⟨hc, trivial⟩ ?_
                            refine a_mask [true, true, true, true] ?_
                            exact hK5 v1 M97 h
                          · refine a_run qL_md hz 1 [0] (pc' := 415) (lv' := [some (.inr 998), some (.inr 0), some (.inr 71), some (.inl v1)]) (st' := []) (M' := M97) (P := (¬ (r95 = r96)) ∧ True) rfl ⟨hc, trivial⟩ ?_
                            refine a_run qL_md hz 1 [] (pc' := 416) (lv' := [some (.inr 998), some (.inr 0), some (.inr 71), some (.inl v1)]) (st' := [.inl (0 : Int)]) (M' := M97) (P := True) rfl trivial ?_
                            exact absurd h (show ¬ (0 : Int) = 1 by decide)
                        · refine ite_elim h (fun hs9 h => ?_) (fun hs9 h => ?_)
                          · refine a_run qL_md hz 3 [9] (pc' := 417) (lv' := [some (.inr 998), some (.inr 0), some (.inr 71), some (.inl v1)]) (st' := []) (M' := M2) (P := ((iandI (xs v1.toNat) (31 : Int)) = (0 : Int) + ((9 : Nat) : Int)) ∧ True) rfl ⟨hs9.trans (by decide), trivial⟩ ?_
                            obtain ⟨⟨h116, h115⟩, h⟩ := gd_elim h
                            refine a_run qL_md hz 5 [] (pc' := 422) (lv' := [some (.inr 998), some (.inr 0), some (.inr 71), some (.inl v1)]) (st' := [.inl (v1 + (1 : Int)), .inr 998, .inr 0]) (M' := M2) (P := (inR (v1 + (1 : Int))) ∧ True) rfl ⟨h116, trivial⟩ ?_
                            refine a_sld hz hX h115 (d_at qL_md rfl) ?_
                            show Aw z 423 [some (.inr 998), some (.inr 0), some (.inr 71), some (.inl v1)] [.inl (xs (v1 + (1 : Int)).toNat), .inr 0] M2
                            obtain ⟨r110, hr, h⟩ := cal_elim h
                            refine a_fV (as := [.inl (xs (v1 + (1 : Int)).toNat)]) (a := 0) (st := []) (mX4_best z.1 hr) qL_md qX4_best_ok hz lkL_52 rfl 1 0 (by decide +kernel) rfl rfl rfl rfl ?_
                            show Aw z 426 [some (.inr 998), some (.inr 0), some (.inr 71), some (.inl v1)] [.inl r110] M2
                            obtain ⟨⟨h114, h113⟩, h⟩ := gd_elim h
                            refine a_run qL_md hz 5 [] (pc' := 431) (lv' := [some (.inr 998), some (.inr 0), some (.inr 71), some (.inl v1)]) (st' := [.inl (v1 + (1 : Int)), .inr 998, .inr 71, .inl r110]) (M' := M2) (P := (inR (v1 + (1 : Int))) ∧ True) rfl ⟨h114, trivial⟩ ?_
                            refine a_sld hz hX h113 (d_at qL_md rfl) ?_
                            show Aw z 432 [some (.inr 998), some (.inr 0), some (.inr 71), some (.inl v1)] [.inl (xs (v1 + (1 : Int)).toNat), .inr 71, .inl r110] M2
                            obtain ⟨r111, M112, hr, h⟩ := cal2_elim h
                            refine a_fV (as := [.inl (xs (v1 + (1 : Int)).toNat)]) (a := 71) (st := [.inl r110]) (mX5_best z.1 hr) qL_md qX5_best_ok hz lkL_56 rfl 1 1 (by decide +kernel) rfl rfl rfl rfl ?_
                            show Aw z 435 [some (.inr 998), some (.inr 0), some (.inr 71), some (.inl v1)] [.inl r111, .inl r110] M112
                            refine ite_elim h (fun hc h => ?_) (fun hc h => ?_)
                            · refine a_run qL_md hz 1 [1] (pc' := 634) (lv' := [some (.inr 998), some (.inr 0), some (.inr 71), some (.inl v1)]) (st' := []) (M' := M112) (P := (r110 = r111) ∧ True) rfl ⟨hc, trivial⟩ ?_
                              refine a_mask [true, true, true, true] ?_
                              exact hK5 v1 M112 h
                            · refine a_run qL_md hz 1 [0] (pc' := 438) (lv' := [some (.inr 998), some (.inr 0), some (.inr 71), some (.inl v1)]) (st' := []) (M' := M112) (P := (¬ (r110 = r111)) ∧ True) rfl ⟨hc, trivial⟩ ?_
                              refine a_run qL_md hz 1 [] (pc' := 439) (lv' := [some (.inr 998), some (.inr 0), some (.inr 71), some (.inl v1)]) (st' := [.inl (0 : Int)]) (M' := M112) (P := True) rfl trivial ?_
                              exact absurd h (show ¬ (0 : Int) = 1 by decide)
                          · refine ite_elim h (fun hs10 h => ?_) (fun hs10 h => ?_)
                            · refine a_run qL_md hz 3 [10] (pc' := 440) (lv' := [some (.inr 998), some (.inr 0), some (.inr 71), some (.inl v1)]) (st' := []) (M' := M2) (P := ((iandI (xs v1.toNat) (31 : Int)) = (0 : Int) + ((10 : Nat) : Int)) ∧ True) rfl ⟨hs10.trans (by decide), trivial⟩ ?_
                              obtain ⟨⟨h123, h122⟩, h⟩ := gd_elim h
                              refine a_run qL_md hz 5 [] (pc' := 445) (lv' := [some (.inr 998), some (.inr 0), some (.inr 71), some (.inl v1)]) (st' := [.inl (v1 + (1 : Int)), .inr 998, .inr 0]) (M' := M2) (P := (inR (v1 + (1 : Int))) ∧ True) rfl ⟨h123, trivial⟩ ?_
                              refine a_sld hz hX h122 (d_at qL_md rfl) ?_
                              show Aw z 446 [some (.inr 998), some (.inr 0), some (.inr 71), some (.inl v1)] [.inl (xs (v1 + (1 : Int)).toNat), .inr 0] M2
                              obtain ⟨r117, hr, h⟩ := cal_elim h
                              refine a_fV (as := [.inl (xs (v1 + (1 : Int)).toNat)]) (a := 0) (st := []) (mX4_decided z.1 hr) qL_md qX4_decided_ok hz lkL_57 rfl 1 0 (by decide +kernel) rfl rfl rfl rfl ?_
                              show Aw z 449 [some (.inr 998), some (.inr 0), some (.inr 71), some (.inl v1)] [.inl r117] M2
                              obtain ⟨⟨h121, h120⟩, h⟩ := gd_elim h
                              refine a_run qL_md hz 5 [] (pc' := 454) (lv' := [some (.inr 998), some (.inr 0), some (.inr 71), some (.inl v1)]) (st' := [.inl (v1 + (1 : Int)), .inr 998, .inr 71, .inl r117]) (M' := M2) (P := (inR (v1 + (1 : Int))) ∧ True) rfl ⟨h121, trivial⟩ ?_
                              refine a_sld hz hX h120 (d_at qL_md rfl) ?_
                              show Aw z 455 [some (.inr 998), some (.inr 0), some (.inr 71), some (.inl v1)] [.inl (xs (v1 + (1 : Int)).toNat), .inr 71, .inl r117] M2
                              obtain ⟨r118, M119, hr, h⟩ := cal2_elim h
                              refine a_fV (as := [.inl (xs (v1 + (1 : Int)).toNat)]) (a := 71) (st := [.inl r117]) (mX5_decided z.1 hr) qL_md qX5_decided_ok hz lkL_60 rfl 1 1 (by decide +kernel) rfl rfl rfl rfl ?_
                              show Aw z 458 [some (.inr 998), some (.inr 0), some (.inr 71), some (.inl v1)] [.inl r118, .inl r117] M119
                              refine ite_elim h (fun hc h => ?_) (fun hc h => ?_)
                              · refine a_run qL_md hz 1 [1] (pc' := 634) (lv' := [some (.inr 998), some (.inr 0), some (.inr 71), some (.inl v1)]) (st' := []) (M' := M119) (P := (r117 = r118) ∧ True) rfl ⟨hc, trivial⟩ ?_
                                refine a_mask [true, true, true, true] ?_
                                exact hK5 v1 M119 h
                              · refine a_run qL_md hz 1 [0] (pc' := 461) (lv' := [some (.inr 998), some (.inr 0), some (.inr 71), some (.inl v1)]) (st' := []) (M' := M119) (P := (¬ (r117 = r118)) ∧ True) rfl ⟨hc, trivial⟩ ?_
                                refine a_run qL_md hz 1 [] (pc' := 462) (lv' := [some (.inr 998), some (.inr 0), some (.inr 71), some (.inl v1)]) (st' := [.inl (0 : Int)]) (M' := M119) (P := True) rfl trivial ?_
                                exact absurd h (show ¬ (0 : Int) = 1 by decide)
                            · refine ite_elim h (fun hs11 h => ?_) (fun hs11 h => ?_)
                              · refine a_run qL_md hz 3 [11] (pc' := 463) (lv' := [some (.inr 998), some (.inr 0), some (.inr 71), some (.inl v1)]) (st' := []) (M' := M2) (P := ((iandI (xs v1.toNat) (31 : Int)) = (0 : Int) + ((11 : Nat) : Int)) ∧ True) rfl ⟨hs11.trans (by decide), trivial⟩ ?_
                                obtain ⟨⟨h130, h129⟩, h⟩ := gd_elim h
                                refine a_run qL_md hz 5 [] (pc' := 468) (lv' := [some (.inr 998), some (.inr 0), some (.inr 71), some (.inl v1)]) (st' := [.inl (v1 + (1 : Int)), .inr 998, .inr 0]) (M' := M2) (P := (inR (v1 + (1 : Int))) ∧ True) rfl ⟨h130, trivial⟩ ?_
                                refine a_sld hz hX h129 (d_at qL_md rfl) ?_
                                show Aw z 469 [some (.inr 998), some (.inr 0), some (.inr 71), some (.inl v1)] [.inl (xs (v1 + (1 : Int)).toNat), .inr 0] M2
                                obtain ⟨r124, hr, h⟩ := cal_elim h
                                refine a_fV (as := [.inl (xs (v1 + (1 : Int)).toNat)]) (a := 0) (st := []) (mX4_piece z.1 hr) qL_md qX4_piece_ok hz lkL_61 rfl 1 0 (by decide +kernel) rfl rfl rfl rfl ?_
                                show Aw z 472 [some (.inr 998), some (.inr 0), some (.inr 71), some (.inl v1)] [.inl r124] M2
                                obtain ⟨⟨h128, h127⟩, h⟩ := gd_elim h
                                refine a_run qL_md hz 5 [] (pc' := 477) (lv' := [some (.inr 998), some (.inr 0), some (.inr 71), some (.inl v1)]) (st' := [.inl (v1 + (1 : Int)), .inr 998, .inr 71, .inl r124]) (M' := M2) (P := (inR (v1 + (1 : Int))) ∧ True) rfl ⟨h128, trivial⟩ ?_
                                refine a_sld hz hX h127 (d_at qL_md rfl) ?_
                                show Aw z 478 [some (.inr 998), some (.inr 0), some (.inr 71), some (.inl v1)] [.inl (xs (v1 + (1 : Int)).toNat), .inr 71, .inl r124] M2
                                obtain ⟨r125, M126, hr, h⟩ := cal2_elim h
                                refine a_fV (as := [.inl (xs (v1 + (1 : Int)).toNat)]) (a := 71) (st := [.inl r124]) (mX5_piece z.1 hr) qL_md qX5_piece_ok hz lkL_64 rfl 1 1 (by decide +kernel) rfl rfl rfl rfl ?_
                                show Aw z 481 [some (.inr 998), some (.inr 0), some (.inr 71), some (.inl v1)] [.inl r125, .inl r124] M126
                                refine ite_elim h (fun hc h => ?_) (fun hc h => ?_)
                                · refine a_run qL_md hz 1 [1] (pc' := 634) (lv' := [some (.inr 998), some (.inr 0), some (.inr 71), some (.inl v1)]) (st' := []) (M' := M126) (P := (r124 = r125) ∧ True) rfl ⟨hc, trivial⟩ ?_
                                  refine a_mask [true, true, true, true] ?_
                                  exact hK5 v1 M126 h
                                · refine a_run qL_md hz 1 [0] (pc' := 484) (lv' := [some (.inr 998), some (.inr 0), some (.inr 71), some (.inl v1)]) (st' := []) (M' := M126) (P := (¬ (r124 = r125)) ∧ True) rfl ⟨hc, trivial⟩ ?_
                                  refine a_run qL_md hz 1 [] (pc' := 485) (lv' := [some (.inr 998), some (.inr 0), some (.inr 71), some (.inl v1)]) (st' := [.inl (0 : Int)]) (M' := M126) (P := True) rfl trivial ?_
                                  exact absurd h (show ¬ (0 : Int) = 1 by decide)
                              · refine ite_elim h (fun hs12 h => ?_) (fun hs12 h => ?_)
                                · refine a_run qL_md hz 3 [12] (pc' := 486) (lv' := [some (.inr 998), some (.inr 0), some (.inr 71), some (.inl v1)]) (st' := []) (M' := M2) (P := ((iandI (xs v1.toNat) (31 : Int)) = (0 : Int) + ((12 : Nat) : Int)) ∧ True) rfl ⟨hs12.trans (by decide), trivial⟩ ?_
                                  obtain ⟨⟨h137, h136⟩, h⟩ := gd_elim h
                                  refine a_run qL_md hz 5 [] (pc' := 491) (lv' := [some (.inr 998), some (.inr 0), some (.inr 71), some (.inl v1)]) (st' := [.inl (v1 + (1 : Int)), .inr 998, .inr 0]) (M' := M2) (P := (inR (v1 + (1 : Int))) ∧ True) rfl ⟨h137, trivial⟩ ?_
                                  refine a_sld hz hX h136 (d_at qL_md rfl) ?_
                                  show Aw z 492 [some (.inr 998), some (.inr 0), some (.inr 71), some (.inl v1)] [.inl (xs (v1 + (1 : Int)).toNat), .inr 0] M2
                                  obtain ⟨r131, hr, h⟩ := cal_elim h
                                  refine a_fV (as := [.inl (xs (v1 + (1 : Int)).toNat)]) (a := 0) (st := []) (mX4_step z.1 hr) qL_md qX4_step_ok hz lkL_65 rfl 1 0 (by decide +kernel) rfl rfl rfl rfl ?_
                                  show Aw z 495 [some (.inr 998), some (.inr 0), some (.inr 71), some (.inl v1)] [.inl r131] M2
                                  obtain ⟨⟨h135, h134⟩, h⟩ := gd_elim h
                                  refine a_run qL_md hz 5 [] (pc' := 500) (lv' := [some (.inr 998), some (.inr 0), some (.inr 71), some (.inl v1)]) (st' := [.inl (v1 + (1 : Int)), .inr 998, .inr 71, .inl r131]) (M' := M2) (P := (inR (v1 + (1 : Int))) ∧ True) rfl ⟨h135, trivial⟩ ?_
                                  refine a_sld hz hX h134 (d_at qL_md rfl) ?_
                                  show Aw z 501 [some (.inr 998), some (.inr 0), some (.inr 71), some (.inl v1)] [.inl (xs (v1 + (1 : Int)).toNat), .inr 71, .inl r131] M2
                                  obtain ⟨r132, M133, hr, h⟩ := cal2_elim h
                                  refine a_fV (as := [.inl (xs (v1 + (1 : Int)).toNat)]) (a := 71) (st := [.inl r131]) (mX5_step z.1 hr) qL_md qX5_step_ok hz lkL_68 rfl 1 1 (by decide +kernel) rfl rfl rfl rfl ?_
                                  show Aw z 504 [some (.inr 998), some (.inr 0), some (.inr 71), some (.inl v1)] [.inl r132, .inl r131] M133
                                  refine ite_elim h (fun hc h => ?_) (fun hc h => ?_)
                                  · refine a_run qL_md hz 1 [1] (pc' := 634) (lv' := [some (.inr 998), some (.inr 0), some (.inr 71), some (.inl v1)]) (st' := []) (M' := M133) (P := (r131 = r132) ∧ True) rfl ⟨hc, trivial⟩ ?_
                                    refine a_mask [true, true, true, true] ?_
                                    exact hK5 v1 M133 h
                                  · refine a_run qL_md hz 1 [0] (pc' := 507) (lv' := [some (.inr 998), some (.inr 0), some (.inr 71), some (.inl v1)]) (st' := []) (M' := M133) (P := (¬ (r131 = r132)) ∧ True) rfl ⟨hc, trivial⟩ ?_
                                    refine a_run qL_md hz 1 [] (pc' := 508) (lv' := [some (.inr 998), some (.inr 0), some (.inr 71), some (.inl v1)]) (st' := [.inl (0 : Int)]) (M' := M133) (P := True) rfl trivial ?_
                                    exact absurd h (show ¬ (0 : Int) = 1 by decide)
                                · refine ite_elim h (fun hs13 h => ?_) (fun hs13 h => ?_)
                                  · refine a_run qL_md hz 3 [13] (pc' := 509) (lv' := [some (.inr 998), some (.inr 0), some (.inr 71), some (.inl v1)]) (st' := []) (M' := M2) (P := ((iandI (xs v1.toNat) (31 : Int)) = (0 : Int) + ((13 : Nat) : Int)) ∧ True) rfl ⟨hs13.trans (by decide), trivial⟩ ?_
                                    obtain ⟨⟨h148, h147⟩, h⟩ := gd_elim h
                                    refine a_run qL_md hz 5 [] (pc' := 514) (lv' := [some (.inr 998), some (.inr 0), some (.inr 71), some (.inl v1)]) (st' := [.inl (v1 + (1 : Int)), .inr 998, .inr 0]) (M' := M2) (P := (inR (v1 + (1 : Int))) ∧ True) rfl ⟨h148, trivial⟩ ?_
                                    refine a_sld hz hX h147 (d_at qL_md rfl) ?_
                                    show Aw z 515 [some (.inr 998), some (.inr 0), some (.inr 71), some (.inl v1)] [.inl (xs (v1 + (1 : Int)).toNat), .inr 0] M2
                                    obtain ⟨⟨h146, h145⟩, h⟩ := gd_elim h
                                    refine a_run qL_md hz 4 [] (pc' := 519) (lv' := [some (.inr 998), some (.inr 0), some (.inr 71), some (.inl v1)]) (st' := [.inl (v1 + (2 : Int)), .inr 998, .inl (xs (v1 + (1 : Int)).toNat), .inr 0]) (M' := M2) (P := (inR (v1 + (2 : Int))) ∧ True) rfl ⟨h146, trivial⟩ ?_
                                    refine a_sld hz hX h145 (d_at qL_md rfl) ?_
                                    show Aw z 520 [some (.inr 998), some (.inr 0), some (.inr 71), some (.inl v1)] [.inl (xs (v1 + (2 : Int)).toNat), .inl (xs (v1 + (1 : Int)).toNat), .inr 0] M2
                                    obtain ⟨r138, hr, h⟩ := cal_elim h
                                    refine a_fV (as := [.inl (xs (v1 + (1 : Int)).toNat), .inl (xs (v1 + (2 : Int)).toNat)]) (a := 0) (st := []) (mX4_through z.1 hr) qL_md qX4_through_ok hz lkL_69 rfl 2 0 (by decide +kernel) rfl rfl rfl rfl ?_
                                    show Aw z 523 [some (.inr 998), some (.inr 0), some (.inr 71), some (.inl v1)] [.inl r138] M2
                                    obtain ⟨⟨h144, h143⟩, h⟩ := gd_elim h
                                    refine a_run qL_md hz 5 [] (pc' := 528) (lv' := [some (.inr 998), some (.inr 0), some (.inr 71), some (.inl v1)]) (st' := [.inl (v1 + (1 : Int)), .inr 998, .inr 71, .inl r138]) (M' := M2) (P := (inR (v1 + (1 : Int))) ∧ True) rfl ⟨h144, trivial⟩ ?_
                                    refine a_sld hz hX h143 (d_at qL_md rfl) ?_
                                    show Aw z 529 [some (.inr 998), some (.inr 0), some (.inr 71), some (.inl v1)] [.inl (xs (v1 + (1 : Int)).toNat), .inr 71, .inl r138] M2
                                    obtain ⟨⟨h142, h141⟩, h⟩ := gd_elim h
                                    refine a_run qL_md hz 4 [] (pc' := 533) (lv' := [some (.inr 998), some (.inr 0), some (.inr 71), some (.inl v1)]) (st' := [.inl (v1 + (2 : Int)), .inr 998, .inl (xs (v1 + (1 : Int)).toNat), .inr 71, .inl r138]) (M' := M2) (P := (inR (v1 + (2 : Int))) ∧ True) rfl ⟨h142, trivial⟩ ?_
                                    refine a_sld hz hX h141 (d_at qL_md rfl) ?_
                                    show Aw z 534 [some (.inr 998), some (.inr 0), some (.inr 71), some (.inl v1)] [.inl (xs (v1 + (2 : Int)).toNat), .inl (xs (v1 + (1 : Int)).toNat), .inr 71, .inl r138] M2
                                    obtain ⟨r139, M140, hr, h⟩ := cal2_elim h
                                    refine a_fV (as := [.inl (xs (v1 + (1 : Int)).toNat), .inl (xs (v1 + (2 : Int)).toNat)]) (a := 71) (st := [.inl r138]) (mX5_through z.1 hr) qL_md qX5_through_ok hz lkL_72 rfl 2 1 (by decide +kernel) rfl rfl rfl rfl ?_
                                    show Aw z 537 [some (.inr 998), some (.inr 0), some (.inr 71), some (.inl v1)] [.inl r139, .inl r138] M140
                                    refine ite_elim h (fun hc h => ?_) (fun hc h => ?_)
                                    · refine a_run qL_md hz 1 [1] (pc' := 634) (lv' := [some (.inr 998), some (.inr 0), some (.inr 71), some (.inl v1)]) (st' := []) (M' := M140) (P := (r138 = r139) ∧ True) rfl ⟨hc, trivial⟩ ?_
                                      refine a_mask [true, true, true, true] ?_
                                      exact hK5 v1 M140 h
                                    · refine a_run qL_md hz 1 [0] (pc' := 540) (lv' := [some (.inr 998), some (.inr 0), some (.inr 71), some (.inl v1)]) (st' := []) (M' := M140) (P := (¬ (r138 = r139)) ∧ True) rfl ⟨hc, trivial⟩ ?_
                                      refine a_run qL_md hz 1 [] (pc' := 541) (lv' := [some (.inr 998), some (.inr 0), some (.inr 71), some (.inl v1)]) (st' := [.inl (0 : Int)]) (M' := M140) (P := True) rfl trivial ?_
                                      exact absurd h (show ¬ (0 : Int) = 1 by decide)
                                  · refine ite_elim h (fun hs14 h => ?_) (fun hs14 h => ?_)
                                    · refine a_run qL_md hz 3 [14] (pc' := 542) (lv' := [some (.inr 998), some (.inr 0), some (.inr 71), some (.inl v1)]) (st' := []) (M' := M2) (P := ((iandI (xs v1.toNat) (31 : Int)) = (0 : Int) + ((14 : Nat) : Int)) ∧ True) rfl ⟨hs14.trans (by decide), trivial⟩ ?_
                                      obtain ⟨⟨h155, h154⟩, h⟩ := gd_elim h
                                      refine a_run qL_md hz 5 [] (pc' := 547) (lv' := [some (.inr 998), some (.inr 0), some (.inr 71), some (.inl v1)]) (st' := [.inl (v1 + (1 : Int)), .inr 998, .inr 0]) (M' := M2) (P := (inR (v1 + (1 : Int))) ∧ True) rfl ⟨h155, trivial⟩ ?_
                                      refine a_sld hz hX h154 (d_at qL_md rfl) ?_
                                      show Aw z 548 [some (.inr 998), some (.inr 0), some (.inr 71), some (.inl v1)] [.inl (xs (v1 + (1 : Int)).toNat), .inr 0] M2
                                      obtain ⟨r149, hr, h⟩ := cal_elim h
                                      refine a_fV (as := [.inl (xs (v1 + (1 : Int)).toNat)]) (a := 0) (st := []) (mX4_total z.1 hr) qL_md qX4_total_ok hz lkL_73 rfl 1 0 (by decide +kernel) rfl rfl rfl rfl ?_
                                      show Aw z 551 [some (.inr 998), some (.inr 0), some (.inr 71), some (.inl v1)] [.inl r149] M2
                                      obtain ⟨⟨h153, h152⟩, h⟩ := gd_elim h
                                      refine a_run qL_md hz 5 [] (pc' := 556) (lv' := [some (.inr 998), some (.inr 0), some (.inr 71), some (.inl v1)]) (st' := [.inl (v1 + (1 : Int)), .inr 998, .inr 71, .inl r149]) (M' := M2) (P := (inR (v1 + (1 : Int))) ∧ True) rfl ⟨h153, trivial⟩ ?_
                                      refine a_sld hz hX h152 (d_at qL_md rfl) ?_
                                      show Aw z 557 [some (.inr 998), some (.inr 0), some (.inr 71), some (.inl v1)] [.inl (xs (v1 + (1 : Int)).toNat), .inr 71, .inl r149] M2
                                      obtain ⟨r150, M151, hr, h⟩ := cal2_elim h
                                      refine a_fV (as := [.inl (xs (v1 + (1 : Int)).toNat)]) (a := 71) (st := [.inl r149]) (mX5_total z.1 hr) qL_md qX5_total_ok hz lkL_76 rfl 1 1 (by decide +kernel) rfl rfl rfl rfl ?_
                                      show Aw z 560 [some (.inr 998), some (.inr 0), some (.inr 71), some (.inl v1)] [.inl r150, .inl r149] M151
                                      refine ite_elim h (fun hc h => ?_) (fun hc h => ?_)
                                      · refine a_run qL_md hz 1 [1] (pc' := 634) (lv' := [some (.inr 998), some (.inr 0), some (.inr 71), some (.inl v1)]) (st' := []) (M' := M151) (P := (r149 = r150) ∧ True) rfl ⟨hc, trivial⟩ ?_
                                        refine a_mask [true, true, true, true] ?_
                                        exact hK5 v1 M151 h
                                      · refine a_run qL_md hz 1 [0] (pc' := 563) (lv' := [some (.inr 998), some (.inr 0), some (.inr 71), some (.inl v1)]) (st' := []) (M' := M151) (P := (¬ (r149 = r150)) ∧ True) rfl ⟨hc, trivial⟩ ?_
                                        refine a_run qL_md hz 1 [] (pc' := 564) (lv' := [some (.inr 998), some (.inr 0), some (.inr 71), some (.inl v1)]) (st' := [.inl (0 : Int)]) (M' := M151) (P := True) rfl trivial ?_
                                        exact absurd h (show ¬ (0 : Int) = 1 by decide)
                                    · refine ite_elim h (fun hs15 h => ?_) (fun hs15 h => ?_)
                                      · refine a_run qL_md hz 3 [15] (pc' := 565) (lv' := [some (.inr 998), some (.inr 0), some (.inr 71), some (.inl v1)]) (st' := []) (M' := M2) (P := ((iandI (xs v1.toNat) (31 : Int)) = (0 : Int) + ((15 : Nat) : Int)) ∧ True) rfl ⟨hs15.trans (by decide), trivial⟩ ?_
                                        obtain ⟨⟨h163, h162⟩, h⟩ := gd_elim h
                                        refine a_run qL_md hz 5 [] (pc' := 570) (lv' := [some (.inr 998), some (.inr 0), some (.inr 71), some (.inl v1)]) (st' := [.inl (v1 + (1 : Int)), .inr 998, .inr 0]) (M' := M2) (P := (inR (v1 + (1 : Int))) ∧ True) rfl ⟨h163, trivial⟩ ?_
                                        refine a_sld hz hX h162 (d_at qL_md rfl) ?_
                                        show Aw z 571 [some (.inr 998), some (.inr 0), some (.inr 71), some (.inl v1)] [.inl (xs (v1 + (1 : Int)).toNat), .inr 0] M2
                                        obtain ⟨r156, M157, hr, h⟩ := cal2_elim h
                                        refine a_fV (as := [.inl (xs (v1 + (1 : Int)).toNat)]) (a := 0) (st := []) (mX4_image z.1 hr) qL_md qX4_image_ok hz lkL_77 rfl 1 0 (by decide +kernel) rfl rfl rfl rfl ?_
                                        show Aw z 574 [some (.inr 998), some (.inr 0), some (.inr 71), some (.inl v1)] [.inl r156] M157
                                        obtain ⟨⟨h161, h160⟩, h⟩ := gd_elim h
                                        refine a_run qL_md hz 5 [] (pc' := 579) (lv' := [some (.inr 998), some (.inr 0), some (.inr 71), some (.inl v1)]) (st' := [.inl (v1 + (1 : Int)), .inr 998, .inr 71, .inl r156]) (M' := M157) (P := (inR (v1 + (1 : Int))) ∧ True) rfl ⟨h161, trivial⟩ ?_
                                        refine a_sld hz hX h160 (d_at qL_md rfl) ?_
                                        show Aw z 580 [some (.inr 998), some (.inr 0), some (.inr 71), some (.inl v1)] [.inl (xs (v1 + (1 : Int)).toNat), .inr 71, .inl r156] M157
                                        obtain ⟨r158, M159, hr, h⟩ := cal2_elim h
                                        refine a_fV (as := [.inl (xs (v1 + (1 : Int)).toNat)]) (a := 71) (st := [.inl r156]) (mX5_image z.1 hr) qL_md qX5_image_ok hz lkL_80 rfl 1 1 (by decide +kernel) rfl rfl rfl rfl ?_
                                        show Aw z 583 [some (.inr 998), some (.inr 0), some (.inr 71), some (.inl v1)] [.inl r158, .inl r156] M159
                                        refine ite_elim h (fun hc h => ?_) (fun hc h => ?_)
                                        · refine a_run qL_md hz 1 [1] (pc' := 634) (lv' := [some (.inr 998), some (.inr 0), some (.inr 71), some (.inl v1)]) (st' := []) (M' := M159) (P := (r156 = r158) ∧ True) rfl ⟨hc, trivial⟩ ?_
                                          refine a_mask [true, true, true, true] ?_
                                          exact hK5 v1 M159 h
                                        · refine a_run qL_md hz 1 [0] (pc' := 586) (lv' := [some (.inr 998), some (.inr 0), some (.inr 71), some (.inl v1)]) (st' := []) (M' := M159) (P := (¬ (r156 = r158)) ∧ True) rfl ⟨hc, trivial⟩ ?_
                                          refine a_run qL_md hz 1 [] (pc' := 587) (lv' := [some (.inr 998), some (.inr 0), some (.inr 71), some (.inl v1)]) (st' := [.inl (0 : Int)]) (M' := M159) (P := True) rfl trivial ?_
                                          exact absurd h (show ¬ (0 : Int) = 1 by decide)
                                      · refine ite_elim h (fun hs16 h => ?_) (fun hs16 h => ?_)
                                        · refine a_run qL_md hz 3 [16] (pc' := 588) (lv' := [some (.inr 998), some (.inr 0), some (.inr 71), some (.inl v1)]) (st' := []) (M' := M2) (P := ((iandI (xs v1.toNat) (31 : Int)) = (0 : Int) + ((16 : Nat) : Int)) ∧ True) rfl ⟨hs16.trans (by decide), trivial⟩ ?_
                                          obtain ⟨⟨h171, h170⟩, h⟩ := gd_elim h
                                          refine a_run qL_md hz 5 [] (pc' := 593) (lv' := [some (.inr 998), some (.inr 0), some (.inr 71), some (.inl v1)]) (st' := [.inl (v1 + (1 : Int)), .inr 998, .inr 0]) (M' := M2) (P := (inR (v1 + (1 : Int))) ∧ True) rfl ⟨h171, trivial⟩ ?_
                                          refine a_sld hz hX h170 (d_at qL_md rfl) ?_
                                          show Aw z 594 [some (.inr 998), some (.inr 0), some (.inr 71), some (.inl v1)] [.inl (xs (v1 + (1 : Int)).toNat), .inr 0] M2
                                          obtain ⟨r164, M165, hr, h⟩ := cal2_elim h
                                          refine a_fV (as := [.inl (xs (v1 + (1 : Int)).toNat)]) (a := 0) (st := []) (mX4_restore z.1 hr) qL_md qX4_restore_ok hz lkL_81 rfl 1 0 (by decide +kernel) rfl rfl rfl rfl ?_
                                          show Aw z 597 [some (.inr 998), some (.inr 0), some (.inr 71), some (.inl v1)] [.inl r164] M165
                                          obtain ⟨⟨h169, h168⟩, h⟩ := gd_elim h
                                          refine a_run qL_md hz 5 [] (pc' := 602) (lv' := [some (.inr 998), some (.inr 0), some (.inr 71), some (.inl v1)]) (st' := [.inl (v1 + (1 : Int)), .inr 998, .inr 71, .inl r164]) (M' := M165) (P := (inR (v1 + (1 : Int))) ∧ True) rfl ⟨h169, trivial⟩ ?_
                                          refine a_sld hz hX h168 (d_at qL_md rfl) ?_
                                          show Aw z 603 [some (.inr 998), some (.inr 0), some (.inr 71), some (.inl v1)] [.inl (xs (v1 + (1 : Int)).toNat), .inr 71, .inl r164] M165
                                          obtain ⟨r166, M167, hr, h⟩ := cal2_elim h
                                          refine a_fV (as := [.inl (xs (v1 + (1 : Int)).toNat)]) (a := 71) (st := [.inl r164]) (mX5_restore z.1 hr) qL_md qX5_restore_ok hz lkL_84 rfl 1 1 (by decide +kernel) rfl rfl rfl rfl ?_
                                          show Aw z 606 [some (.inr 998), some (.inr 0), some (.inr 71), some (.inl v1)] [.inl r166, .inl r164] M167
                                          refine ite_elim h (fun hc h => ?_) (fun hc h => ?_)
                                          · refine a_run qL_md hz 1 [1] (pc' := 634) (lv' := [some (.inr 998), some (.inr 0), some (.inr 71), some (.inl v1)]) (st' := []) (M' := M167) (P := (r164 = r166) ∧ True) rfl ⟨hc, trivial⟩ ?_
                                            refine a_mask [true, true, true, true] ?_
                                            exact hK5 v1 M167 h
                                          · refine a_run qL_md hz 1 [0] (pc' := 609) (lv' := [some (.inr 998), some (.inr 0), some (.inr 71), some (.inl v1)]) (st' := []) (M' := M167) (P := (¬ (r164 = r166)) ∧ True) rfl ⟨hc, trivial⟩ ?_
                                            refine a_run qL_md hz 1 [] (pc' := 610) (lv' := [some (.inr 998), some (.inr 0), some (.inr 71), some (.inl v1)]) (st' := [.inl (0 : Int)]) (M' := M167) (P := True) rfl trivial ?_
                                            exact absurd h (show ¬ (0 : Int) = 1 by decide)
                                        · refine ite_elim h (fun hs17 h => ?_) (fun hs17 h => ?_)
                                          · refine a_run qL_md hz 3 [17] (pc' := 611) (lv' := [some (.inr 998), some (.inr 0), some (.inr 71), some (.inl v1)]) (st' := []) (M' := M2) (P := ((iandI (xs v1.toNat) (31 : Int)) = (0 : Int) + ((17 : Nat) : Int)) ∧ True) rfl ⟨hs17.trans (by decide), trivial⟩ ?_
                                            obtain ⟨⟨h177, h176⟩, h⟩ := gd_elim h
                                            refine a_run qL_md hz 5 [] (pc' := 616) (lv' := [some (.inr 998), some (.inr 0), some (.inr 71), some (.inl v1)]) (st' := [.inl (v1 + (1 : Int)), .inr 998, .inr 0]) (M' := M2) (P := (inR (v1 + (1 : Int))) ∧ True) rfl ⟨h177, trivial⟩ ?_
                                            refine a_sld hz hX h176 (d_at qL_md rfl) ?_
                                            show Aw z 617 [some (.inr 998), some (.inr 0), some (.inr 71), some (.inl v1)] [.inl (xs (v1 + (1 : Int)).toNat), .inr 0] M2
                                            obtain ⟨r172, hr, h⟩ := cal_elim h
                                            refine a_fV (as := [.inl (xs (v1 + (1 : Int)).toNat)]) (a := 0) (st := []) (mX4_told z.1 hr) qL_md qX4_told_ok hz lkL_85 rfl 1 0 (by decide +kernel) rfl rfl rfl rfl ?_
                                            show Aw z 620 [some (.inr 998), some (.inr 0), some (.inr 71), some (.inl v1)] [.inl r172] M2
                                            obtain ⟨⟨h175, h174⟩, h⟩ := gd_elim h
                                            refine a_run qL_md hz 5 [] (pc' := 625) (lv' := [some (.inr 998), some (.inr 0), some (.inr 71), some (.inl v1)]) (st' := [.inl (v1 + (1 : Int)), .inr 998, .inr 71, .inl r172]) (M' := M2) (P := (inR (v1 + (1 : Int))) ∧ True) rfl ⟨h175, trivial⟩ ?_
                                            refine a_sld hz hX h174 (d_at qL_md rfl) ?_
                                            show Aw z 626 [some (.inr 998), some (.inr 0), some (.inr 71), some (.inl v1)] [.inl (xs (v1 + (1 : Int)).toNat), .inr 71, .inl r172] M2
                                            obtain ⟨r173, hr, h⟩ := cal_elim h
                                            refine a_fV (as := [.inl (xs (v1 + (1 : Int)).toNat)]) (a := 71) (st := [.inl r172]) (mX5_told z.1 hr) qL_md qX5_told_ok hz lkL_88 rfl 1 1 (by decide +kernel) rfl rfl rfl rfl ?_
                                            show Aw z 629 [some (.inr 998), some (.inr 0), some (.inr 71), some (.inl v1)] [.inl r173, .inl r172] M2
                                            refine ite_elim h (fun hc h => ?_) (fun hc h => ?_)
                                            · refine a_run qL_md hz 1 [1] (pc' := 634) (lv' := [some (.inr 998), some (.inr 0), some (.inr 71), some (.inl v1)]) (st' := []) (M' := M2) (P := (r172 = r173) ∧ True) rfl ⟨hc, trivial⟩ ?_
                                              refine a_mask [true, true, true, true] ?_
                                              exact hK5 v1 M2 h
                                            · refine a_run qL_md hz 1 [0] (pc' := 632) (lv' := [some (.inr 998), some (.inr 0), some (.inr 71), some (.inl v1)]) (st' := []) (M' := M2) (P := (¬ (r172 = r173)) ∧ True) rfl ⟨hc, trivial⟩ ?_
                                              refine a_run qL_md hz 1 [] (pc' := 633) (lv' := [some (.inr 998), some (.inr 0), some (.inr 71), some (.inl v1)]) (st' := [.inl (0 : Int)]) (M' := M2) (P := True) rfl trivial ?_
                                              exact absurd h (show ¬ (0 : Int) = 1 by decide)
                                          · refine a_run qL_md hz 3 [18] (pc' := 634) (lv' := [some (.inr 998), some (.inr 0), some (.inr 71), some (.inl v1)]) (st' := []) (M' := M2) (P := ((iandI (xs v1.toNat) (31 : Int)) < (0 : Int) ∨ (17 : Int) < (iandI (xs v1.toNat) (31 : Int))) ∧ True) rfl ⟨by omega, trivial⟩ ?_
                                            refine a_mask [true, true, true, true] ?_
                                            exact hK5 v1 M2 h
