def fX5_in (M : Mm) (x0 : Int) (x1 : Int) (x2 : Int) : Option (Int) := jn (some (0 : Int)) (fun (K1 : Option (Int)) => if x0 < x1 then K1 else if x2 < x0 then K1 else some (1 : Int))
set_option maxRecDepth 100000 in
theorem mX5_in (g : Gx) {M : Mm} {x0 : Int} {x1 : Int} {x2 : Int} {r : Int} (h : fX5_in M x0 x1 x2 = some r) : Ct g qX5_in [.inl x0, .inl x1, .inl x2] M (fun r' M' => r' = some r ∧ M' = M) := by
  refine c_ofP h qX5_in_ok (Nat.le_of_ble_eq_true rfl) (fun z hz Q hR h => ?_)
  unfold fX5_in at h
  show Aw z 0 [some (.inl x0), some (.inl x1), some (.inl x2)] [] M
  refine jn_elim h (fun (K1 : Option (Int)) => OK (K1) (fun r2 => Q (some r2) M) → Aw z 14 [none, none, none] [] M) (fun h => ?_) (fun K1 hK1 h => ?_)
  · refine a_run (md qX5_in_ok) hz 1 [] (pc' := 15) (lv' := [none, none, none]) (st' := [.inl (0 : Int)]) (M' := M) (P := True) rfl trivial ?_
    exact a_ri (md qX5_in_ok) hz hR rfl (Or.inr ⟨rfl, by decide⟩) h
  · refine ite_elim h (fun hc h => ?_) (fun hc h => ?_)
    · refine a_run (md qX5_in_ok) hz 3 [1] (pc' := 14) (lv' := [some (.inl x0), some (.inl x1), some (.inl x2)]) (st' := []) (M' := M) (P := (x0 < x1) ∧ True) rfl ⟨hc, trivial⟩ ?_
      refine a_mask [false, false, false] ?_
      exact hK1  h
    · refine a_run (md qX5_in_ok) hz 3 [0] (pc' := 5) (lv' := [some (.inl x0), some (.inl x1), some (.inl x2)]) (st' := []) (M' := M) (P := (¬ (x0 < x1)) ∧ True) rfl ⟨hc, trivial⟩ ?_
      refine ite_elim h (fun hc h => ?_) (fun hc h => ?_)
      · refine a_run (md qX5_in_ok) hz 3 [1] (pc' := 14) (lv' := [some (.inl x0), some (.inl x1), some (.inl x2)]) (st' := []) (M' := M) (P := (x2 < x0) ∧ True) rfl ⟨hc, trivial⟩ ?_
        refine a_mask [false, false, false] ?_
        exact hK1  h
      · refine a_run (md qX5_in_ok) hz 3 [0] (pc' := 10) (lv' := [some (.inl x0), some (.inl x1), some (.inl x2)]) (st' := []) (M' := M) (P := (¬ (x2 < x0)) ∧ True) rfl ⟨hc, trivial⟩ ?_
        refine a_run (md qX5_in_ok) hz 2 [] (pc' := 15) (lv' := [some (.inl x0), some (.inl x1), some (.inl x2)]) (st' := [.inl (1 : Int)]) (M' := M) (P := True) rfl trivial ?_
        exact a_ri (md qX5_in_ok) hz hR rfl (Or.inr ⟨rfl, by decide⟩) h
def fX5_off (M : Mm) (x0 : Int) (x1 : Int) : Option (Int) := if x1 ≤ x0 then gd ((inR (x0 - x1))) (some (x0 - x1)) else gd ((inR (x1 - x0))) (some (x1 - x0))
set_option maxRecDepth 100000 in
theorem mX5_off (g : Gx) {M : Mm} {x0 : Int} {x1 : Int} {r : Int} (h : fX5_off M x0 x1 = some r) : Ct g qX5_off [.inl x0, .inl x1] M (fun r' M' => r' = some r ∧ M' = M) := by
  refine c_ofP h qX5_off_ok (Nat.le_of_ble_eq_true rfl) (fun z hz Q hR h => ?_)
  unfold fX5_off at h
  show Aw z 0 [some (.inl x0), some (.inl x1)] [] M
  refine ite_elim h (fun hc h => ?_) (fun hc h => ?_)
  · refine a_run (md qX5_off_ok) hz 3 [1] (pc' := 11) (lv' := [some (.inl x0), some (.inl x1)]) (st' := []) (M' := M) (P := (x1 ≤ x0) ∧ True) rfl ⟨hc, trivial⟩ ?_
    obtain ⟨h1, h⟩ := gd_elim h
    refine a_run (md qX5_off_ok) hz 3 [] (pc' := 14) (lv' := [some (.inl x0), some (.inl x1)]) (st' := [.inl (x0 - x1)]) (M' := M) (P := (inR (x0 - x1)) ∧ True) rfl ⟨h1, trivial⟩ ?_
    exact a_ri (md qX5_off_ok) hz hR rfl (Or.inl rfl) h
  · refine a_run (md qX5_off_ok) hz 3 [0] (pc' := 5) (lv' := [some (.inl x0), some (.inl x1)]) (st' := []) (M' := M) (P := (¬ (x1 ≤ x0)) ∧ True) rfl ⟨hc, trivial⟩ ?_
    obtain ⟨h2, h⟩ := gd_elim h
    refine a_run (md qX5_off_ok) hz 4 [] (pc' := 14) (lv' := [some (.inl x0), some (.inl x1)]) (st' := [.inl (x1 - x0)]) (M' := M) (P := (inR (x1 - x0)) ∧ True) rfl ⟨h2, trivial⟩ ?_
    exact a_ri (md qX5_off_ok) hz hR rfl (Or.inl rfl) h
def fX5_apart (M : Mm) (x0 : Int) (x1 : Int) (x2 : Int) (x3 : Int) : Option (Int) := cal (fX5_off M x0 x2) (fun (r1 : Int) => cal (fX5_off M x1 x3) (fun (r2 : Int) => gd ((inR (r1 + r2))) (some (r1 + r2))))
set_option maxRecDepth 100000 in
theorem mX5_apart (g : Gx) {M : Mm} {x0 : Int} {x1 : Int} {x2 : Int} {x3 : Int} {r : Int} (h : fX5_apart M x0 x1 x2 x3 = some r) : Ct g qX5_apart [.inl x0, .inl x1, .inl x2, .inl x3] M (fun r' M' => r' = some r ∧ M' = M) := by
  refine c_ofP h qX5_apart_ok (Nat.le_of_ble_eq_true rfl) (fun z hz Q hR h => ?_)
  unfold fX5_apart at h
  show Aw z 0 [some (.inl x0), some (.inl x1), some (.inl x2), some (.inl x3)] [] M
  refine a_run (md qX5_apart_ok) hz 2 [] (pc' := 2) (lv' := [some (.inl x0), some (.inl x1), some (.inl x2), some (.inl x3)]) (st' := [.inl x2, .inl x0]) (M' := M) (P := True) rfl trivial ?_
  obtain ⟨r1, hr, h⟩ := cal_elim h
  refine a_fS (as := [.inl x0, .inl x2]) (st := []) (mX5_off z.1 hr) (md qX5_apart_ok) qX5_off_ok hz lkX5_68 rfl 2 0 (by decide +kernel) rfl rfl ?_
  show Aw z 5 [some (.inl x0), some (.inl x1), some (.inl x2), some (.inl x3)] [.inl r1] M
  refine a_run (md qX5_apart_ok) hz 2 [] (pc' := 7) (lv' := [some (.inl x0), some (.inl x1), some (.inl x2), some (.inl x3)]) (st' := [.inl x3, .inl x1, .inl r1]) (M' := M) (P := True) rfl trivial ?_
  obtain ⟨r2, hr, h⟩ := cal_elim h
  refine a_fS (as := [.inl x1, .inl x3]) (st := [.inl r1]) (mX5_off z.1 hr) (md qX5_apart_ok) qX5_off_ok hz lkX5_68 rfl 2 1 (by decide +kernel) rfl rfl ?_
  show Aw z 10 [some (.inl x0), some (.inl x1), some (.inl x2), some (.inl x3)] [.inl r2, .inl r1] M
  obtain ⟨h3, h⟩ := gd_elim h
  refine a_run (md qX5_apart_ok) hz 1 [] (pc' := 11) (lv' := [some (.inl x0), some (.inl x1), some (.inl x2), some (.inl x3)]) (st' := [.inl (r1 + r2)]) (M' := M) (P := (inR (r1 + r2)) ∧ True) rfl ⟨h3, trivial⟩ ?_
  exact a_ri (md qX5_apart_ok) hz hR rfl (Or.inl rfl) h
def fX5_isCrossing (M : Mm) (x1 : Int) : Option (Int) := gd ((inR ((M 71 2) - (1 : Int)))) (cal (fX5_in M x1 (0 : Int) ((M 71 2) - (1 : Int))) (fun (r1 : Int) => gd ((r1 = 0 ∨ r1 = 1)) (some r1)))
set_option maxRecDepth 100000 in
theorem mX5_isCrossing (g : Gx) {M : Mm} {x1 : Int} {r : Int} (h : fX5_isCrossing M x1 = some r) : Ct g qX5_isCrossing [.inr 71, .inl x1] M (fun r' M' => r' = some r ∧ M' = M) := by
  refine c_ofP h qX5_isCrossing_ok (Nat.le_of_ble_eq_true rfl) (fun z hz Q hR h => ?_)
  unfold fX5_isCrossing at h
  show Aw z 0 [some (.inr 71), some (.inl x1)] [] M
  obtain ⟨h3, h⟩ := gd_elim h
  refine a_run (md qX5_isCrossing_ok) hz 6 [] (pc' := 8) (lv' := [some (.inr 71), some (.inl x1)]) (st' := [.inl ((M 71 2) - (1 : Int)), .inl (0 : Int), .inl x1]) (M' := M) (P := (inR ((M 71 2) - (1 : Int))) ∧ True) rfl ⟨h3, trivial⟩ ?_
  obtain ⟨r1, hr, h⟩ := cal_elim h
  refine a_fS (as := [.inl x1, .inl (0 : Int), .inl ((M 71 2) - (1 : Int))]) (st := []) (mX5_in z.1 hr) (md qX5_isCrossing_ok) qX5_in_ok hz lkX5_76 rfl 3 0 (by decide +kernel) rfl rfl ?_
  show Aw z 11 [some (.inr 71), some (.inl x1)] [.inl r1] M
  obtain ⟨h2, h⟩ := gd_elim h
  exact a_ri (md qX5_isCrossing_ok) hz hR rfl (Or.inr ⟨rfl, h2⟩) h
def fX5_crossing_L35 (x1 : Int) (x2 : Int) (k72 : Mm → Option (Int × Mm)) : Nat → Int → Mm → Option (Int × Mm)
  | 0, _, _ => none
  | n + 1, v3, M4 => if (M4 71 2) ≤ v3 then k72 M4 else jn (fun (v12 : Int) (M13 : Mm) => gd ((inR (v12 + (1 : Int)))) (fX5_crossing_L35 x1 x2 k72 n (v12 + (1 : Int)) M13)) (fun (K14 : Int → Mm → Option (Int × Mm)) => gd ((0 ≤ v3 ∧ v3 < 12)) (if (M4 72 v3.toNat) = x1 then gd ((0 ≤ v3 ∧ v3 < 12)) (if (M4 73 v3.toNat) = x2 then some ((-5 : Int), M4) else K14 v3 M4) else K14 v3 M4))
def fX5_crossing (M : Mm) (x1 : Int) (x2 : Int) : Option (Int × Mm) := cal (fX5_in M x1 (0 : Int) (63 : Int)) (fun (r1 : Int) => if r1 = 0 then some ((-2 : Int), M) else cal (fX5_in M x2 (0 : Int) (63 : Int)) (fun (r2 : Int) => if r2 = 0 then some ((-2 : Int), M) else if (M 71 10) ≤ 0 then fX5_crossing_L35 x1 x2 (fun (M5 : Mm) => if (M5 71 2) = (12 : Int) then some ((-4 : Int), M5) else gd ((0 ≤ (M5 71 2) ∧ (M5 71 2) < 12)) (bnd (up M5 72 (M5 71 2).toNat x1) (fun (M6 : Mm) => gd ((0 ≤ (M6 71 2) ∧ (M6 71 2) < 12)) (bnd (up M6 73 (M6 71 2).toNat x2) (fun (M7 : Mm) => gd ((inR ((M7 71 2) + (1 : Int)))) (bnd (up M7 71 2 ((M7 71 2) + (1 : Int))) (fun (M8 : Mm) => some ((M8 71 2), M8)))))))) 1000 (0 : Int) M else some ((-3 : Int), M)))
set_option maxRecDepth 100000 in
theorem mX5_crossing_L35 {z : Zx} (hz : Cx qX5_crossing z) {Q : Option Int → Mm → Prop} (hR : Rt Q z) {x1 : Int} {x2 : Int} {k72 : Mm → Option (Int × Mm)} (hk72 : ∀ (M5 : Mm), OK (k72 M5) (fun r2 => Q (some r2.1) r2.2) → Aw z 72 [some (.inr 71), some (.inl x1), some (.inl x2), none] [] M5) : ∀ (n : Nat) (v3 : Int) (M4 : Mm), OK (fX5_crossing_L35 x1 x2 k72 n v3 M4) (fun r2 => Q (some r2.1) r2.2) → Aw z 35 [some (.inr 71), some (.inl x1), some (.inl x2), some (.inl v3)] [] M4 := by
  intro n
  induction n with
  | zero =>
    intro v3 M4 h
    exact (show False from h).elim
  | succ n ih =>
    intro v3 M4 h
    unfold fX5_crossing_L35 at h
    refine ite_elim h (fun hc h => ?_) (fun hc h => ?_)
    · refine a_run (md qX5_crossing_ok) hz 4 [1] (pc' := 72) (lv' := [some (.inr 71), some (.inl x1), some (.inl x2), some (.inl v3)]) (st' := []) (M' := M4) (P := ((M4 71 2) ≤ v3) ∧ True) rfl ⟨hc, trivial⟩ ?_
      refine a_mask [true, true, true, false] ?_
      exact hk72 M4 h
    · refine a_run (md qX5_crossing_ok) hz 4 [0] (pc' := 43) (lv' := [some (.inr 71), some (.inl x1), some (.inl x2), some (.inl v3)]) (st' := []) (M' := M4) (P := (¬ ((M4 71 2) ≤ v3)) ∧ True) rfl ⟨hc, trivial⟩ ?_
      refine jn_elim h (fun (K14 : Int → Mm → Option (Int × Mm)) => ∀ (v12 : Int), ∀ (M13 : Mm), OK (K14 v12 M13) (fun r2 => Q (some r2.1) r2.2) → Aw z 66 [some (.inr 71), some (.inl x1), some (.inl x2), some (.inl v12)] [] M13) (fun v12 M13 h => ?_) (fun K14 hK14 h => ?_)
      · obtain ⟨h15, h⟩ := gd_elim h
        refine a_run (md qX5_crossing_ok) hz 2 [] (pc' := 35) (lv' := [some (.inr 71), some (.inl x1), some (.inl x2), some (.inl (v12 + (1 : Int)))]) (st' := []) (M' := M13) (P := (inR (v12 + (1 : Int))) ∧ True) rfl ⟨h15, trivial⟩ ?_
        refine a_mask [true, true, true, true] ?_
        exact ih (v12 + (1 : Int)) M13 h
      · obtain ⟨h17, h⟩ := gd_elim h
        refine ite_elim h (fun hc h => ?_) (fun hc h => ?_)
        · refine a_run (md qX5_crossing_ok) hz 6 [0] (pc' := 53) (lv' := [some (.inr 71), some (.inl x1), some (.inl x2), some (.inl v3)]) (st' := []) (M' := M4) (P := (0 ≤ v3 ∧ v3 < 12) ∧ (¬ ¬ (M4 72 v3.toNat) = x1) ∧ True) rfl ⟨h17, fun h9 => h9 hc, trivial⟩ ?_
          obtain ⟨h16, h⟩ := gd_elim h
          refine ite_elim h (fun hc h => ?_) (fun hc h => ?_)
          · refine a_run (md qX5_crossing_ok) hz 6 [0] (pc' := 63) (lv' := [some (.inr 71), some (.inl x1), some (.inl x2), some (.inl v3)]) (st' := []) (M' := M4) (P := (0 ≤ v3 ∧ v3 < 12) ∧ (¬ ¬ (M4 73 v3.toNat) = x2) ∧ True) rfl ⟨h16, fun h9 => h9 hc, trivial⟩ ?_
            refine a_run (md qX5_crossing_ok) hz 1 [] (pc' := 65) (lv' := [some (.inr 71), some (.inl x1), some (.inl x2), some (.inl v3)]) (st' := [.inl (-5 : Int)]) (M' := M4) (P := True) rfl trivial ?_
            exact a_ri (md qX5_crossing_ok) hz hR rfl (Or.inl rfl) h
          · refine a_run (md qX5_crossing_ok) hz 6 [1] (pc' := 66) (lv' := [some (.inr 71), some (.inl x1), some (.inl x2), some (.inl v3)]) (st' := []) (M' := M4) (P := (0 ≤ v3 ∧ v3 < 12) ∧ (¬ (M4 73 v3.toNat) = x2) ∧ True) rfl ⟨h16, hc, trivial⟩ ?_
            refine a_mask [true, true, true, true] ?_
            exact hK14 v3 M4 h
        · refine a_run (md qX5_crossing_ok) hz 6 [1] (pc' := 66) (lv' := [some (.inr 71), some (.inl x1), some (.inl x2), some (.inl v3)]) (st' := []) (M' := M4) (P := (0 ≤ v3 ∧ v3 < 12) ∧ (¬ (M4 72 v3.toNat) = x1) ∧ True) rfl ⟨h17, hc, trivial⟩ ?_
          refine a_mask [true, true, true, true] ?_
          exact hK14 v3 M4 h
set_option maxRecDepth 100000 in
theorem mX5_crossing (g : Gx) {M : Mm} {x1 : Int} {x2 : Int} {r : Int} {M2 : Mm} (h : fX5_crossing M x1 x2 = some (r, M2)) : Ct g qX5_crossing [.inr 71, .inl x1, .inl x2] M (fun r' M' => r' = some r ∧ M' = M2) := by
  refine c_ofI h qX5_crossing_ok (Nat.le_of_ble_eq_true rfl) (fun z hz Q hR h => ?_)
  unfold fX5_crossing at h
  show Aw z 0 [some (.inr 71), some (.inl x1), some (.inl x2), none] [] M
  refine a_run (md qX5_crossing_ok) hz 3 [] (pc' := 4) (lv' := [some (.inr 71), some (.inl x1), some (.inl x2), none]) (st' := [.inl (63 : Int), .inl (0 : Int), .inl x1]) (M' := M) (P := True) rfl trivial ?_
  obtain ⟨r1, hr, h⟩ := cal_elim h
  refine a_fS (as := [.inl x1, .inl (0 : Int), .inl (63 : Int)]) (st := []) (mX5_in z.1 hr) (md qX5_crossing_ok) qX5_in_ok hz lkX5_76 rfl 3 0 (by decide +kernel) rfl rfl ?_
  show Aw z 7 [some (.inr 71), some (.inl x1), some (.inl x2), none] [.inl r1] M
  refine ite_elim h (fun hc h => ?_) (fun hc h => ?_)
  · refine a_run (md qX5_crossing_ok) hz 1 [1] (pc' := 20) (lv' := [some (.inr 71), some (.inl x1), some (.inl x2), none]) (st' := []) (M' := M) (P := (r1 = 0) ∧ True) rfl ⟨hc, trivial⟩ ?_
    refine a_run (md qX5_crossing_ok) hz 1 [] (pc' := 22) (lv' := [some (.inr 71), some (.inl x1), some (.inl x2), none]) (st' := [.inl (-2 : Int)]) (M' := M) (P := True) rfl trivial ?_
    exact a_ri (md qX5_crossing_ok) hz hR rfl (Or.inl rfl) h
  · refine a_run (md qX5_crossing_ok) hz 1 [0] (pc' := 10) (lv' := [some (.inr 71), some (.inl x1), some (.inl x2), none]) (st' := []) (M' := M) (P := (¬ (r1 = 0)) ∧ True) rfl ⟨hc, trivial⟩ ?_
    refine a_run (md qX5_crossing_ok) hz 3 [] (pc' := 14) (lv' := [some (.inr 71), some (.inl x1), some (.inl x2), none]) (st' := [.inl (63 : Int), .inl (0 : Int), .inl x2]) (M' := M) (P := True) rfl trivial ?_
    obtain ⟨r2, hr, h⟩ := cal_elim h
    refine a_fS (as := [.inl x2, .inl (0 : Int), .inl (63 : Int)]) (st := []) (mX5_in z.1 hr) (md qX5_crossing_ok) qX5_in_ok hz lkX5_76 rfl 3 0 (by decide +kernel) rfl rfl ?_
    show Aw z 17 [some (.inr 71), some (.inl x1), some (.inl x2), none] [.inl r2] M
    refine ite_elim h (fun hc h => ?_) (fun hc h => ?_)
    · refine a_run (md qX5_crossing_ok) hz 1 [0] (pc' := 20) (lv' := [some (.inr 71), some (.inl x1), some (.inl x2), none]) (st' := []) (M' := M) (P := (¬ ¬ r2 = 0) ∧ True) rfl ⟨fun h9 => h9 hc, trivial⟩ ?_
      refine a_run (md qX5_crossing_ok) hz 1 [] (pc' := 22) (lv' := [some (.inr 71), some (.inl x1), some (.inl x2), none]) (st' := [.inl (-2 : Int)]) (M' := M) (P := True) rfl trivial ?_
      exact a_ri (md qX5_crossing_ok) hz hR rfl (Or.inl rfl) h
    · refine a_run (md qX5_crossing_ok) hz 1 [1] (pc' := 23) (lv' := [some (.inr 71), some (.inl x1), some (.inl x2), none]) (st' := []) (M' := M) (P := (¬ r2 = 0) ∧ True) rfl ⟨hc, trivial⟩ ?_
      refine ite_elim h (fun hc h => ?_) (fun hc h => ?_)
      · refine a_run (md qX5_crossing_ok) hz 3 [1] (pc' := 33) (lv' := [some (.inr 71), some (.inl x1), some (.inl x2), none]) (st' := []) (M' := M) (P := ((M 71 10) ≤ 0) ∧ True) rfl ⟨hc, trivial⟩ ?_
        refine a_run (md qX5_crossing_ok) hz 2 [] (pc' := 35) (lv' := [some (.inr 71), some (.inl x1), some (.inl x2), some (.inl (0 : Int))]) (st' := []) (M' := M) (P := True) rfl trivial ?_
        refine a_mask [true, true, true, true] ?_
        refine mX5_crossing_L35 hz hR (fun M5 h => ?_) 1000 (0 : Int) M h
        · refine ite_elim h (fun hc h => ?_) (fun hc h => ?_)
          · refine a_run (md qX5_crossing_ok) hz 4 [0] (pc' := 81) (lv' := [some (.inr 71), some (.inl x1), some (.inl x2), none]) (st' := []) (M' := M5) (P := (¬ ¬ (M5 71 2) = (12 : Int)) ∧ True) rfl ⟨fun h9 => h9 hc, trivial⟩ ?_
            refine a_run (md qX5_crossing_ok) hz 1 [] (pc' := 83) (lv' := [some (.inr 71), some (.inl x1), some (.inl x2), none]) (st' := [.inl (-4 : Int)]) (M' := M5) (P := True) rfl trivial ?_
            exact a_ri (md qX5_crossing_ok) hz hR rfl (Or.inl rfl) h
          · refine a_run (md qX5_crossing_ok) hz 4 [1] (pc' := 84) (lv' := [some (.inr 71), some (.inl x1), some (.inl x2), none]) (st' := []) (M' := M5) (P := (¬ (M5 71 2) = (12 : Int)) ∧ True) rfl ⟨hc, trivial⟩ ?_
            obtain ⟨h11, h⟩ := gd_elim h
            refine a_run (md qX5_crossing_ok) hz 6 [] (pc' := 94) (lv' := [some (.inr 71), some (.inl x1), some (.inl x2), none]) (st' := []) (M' := (up M5 72 (M5 71 2).toNat x1)) (P := (0 ≤ (M5 71 2) ∧ (M5 71 2) < 12) ∧ True) rfl ⟨h11, trivial⟩ ?_
            refine bnd_elim (G := fun (M6 : Mm) => Aw z 94 [some (.inr 71), some (.inl x1), some (.inl x2), none] [] M6) h (fun M6 h => ?_)
            obtain ⟨h10, h⟩ := gd_elim h
            refine a_run (md qX5_crossing_ok) hz 6 [] (pc' := 104) (lv' := [some (.inr 71), some (.inl x1), some (.inl x2), none]) (st' := []) (M' := (up M6 73 (M6 71 2).toNat x2)) (P := (0 ≤ (M6 71 2) ∧ (M6 71 2) < 12) ∧ True) rfl ⟨h10, trivial⟩ ?_
            refine bnd_elim (G := fun (M7 : Mm) => Aw z 104 [some (.inr 71), some (.inl x1), some (.inl x2), none] [] M7) h (fun M7 h => ?_)
            obtain ⟨h9, h⟩ := gd_elim h
            refine a_run (md qX5_crossing_ok) hz 6 [] (pc' := 114) (lv' := [some (.inr 71), some (.inl x1), some (.inl x2), none]) (st' := []) (M' := (up M7 71 2 ((M7 71 2) + (1 : Int)))) (P := (inR ((M7 71 2) + (1 : Int))) ∧ True) rfl ⟨h9, trivial⟩ ?_
            refine bnd_elim (G := fun (M8 : Mm) => Aw z 114 [some (.inr 71), some (.inl x1), some (.inl x2), none] [] M8) h (fun M8 h => ?_)
            refine a_run (md qX5_crossing_ok) hz 2 [] (pc' := 118) (lv' := [some (.inr 71), some (.inl x1), some (.inl x2), none]) (st' := [.inl (M8 71 2)]) (M' := M8) (P := True) rfl trivial ?_
            exact a_ri (md qX5_crossing_ok) hz hR rfl (Or.inl rfl) h
      · refine a_run (md qX5_crossing_ok) hz 3 [0] (pc' := 30) (lv' := [some (.inr 71), some (.inl x1), some (.inl x2), none]) (st' := []) (M' := M) (P := (¬ ((M 71 10) ≤ 0)) ∧ True) rfl ⟨hc, trivial⟩ ?_
        refine a_run (md qX5_crossing_ok) hz 1 [] (pc' := 32) (lv' := [some (.inr 71), some (.inl x1), some (.inl x2), none]) (st' := [.inl (-3 : Int)]) (M' := M) (P := True) rfl trivial ?_
        exact a_ri (md qX5_crossing_ok) hz hR rfl (Or.inl rfl) h
def fX5_road_L85 (x1 : Int) (x2 : Int) (x3 : Int) (k156 : Int → Mm → Option (Int × Mm)) : Nat → Int → Int → Mm → Option (Int × Mm)
  | 0, _, _, _ => none
  | n + 1, v7, v8, M9 => if (M9 71 6) ≤ v8 then k156 v7 M9 else jn (fun (v20 : Int) (w21 : Int) (M22 : Mm) => gd ((inR (v20 + (1 : Int)))) (fX5_road_L85 x1 x2 x3 k156 n w21 (v20 + (1 : Int)) M22)) (fun (K23 : Int → Int → Mm → Option (Int × Mm)) => jn (fun (v25 : Int) (M26 : Mm) => K23 v25 (0 : Int) M26) (fun (K27 : Int → Mm → Option (Int × Mm)) => if v7 = 0 then K27 v8 M9 else jn (fun (v28 : Int) (M29 : Mm) => jn (fun (v31 : Int) (M32 : Mm) => K23 v31 (1 : Int) M32) (fun (K33 : Int → Mm → Option (Int × Mm)) => gd ((0 ≤ v28 ∧ v28 < 20)) (if (M29 74 v28.toNat) = x2 then gd ((0 ≤ v28 ∧ v28 < 20)) (if (M29 75 v28.toNat) = x1 then K27 v28 M29 else K33 v28 M29) else K33 v28 M29))) (fun (K30 : Int → Mm → Option (Int × Mm)) => gd ((0 ≤ v8 ∧ v8 < 20)) (if (M9 74 v8.toNat) = x1 then gd ((0 ≤ v8 ∧ v8 < 20)) (if (M9 75 v8.toNat) = x2 then K27 v8 M9 else K30 v8 M9) else K30 v8 M9))))
def fX5_road (M : Mm) (x1 : Int) (x2 : Int) (x3 : Int) : Option (Int × Mm) := cal (fX5_isCrossing M x1) (fun (r1 : Int) => if r1 = 0 then some ((-1 : Int), M) else cal (fX5_isCrossing M x2) (fun (r2 : Int) => if r2 = 0 then some ((-1 : Int), M) else cal (fX5_in M x3 (0 : Int) (1 : Int)) (fun (r3 : Int) => if r3 = 0 then some ((-2 : Int), M) else if (M 71 10) ≤ 0 then jn (fun (w4 : Int) (M5 : Mm) => fX5_road_L85 x1 x2 x3 (fun (v10 : Int) (M11 : Mm) => if v10 = 0 then some ((-5 : Int), M11) else if (M11 71 6) = (20 : Int) then some ((-4 : Int), M11) else gd ((0 ≤ (M11 71 6) ∧ (M11 71 6) < 20)) (bnd (up M11 74 (M11 71 6).toNat x1) (fun (M12 : Mm) => gd ((0 ≤ (M12 71 6) ∧ (M12 71 6) < 20)) (bnd (up M12 75 (M12 71 6).toNat x2) (fun (M13 : Mm) => gd ((0 ≤ (M13 71 6) ∧ (M13 71 6) < 20)) (bnd (up M13 76 (M13 71 6).toNat x3) (fun (M14 : Mm) => gd ((inR ((M14 71 6) + (1 : Int)))) (bnd (up M14 71 6 ((M14 71 6) + (1 : Int))) (fun (M15 : Mm) => some ((M15 71 6), M15)))))))))) 1000 w4 (0 : Int) M5) (fun (K6 : Int → Mm → Option (Int × Mm)) => jn (fun (M38 : Mm) => K6 (0 : Int) M38) (fun (K39 : Mm → Option (Int × Mm)) => if x1 = x2 then K39 M else jn (fun (M40 : Mm) => K6 (1 : Int) M40) (fun (K41 : Mm → Option (Int × Mm)) => gd ((0 ≤ x1 ∧ x1 < 12) ∧ (0 ≤ x2 ∧ x2 < 12)) (if (M 72 x1.toNat) = (M 72 x2.toNat) then K41 M else gd ((0 ≤ x1 ∧ x1 < 12) ∧ (0 ≤ x2 ∧ x2 < 12)) (if (M 73 x1.toNat) = (M 73 x2.toNat) then K41 M else K39 M))))) else some ((-3 : Int), M))))
set_option maxRecDepth 100000 in
theorem mX5_road_L85 {z : Zx} (hz : Cx qX5_road z) {Q : Option Int → Mm → Prop} (hR : Rt Q z) {x1 : Int} {x2 : Int} {x3 : Int} {k156 : Int → Mm → Option (Int × Mm)} (hk156 : ∀ (v10 : Int), ∀ (M11 : Mm), OK (k156 v10 M11) (fun r2 => Q (some r2.1) r2.2) → Aw z 156 [some (.inr 71), some (.inl x1), some (.inl x2), some (.inl x3), some (.inl v10), none] [] M11) : ∀ (n : Nat) (v7 : Int) (v8 : Int) (M9 : Mm), OK (fX5_road_L85 x1 x2 x3 k156 n v7 v8 M9) (fun r2 => Q (some r2.1) r2.2) → Aw z 85 [some (.inr 71), some (.inl x1), some (.inl x2), some (.inl x3), some (.inl v7), some (.inl v8)] [] M9 := by
  intro n
  induction n with
  | zero =>
    intro v7 v8 M9 h
    exact (show False from h).elim
  | succ n ih =>
    intro v7 v8 M9 h
    unfold fX5_road_L85 at h
    refine ite_elim h (fun hc h => ?_) (fun hc h => ?_)
    · refine a_run (md qX5_road_ok) hz 4 [1] (pc' := 156) (lv' := [some (.inr 71), some (.inl x1), some (.inl x2), some (.inl x3), some (.inl v7), some (.inl v8)]) (st' := []) (M' := M9) (P := ((M9 71 6) ≤ v8) ∧ True) rfl ⟨hc, trivial⟩ ?_
      refine a_mask [true, true, true, true, true, false] ?_
      exact hk156 v7 M9 h
    · refine a_run (md qX5_road_ok) hz 4 [0] (pc' := 94) (lv' := [some (.inr 71), some (.inl x1), some (.inl x2), some (.inl x3), some (.inl v7), some (.inl v8)]) (st' := []) (M' := M9) (P := (¬ ((M9 71 6) ≤ v8)) ∧ True) rfl ⟨hc, trivial⟩ ?_
      refine jn_elim h (fun (K23 : Int → Int → Mm → Option (Int × Mm)) => ∀ (v20 : Int), ∀ (w21 : Int), ∀ (M22 : Mm), OK (K23 v20 w21 M22) (fun r2 => Q (some r2.1) r2.2) → Aw z 148 [some (.inr 71), some (.inl x1), some (.inl x2), some (.inl x3), none, some (.inl v20)] [.inl w21] M22) (fun v20 w21 M22 h => ?_) (fun K23 hK23 h => ?_)
      · obtain ⟨h24, h⟩ := gd_elim h
        refine a_run (md qX5_road_ok) hz 3 [] (pc' := 85) (lv' := [some (.inr 71), some (.inl x1), some (.inl x2), some (.inl x3), some (.inl w21), some (.inl (v20 + (1 : Int)))]) (st' := []) (M' := M22) (P := (inR (v20 + (1 : Int))) ∧ True) rfl ⟨h24, trivial⟩ ?_
        refine a_mask [true, true, true, true, true, true] ?_
        exact ih w21 (v20 + (1 : Int)) M22 h
      · refine jn_elim h (fun (K27 : Int → Mm → Option (Int × Mm)) => ∀ (v25 : Int), ∀ (M26 : Mm), OK (K27 v25 M26) (fun r2 => Q (some r2.1) r2.2) → Aw z 147 [some (.inr 71), some (.inl x1), some (.inl x2), some (.inl x3), none, some (.inl v25)] [] M26) (fun v25 M26 h => ?_) (fun K27 hK27 h => ?_)
        · refine a_run (md qX5_road_ok) hz 1 [] (pc' := 148) (lv' := [some (.inr 71), some (.inl x1), some (.inl x2), some (.inl x3), none, some (.inl v25)]) (st' := [.inl (0 : Int)]) (M' := M26) (P := True) rfl trivial ?_
          refine a_mask [true, true, true, true, false, true] ?_
          exact hK23 v25 (0 : Int) M26 h
        · refine ite_elim h (fun hc h => ?_) (fun hc h => ?_)
          · refine a_run (md qX5_road_ok) hz 2 [1] (pc' := 147) (lv' := [some (.inr 71), some (.inl x1), some (.inl x2), some (.inl x3), some (.inl v7), some (.inl v8)]) (st' := []) (M' := M9) (P := (v7 = 0) ∧ True) rfl ⟨hc, trivial⟩ ?_
            refine a_mask [true, true, true, true, false, true] ?_
            exact hK27 v8 M9 h
          · refine a_run (md qX5_road_ok) hz 2 [0] (pc' := 99) (lv' := [some (.inr 71), some (.inl x1), some (.inl x2), some (.inl x3), some (.inl v7), some (.inl v8)]) (st' := []) (M' := M9) (P := (¬ (v7 = 0)) ∧ True) rfl ⟨hc, trivial⟩ ?_
            refine jn_elim h (fun (K30 : Int → Mm → Option (Int × Mm)) => ∀ (v28 : Int), ∀ (M29 : Mm), OK (K30 v28 M29) (fun r2 => Q (some r2.1) r2.2) → Aw z 121 [some (.inr 71), some (.inl x1), some (.inl x2), some (.inl x3), none, some (.inl v28)] [] M29) (fun v28 M29 h => ?_) (fun K30 hK30 h => ?_)
            · refine jn_elim h (fun (K33 : Int → Mm → Option (Int × Mm)) => ∀ (v31 : Int), ∀ (M32 : Mm), OK (K33 v31 M32) (fun r2 => Q (some r2.1) r2.2) → Aw z 143 [some (.inr 71), some (.inl x1), some (.inl x2), some (.inl x3), none, some (.inl v31)] [] M32) (fun v31 M32 h => ?_) (fun K33 hK33 h => ?_)
              · refine a_run (md qX5_road_ok) hz 2 [] (pc' := 148) (lv' := [some (.inr 71), some (.inl x1), some (.inl x2), some (.inl x3), none, some (.inl v31)]) (st' := [.inl (1 : Int)]) (M' := M32) (P := True) rfl trivial ?_
                refine a_mask [true, true, true, true, false, true] ?_
                exact hK23 v31 (1 : Int) M32 h
              · obtain ⟨h35, h⟩ := gd_elim h
                refine ite_elim h (fun hc h => ?_) (fun hc h => ?_)
                · refine a_run (md qX5_road_ok) hz 6 [0] (pc' := 132) (lv' := [some (.inr 71), some (.inl x1), some (.inl x2), some (.inl x3), none, some (.inl v28)]) (st' := []) (M' := M29) (P := (0 ≤ v28 ∧ v28 < 20) ∧ (¬ ¬ (M29 74 v28.toNat) = x2) ∧ True) rfl ⟨h35, fun h9 => h9 hc, trivial⟩ ?_
                  obtain ⟨h34, h⟩ := gd_elim h
                  refine ite_elim h (fun hc h => ?_) (fun hc h => ?_)
                  · refine a_run (md qX5_road_ok) hz 6 [1] (pc' := 147) (lv' := [some (.inr 71), some (.inl x1), some (.inl x2), some (.inl x3), none, some (.inl v28)]) (st' := []) (M' := M29) (P := (0 ≤ v28 ∧ v28 < 20) ∧ ((M29 75 v28.toNat) = x1) ∧ True) rfl ⟨h34, hc, trivial⟩ ?_
                    refine a_mask [true, true, true, true, false, true] ?_
                    exact hK27 v28 M29 h
                  · refine a_run (md qX5_road_ok) hz 6 [0] (pc' := 143) (lv' := [some (.inr 71), some (.inl x1), some (.inl x2), some (.inl x3), none, some (.inl v28)]) (st' := []) (M' := M29) (P := (0 ≤ v28 ∧ v28 < 20) ∧ (¬ ((M29 75 v28.toNat) = x1)) ∧ True) rfl ⟨h34, hc, trivial⟩ ?_
                    refine a_mask [true, true, true, true, false, true] ?_
                    exact hK33 v28 M29 h
                · refine a_run (md qX5_road_ok) hz 6 [1] (pc' := 143) (lv' := [some (.inr 71), some (.inl x1), some (.inl x2), some (.inl x3), none, some (.inl v28)]) (st' := []) (M' := M29) (P := (0 ≤ v28 ∧ v28 < 20) ∧ (¬ (M29 74 v28.toNat) = x2) ∧ True) rfl ⟨h35, hc, trivial⟩ ?_
                  refine a_mask [true, true, true, true, false, true] ?_
                  exact hK33 v28 M29 h
            · obtain ⟨h37, h⟩ := gd_elim h
              refine ite_elim h (fun hc h => ?_) (fun hc h => ?_)
              · refine a_run (md qX5_road_ok) hz 6 [0] (pc' := 110) (lv' := [some (.inr 71), some (.inl x1), some (.inl x2), some (.inl x3), some (.inl v7), some (.inl v8)]) (st' := []) (M' := M9) (P := (0 ≤ v8 ∧ v8 < 20) ∧ (¬ ¬ (M9 74 v8.toNat) = x1) ∧ True) rfl ⟨h37, fun h9 => h9 hc, trivial⟩ ?_
                obtain ⟨h36, h⟩ := gd_elim h
                refine ite_elim h (fun hc h => ?_) (fun hc h => ?_)
                · refine a_run (md qX5_road_ok) hz 6 [1] (pc' := 147) (lv' := [some (.inr 71), some (.inl x1), some (.inl x2), some (.inl x3), some (.inl v7), some (.inl v8)]) (st' := []) (M' := M9) (P := (0 ≤ v8 ∧ v8 < 20) ∧ ((M9 75 v8.toNat) = x2) ∧ True) rfl ⟨h36, hc, trivial⟩ ?_
                  refine a_mask [true, true, true, true, false, true] ?_
                  exact hK27 v8 M9 h
                · refine a_run (md qX5_road_ok) hz 6 [0] (pc' := 121) (lv' := [some (.inr 71), some (.inl x1), some (.inl x2), some (.inl x3), some (.inl v7), some (.inl v8)]) (st' := []) (M' := M9) (P := (0 ≤ v8 ∧ v8 < 20) ∧ (¬ ((M9 75 v8.toNat) = x2)) ∧ True) rfl ⟨h36, hc, trivial⟩ ?_
                  refine a_mask [true, true, true, true, false, true] ?_
                  exact hK30 v8 M9 h
              · refine a_run (md qX5_road_ok) hz 6 [1] (pc' := 121) (lv' := [some (.inr 71), some (.inl x1), some (.inl x2), some (.inl x3), some (.inl v7), some (.inl v8)]) (st' := []) (M' := M9) (P := (0 ≤ v8 ∧ v8 < 20) ∧ (¬ (M9 74 v8.toNat) = x1) ∧ True) rfl ⟨h37, hc, trivial⟩ ?_
                refine a_mask [true, true, true, true, false, true] ?_
                exact hK30 v8 M9 h
set_option maxRecDepth 100000 in
theorem mX5_road (g : Gx) {M : Mm} {x1 : Int} {x2 : Int} {x3 : Int} {r : Int} {M2 : Mm} (h : fX5_road M x1 x2 x3 = some (r, M2)) : Ct g qX5_road [.inr 71, .inl x1, .inl x2, .inl x3] M (fun r' M' => r' = some r ∧ M' = M2) := by
  refine c_ofI h qX5_road_ok (Nat.le_of_ble_eq_true rfl) (fun z hz Q hR h => ?_)
  unfold fX5_road at h
  show Aw z 0 [some (.inr 71), some (.inl x1), some (.inl x2), some (.inl x3), none, none] [] M
  refine a_run (md qX5_road_ok) hz 2 [] (pc' := 2) (lv' := [some (.inr 71), some (.inl x1), some (.inl x2), some (.inl x3), none, none]) (st' := [.inl x1, .inr 71]) (M' := M) (P := True) rfl trivial ?_
  obtain ⟨r1, hr, h⟩ := cal_elim h
  refine a_fV (as := [.inl x1]) (a := 71) (st := []) (mX5_isCrossing z.1 hr) (md qX5_road_ok) qX5_isCrossing_ok hz lkX5_83 rfl 1 0 (by decide +kernel) rfl rfl rfl rfl ?_
  show Aw z 5 [some (.inr 71), some (.inl x1), some (.inl x2), some (.inl x3), none, none] [.inl r1] M
  refine ite_elim h (fun hc h => ?_) (fun hc h => ?_)
  · refine a_run (md qX5_road_ok) hz 1 [1] (pc' := 16) (lv' := [some (.inr 71), some (.inl x1), some (.inl x2), some (.inl x3), none, none]) (st' := []) (M' := M) (P := (r1 = 0) ∧ True) rfl ⟨hc, trivial⟩ ?_
    refine a_run (md qX5_road_ok) hz 1 [] (pc' := 17) (lv' := [some (.inr 71), some (.inl x1), some (.inl x2), some (.inl x3), none, none]) (st' := [.inl (-1 : Int)]) (M' := M) (P := True) rfl trivial ?_
    exact a_ri (md qX5_road_ok) hz hR rfl (Or.inl rfl) h
  · refine a_run (md qX5_road_ok) hz 1 [0] (pc' := 8) (lv' := [some (.inr 71), some (.inl x1), some (.inl x2), some (.inl x3), none, none]) (st' := []) (M' := M) (P := (¬ (r1 = 0)) ∧ True) rfl ⟨hc, trivial⟩ ?_
    refine a_run (md qX5_road_ok) hz 2 [] (pc' := 10) (lv' := [some (.inr 71), some (.inl x1), some (.inl x2), some (.inl x3), none, none]) (st' := [.inl x2, .inr 71]) (M' := M) (P := True) rfl trivial ?_
    obtain ⟨r2, hr, h⟩ := cal_elim h
    refine a_fV (as := [.inl x2]) (a := 71) (st := []) (mX5_isCrossing z.1 hr) (md qX5_road_ok) qX5_isCrossing_ok hz lkX5_83 rfl 1 0 (by decide +kernel) rfl rfl rfl rfl ?_
    show Aw z 13 [some (.inr 71), some (.inl x1), some (.inl x2), some (.inl x3), none, none] [.inl r2] M
    refine ite_elim h (fun hc h => ?_) (fun hc h => ?_)
    · refine a_run (md qX5_road_ok) hz 1 [0] (pc' := 16) (lv' := [some (.inr 71), some (.inl x1), some (.inl x2), some (.inl x3), none, none]) (st' := []) (M' := M) (P := (¬ ¬ r2 = 0) ∧ True) rfl ⟨fun h9 => h9 hc, trivial⟩ ?_
      refine a_run (md qX5_road_ok) hz 1 [] (pc' := 17) (lv' := [some (.inr 71), some (.inl x1), some (.inl x2), some (.inl x3), none, none]) (st' := [.inl (-1 : Int)]) (M' := M) (P := True) rfl trivial ?_
      exact a_ri (md qX5_road_ok) hz hR rfl (Or.inl rfl) h
    · refine a_run (md qX5_road_ok) hz 1 [1] (pc' := 18) (lv' := [some (.inr 71), some (.inl x1), some (.inl x2), some (.inl x3), none, none]) (st' := []) (M' := M) (P := (¬ r2 = 0) ∧ True) rfl ⟨hc, trivial⟩ ?_
      refine a_run (md qX5_road_ok) hz 3 [] (pc' := 21) (lv' := [some (.inr 71), some (.inl x1), some (.inl x2), some (.inl x3), none, none]) (st' := [.inl (1 : Int), .inl (0 : Int), .inl x3]) (M' := M) (P := True) rfl trivial ?_
      obtain ⟨r3, hr, h⟩ := cal_elim h
      refine a_fS (as := [.inl x3, .inl (0 : Int), .inl (1 : Int)]) (st := []) (mX5_in z.1 hr) (md qX5_road_ok) qX5_in_ok hz lkX5_76 rfl 3 0 (by decide +kernel) rfl rfl ?_
      show Aw z 24 [some (.inr 71), some (.inl x1), some (.inl x2), some (.inl x3), none, none] [.inl r3] M
      refine ite_elim h (fun hc h => ?_) (fun hc h => ?_)
      · refine a_run (md qX5_road_ok) hz 1 [0] (pc' := 27) (lv' := [some (.inr 71), some (.inl x1), some (.inl x2), some (.inl x3), none, none]) (st' := []) (M' := M) (P := (¬ ¬ r3 = 0) ∧ True) rfl ⟨fun h9 => h9 hc, trivial⟩ ?_
        refine a_run (md qX5_road_ok) hz 1 [] (pc' := 29) (lv' := [some (.inr 71), some (.inl x1), some (.inl x2), some (.inl x3), none, none]) (st' := [.inl (-2 : Int)]) (M' := M) (P := True) rfl trivial ?_
        exact a_ri (md qX5_road_ok) hz hR rfl (Or.inl rfl) h
      · refine a_run (md qX5_road_ok) hz 1 [1] (pc' := 30) (lv' := [some (.inr 71), some (.inl x1), some (.inl x2), some (.inl x3), none, none]) (st' := []) (M' := M) (P := (¬ r3 = 0) ∧ True) rfl ⟨hc, trivial⟩ ?_
        refine ite_elim h (fun hc h => ?_) (fun hc h => ?_)
        · refine a_run (md qX5_road_ok) hz 3 [1] (pc' := 40) (lv' := [some (.inr 71), some (.inl x1), some (.inl x2), some (.inl x3), none, none]) (st' := []) (M' := M) (P := ((M 71 10) ≤ 0) ∧ True) rfl ⟨hc, trivial⟩ ?_
          refine jn_elim h (fun (K6 : Int → Mm → Option (Int × Mm)) => ∀ (w4 : Int), ∀ (M5 : Mm), OK (K6 w4 M5) (fun r2 => Q (some r2.1) r2.2) → Aw z 80 [some (.inr 71), some (.inl x1), some (.inl x2), some (.inl x3), none, none] [.inl w4] M5) (fun w4 M5 h => ?_) (fun K6 hK6 h => ?_)
          · refine a_run (md qX5_road_ok) hz 3 [] (pc' := 85) (lv' := [some (.inr 71), some (.inl x1), some (.inl x2), some (.inl x3), some (.inl w4), some (.inl (0 : Int))]) (st' := []) (M' := M5) (P := True) rfl trivial ?_
            refine a_mask [true, true, true, true, true, true] ?_
            refine mX5_road_L85 hz hR (fun v10 M11 h => ?_) 1000 w4 (0 : Int) M5 h
            · refine ite_elim h (fun hc h => ?_) (fun hc h => ?_)
              · refine a_run (md qX5_road_ok) hz 2 [0] (pc' := 161) (lv' := [some (.inr 71), some (.inl x1), some (.inl x2), some (.inl x3), some (.inl v10), none]) (st' := []) (M' := M11) (P := (¬ ¬ v10 = 0) ∧ True) rfl ⟨fun h9 => h9 hc, trivial⟩ ?_
                refine a_run (md qX5_road_ok) hz 1 [] (pc' := 163) (lv' := [some (.inr 71), some (.inl x1), some (.inl x2), some (.inl x3), some (.inl v10), none]) (st' := [.inl (-5 : Int)]) (M' := M11) (P := True) rfl trivial ?_
                exact a_ri (md qX5_road_ok) hz hR rfl (Or.inl rfl) h
              · refine a_run (md qX5_road_ok) hz 2 [1] (pc' := 164) (lv' := [some (.inr 71), some (.inl x1), some (.inl x2), some (.inl x3), some (.inl v10), none]) (st' := []) (M' := M11) (P := (¬ v10 = 0) ∧ True) rfl ⟨hc, trivial⟩ ?_
                refine ite_elim h (fun hc h => ?_) (fun hc h => ?_)
                · refine a_run (md qX5_road_ok) hz 4 [0] (pc' := 173) (lv' := [some (.inr 71), some (.inl x1), some (.inl x2), some (.inl x3), some (.inl v10), none]) (st' := []) (M' := M11) (P := (¬ ¬ (M11 71 6) = (20 : Int)) ∧ True) rfl ⟨fun h9 => h9 hc, trivial⟩ ?_
                  refine a_run (md qX5_road_ok) hz 1 [] (pc' := 175) (lv' := [some (.inr 71), some (.inl x1), some (.inl x2), some (.inl x3), some (.inl v10), none]) (st' := [.inl (-4 : Int)]) (M' := M11) (P := True) rfl trivial ?_
                  exact a_ri (md qX5_road_ok) hz hR rfl (Or.inl rfl) h
                · refine a_run (md qX5_road_ok) hz 4 [1] (pc' := 176) (lv' := [some (.inr 71), some (.inl x1), some (.inl x2), some (.inl x3), some (.inl v10), none]) (st' := []) (M' := M11) (P := (¬ (M11 71 6) = (20 : Int)) ∧ True) rfl ⟨hc, trivial⟩ ?_
                  obtain ⟨h19, h⟩ := gd_elim h
                  refine a_run (md qX5_road_ok) hz 6 [] (pc' := 186) (lv' := [some (.inr 71), some (.inl x1), some (.inl x2), some (.inl x3), some (.inl v10), none]) (st' := []) (M' := (up M11 74 (M11 71 6).toNat x1)) (P := (0 ≤ (M11 71 6) ∧ (M11 71 6) < 20) ∧ True) rfl ⟨h19, trivial⟩ ?_
                  refine bnd_elim (G := fun (M12 : Mm) => Aw z 186 [some (.inr 71), some (.inl x1), some (.inl x2), some (.inl x3), some (.inl v10), none] [] M12) h (fun M12 h => ?_)
                  obtain ⟨h18, h⟩ := gd_elim h
                  refine a_run (md qX5_road_ok) hz 6 [] (pc' := 196) (lv' := [some (.inr 71), some (.inl x1), some (.inl x2), some (.inl x3), some (.inl v10), none]) (st' := []) (M' := (up M12 75 (M12 71 6).toNat x2)) (P := (0 ≤ (M12 71 6) ∧ (M12 71 6) < 20) ∧ True) rfl ⟨h18, trivial⟩ ?_
                  refine bnd_elim (G := fun (M13 : Mm) => Aw z 196 [some (.inr 71), some (.inl x1), some (.inl x2), some (.inl x3), some (.inl v10), none] [] M13) h (fun M13 h => ?_)
                  obtain ⟨h17, h⟩ := gd_elim h
                  refine a_run (md qX5_road_ok) hz 6 [] (pc' := 206) (lv' := [some (.inr 71), some (.inl x1), some (.inl x2), some (.inl x3), some (.inl v10), none]) (st' := []) (M' := (up M13 76 (M13 71 6).toNat x3)) (P := (0 ≤ (M13 71 6) ∧ (M13 71 6) < 20) ∧ True) rfl ⟨h17, trivial⟩ ?_
                  refine bnd_elim (G := fun (M14 : Mm) => Aw z 206 [some (.inr 71), some (.inl x1), some (.inl x2), some (.inl x3), some (.inl v10), none] [] M14) h (fun M14 h => ?_)
                  obtain ⟨h16, h⟩ := gd_elim h
                  refine a_run (md qX5_road_ok) hz 6 [] (pc' := 216) (lv' := [some (.inr 71), some (.inl x1), some (.inl x2), some (.inl x3), some (.inl v10), none]) (st' := []) (M' := (up M14 71 6 ((M14 71 6) + (1 : Int)))) (P := (inR ((M14 71 6) + (1 : Int))) ∧ True) rfl ⟨h16, trivial⟩ ?_
                  refine bnd_elim (G := fun (M15 : Mm) => Aw z 216 [some (.inr 71), some (.inl x1), some (.inl x2), some (.inl x3), some (.inl v10), none] [] M15) h (fun M15 h => ?_)
                  refine a_run (md qX5_road_ok) hz 2 [] (pc' := 220) (lv' := [some (.inr 71), some (.inl x1), some (.inl x2), some (.inl x3), some (.inl v10), none]) (st' := [.inl (M15 71 6)]) (M' := M15) (P := True) rfl trivial ?_
                  exact a_ri (md qX5_road_ok) hz hR rfl (Or.inl rfl) h
          · refine jn_elim h (fun (K39 : Mm → Option (Int × Mm)) => ∀ (M38 : Mm), OK (K39 M38) (fun r2 => Q (some r2.1) r2.2) → Aw z 79 [some (.inr 71), some (.inl x1), some (.inl x2), some (.inl x3), none, none] [] M38) (fun M38 h => ?_) (fun K39 hK39 h => ?_)
            · refine a_run (md qX5_road_ok) hz 1 [] (pc' := 80) (lv' := [some (.inr 71), some (.inl x1), some (.inl x2), some (.inl x3), none, none]) (st' := [.inl (0 : Int)]) (M' := M38) (P := True) rfl trivial ?_
              refine a_mask [true, true, true, true, false, false] ?_
              exact hK6 (0 : Int) M38 h
            · refine ite_elim h (fun hc h => ?_) (fun hc h => ?_)
              · refine a_run (md qX5_road_ok) hz 3 [1] (pc' := 79) (lv' := [some (.inr 71), some (.inl x1), some (.inl x2), some (.inl x3), none, none]) (st' := []) (M' := M) (P := (x1 = x2) ∧ True) rfl ⟨hc, trivial⟩ ?_
                refine a_mask [true, true, true, true, false, false] ?_
                exact hK39 M h
              · refine a_run (md qX5_road_ok) hz 3 [0] (pc' := 45) (lv' := [some (.inr 71), some (.inl x1), some (.inl x2), some (.inl x3), none, none]) (st' := []) (M' := M) (P := (¬ (x1 = x2)) ∧ True) rfl ⟨hc, trivial⟩ ?_
                refine jn_elim h (fun (K41 : Mm → Option (Int × Mm)) => ∀ (M40 : Mm), OK (K41 M40) (fun r2 => Q (some r2.1) r2.2) → Aw z 75 [some (.inr 71), some (.inl x1), some (.inl x2), some (.inl x3), none, none] [] M40) (fun M40 h => ?_) (fun K41 hK41 h => ?_)
                · refine a_run (md qX5_road_ok) hz 2 [] (pc' := 80) (lv' := [some (.inr 71), some (.inl x1), some (.inl x2), some (.inl x3), none, none]) (st' := [.inl (1 : Int)]) (M' := M40) (P := True) rfl trivial ?_
                  refine a_mask [true, true, true, true, false, false] ?_
                  exact hK6 (1 : Int) M40 h
                · obtain ⟨⟨h44, h45⟩, h⟩ := gd_elim h
                  refine ite_elim h (fun hc h => ?_) (fun hc h => ?_)
                  · refine a_run (md qX5_road_ok) hz 9 [1] (pc' := 75) (lv' := [some (.inr 71), some (.inl x1), some (.inl x2), some (.inl x3), none, none]) (st' := []) (M' := M) (P := (0 ≤ x1 ∧ x1 < 12) ∧ (0 ≤ x2 ∧ x2 < 12) ∧ ((M 72 x1.toNat) = (M 72 x2.toNat)) ∧ True) rfl ⟨h44, h45, hc, trivial⟩ ?_
                    refine a_mask [true, true, true, true, false, false] ?_
                    exact hK41 M h
                  · refine a_run (md qX5_road_ok) hz 9 [0] (pc' := 60) (lv' := [some (.inr 71), some (.inl x1), some (.inl x2), some (.inl x3), none, none]) (st' := []) (M' := M) (P := (0 ≤ x1 ∧ x1 < 12) ∧ (0 ≤ x2 ∧ x2 < 12) ∧ (¬ ((M 72 x1.toNat) = (M 72 x2.toNat))) ∧ True) rfl ⟨h44, h45, hc, trivial⟩ ?_
                    obtain ⟨⟨h42, h43⟩, h⟩ := gd_elim h
                    refine ite_elim h (fun hc h => ?_) (fun hc h => ?_)
                    · refine a_run (md qX5_road_ok) hz 9 [0] (pc' := 75) (lv' := [some (.inr 71), some (.inl x1), some (.inl x2), some (.inl x3), none, none]) (st' := []) (M' := M) (P := (0 ≤ x1 ∧ x1 < 12) ∧ (0 ≤ x2 ∧ x2 < 12) ∧ (¬ ¬ (M 73 x1.toNat) = (M 73 x2.toNat)) ∧ True) rfl ⟨h42, h43, fun h9 => h9 hc, trivial⟩ ?_
                      refine a_mask [true, true, true, true, false, false] ?_
                      exact hK41 M h
                    · refine a_run (md qX5_road_ok) hz 9 [1] (pc' := 79) (lv' := [some (.inr 71), some (.inl x1), some (.inl x2), some (.inl x3), none, none]) (st' := []) (M' := M) (P := (0 ≤ x1 ∧ x1 < 12) ∧ (0 ≤ x2 ∧ x2 < 12) ∧ (¬ (M 73 x1.toNat) = (M 73 x2.toNat)) ∧ True) rfl ⟨h42, h43, hc, trivial⟩ ?_
                      refine a_mask [true, true, true, true, false, false] ?_
                      exact hK39 M h
        · refine a_run (md qX5_road_ok) hz 3 [0] (pc' := 37) (lv' := [some (.inr 71), some (.inl x1), some (.inl x2), some (.inl x3), none, none]) (st' := []) (M' := M) (P := (¬ ((M 71 10) ≤ 0)) ∧ True) rfl ⟨hc, trivial⟩ ?_
          refine a_run (md qX5_road_ok) hz 1 [] (pc' := 39) (lv' := [some (.inr 71), some (.inl x1), some (.inl x2), some (.inl x3), none, none]) (st' := [.inl (-3 : Int)]) (M' := M) (P := True) rfl trivial ?_
          exact a_ri (md qX5_road_ok) hz hR rfl (Or.inl rfl) h
def fX5_rule (M : Mm) (x1 : Int) (x2 : Int) : Option (Int × Mm) := cal (fX5_in M x1 (0 : Int) (3 : Int)) (fun (r1 : Int) => if r1 = 0 then some ((-2 : Int), M) else jn (fun (w2 : Int) (w3 : Int) (w4 : Int) (M5 : Mm) => cal (fX5_in M5 w4 w3 w2) (fun (r7 : Int) => if r7 = 0 then some ((-2 : Int), M5) else if (M5 71 10) ≤ 0 then gd ((0 ≤ x1 ∧ x1 < 4) ∧ (0 ≤ x1 ∧ x1 < 4)) (bnd (up M5 77 x1.toNat x2) (fun (M8 : Mm) => some ((M5 77 x1.toNat), M8))) else some ((-3 : Int), M5))) (fun (K6 : Int → Int → Int → Mm → Option (Int × Mm)) => if x1 = 0 then K6 (8 : Int) (0 : Int) x2 M else if x1 = (3 : Int) then K6 (99 : Int) (0 : Int) x2 M else K6 (9 : Int) (0 : Int) x2 M))
set_option maxRecDepth 100000 in
theorem mX5_rule (g : Gx) {M : Mm} {x1 : Int} {x2 : Int} {r : Int} {M2 : Mm} (h : fX5_rule M x1 x2 = some (r, M2)) : Ct g qX5_rule [.inr 71, .inl x1, .inl x2] M (fun r' M' => r' = some r ∧ M' = M2) := by
  refine c_ofI h qX5_rule_ok (Nat.le_of_ble_eq_true rfl) (fun z hz Q hR h => ?_)
  unfold fX5_rule at h
  show Aw z 0 [some (.inr 71), some (.inl x1), some (.inl x2), none] [] M
  refine a_run (md qX5_rule_ok) hz 3 [] (pc' := 3) (lv' := [some (.inr 71), some (.inl x1), some (.inl x2), none]) (st' := [.inl (3 : Int), .inl (0 : Int), .inl x1]) (M' := M) (P := True) rfl trivial ?_
  obtain ⟨r1, hr, h⟩ := cal_elim h
  refine a_fS (as := [.inl x1, .inl (0 : Int), .inl (3 : Int)]) (st := []) (mX5_in z.1 hr) (md qX5_rule_ok) qX5_in_ok hz lkX5_76 rfl 3 0 (by decide +kernel) rfl rfl ?_
  show Aw z 6 [some (.inr 71), some (.inl x1), some (.inl x2), none] [.inl r1] M
  refine ite_elim h (fun hc h => ?_) (fun hc h => ?_)
  · refine a_run (md qX5_rule_ok) hz 1 [1] (pc' := 38) (lv' := [some (.inr 71), some (.inl x1), some (.inl x2), none]) (st' := []) (M' := M) (P := (r1 = 0) ∧ True) rfl ⟨hc, trivial⟩ ?_
    refine a_run (md qX5_rule_ok) hz 1 [] (pc' := 40) (lv' := [some (.inr 71), some (.inl x1), some (.inl x2), none]) (st' := [.inl (-2 : Int)]) (M' := M) (P := True) rfl trivial ?_
    exact a_ri (md qX5_rule_ok) hz hR rfl (Or.inl rfl) h
  · refine a_run (md qX5_rule_ok) hz 1 [0] (pc' := 9) (lv' := [some (.inr 71), some (.inl x1), some (.inl x2), none]) (st' := []) (M' := M) (P := (¬ (r1 = 0)) ∧ True) rfl ⟨hc, trivial⟩ ?_
    refine jn_elim h (fun (K6 : Int → Int → Int → Mm → Option (Int × Mm)) => ∀ (w2 : Int), ∀ (w3 : Int), ∀ (w4 : Int), ∀ (M5 : Mm), OK (K6 w2 w3 w4 M5) (fun r2 => Q (some r2.1) r2.2) → Aw z 32 [some (.inr 71), some (.inl x1), some (.inl x2), none] [.inl w2, .inl w3, .inl w4] M5) (fun w2 w3 w4 M5 h => ?_) (fun K6 hK6 h => ?_)
    · obtain ⟨r7, hr, h⟩ := cal_elim h
      refine a_fS (as := [.inl w4, .inl w3, .inl w2]) (st := []) (mX5_in z.1 hr) (md qX5_rule_ok) qX5_in_ok hz lkX5_76 rfl 3 0 (by decide +kernel) rfl rfl ?_
      show Aw z 35 [some (.inr 71), some (.inl x1), some (.inl x2), none] [.inl r7] M5
      refine ite_elim h (fun hc h => ?_) (fun hc h => ?_)
      · refine a_run (md qX5_rule_ok) hz 1 [0] (pc' := 38) (lv' := [some (.inr 71), some (.inl x1), some (.inl x2), none]) (st' := []) (M' := M5) (P := (¬ ¬ r7 = 0) ∧ True) rfl ⟨fun h9 => h9 hc, trivial⟩ ?_
        refine a_run (md qX5_rule_ok) hz 1 [] (pc' := 40) (lv' := [some (.inr 71), some (.inl x1), some (.inl x2), none]) (st' := [.inl (-2 : Int)]) (M' := M5) (P := True) rfl trivial ?_
        exact a_ri (md qX5_rule_ok) hz hR rfl (Or.inl rfl) h
      · refine a_run (md qX5_rule_ok) hz 1 [1] (pc' := 41) (lv' := [some (.inr 71), some (.inl x1), some (.inl x2), none]) (st' := []) (M' := M5) (P := (¬ r7 = 0) ∧ True) rfl ⟨hc, trivial⟩ ?_
        refine ite_elim h (fun hc h => ?_) (fun hc h => ?_)
        · refine a_run (md qX5_rule_ok) hz 3 [1] (pc' := 51) (lv' := [some (.inr 71), some (.inl x1), some (.inl x2), none]) (st' := []) (M' := M5) (P := ((M5 71 10) ≤ 0) ∧ True) rfl ⟨hc, trivial⟩ ?_
          obtain ⟨⟨h9, h10⟩, h⟩ := gd_elim h
          refine a_run (md qX5_rule_ok) hz 10 [] (pc' := 65) (lv' := [some (.inr 71), some (.inl x1), some (.inl x2), some (.inl (M5 77 x1.toNat))]) (st' := []) (M' := (up M5 77 x1.toNat x2)) (P := (0 ≤ x1 ∧ x1 < 4) ∧ (0 ≤ x1 ∧ x1 < 4) ∧ True) rfl ⟨h9, h10, trivial⟩ ?_
          refine bnd_elim (G := fun (M8 : Mm) => Aw z 65 [some (.inr 71), some (.inl x1), some (.inl x2), some (.inl (M5 77 x1.toNat))] [] M8) h (fun M8 h => ?_)
          refine a_run (md qX5_rule_ok) hz 1 [] (pc' := 66) (lv' := [some (.inr 71), some (.inl x1), some (.inl x2), some (.inl (M5 77 x1.toNat))]) (st' := [.inl (M5 77 x1.toNat)]) (M' := M8) (P := True) rfl trivial ?_
          exact a_ri (md qX5_rule_ok) hz hR rfl (Or.inl rfl) h
        · refine a_run (md qX5_rule_ok) hz 3 [0] (pc' := 48) (lv' := [some (.inr 71), some (.inl x1), some (.inl x2), none]) (st' := []) (M' := M5) (P := (¬ ((M5 71 10) ≤ 0)) ∧ True) rfl ⟨hc, trivial⟩ ?_
          refine a_run (md qX5_rule_ok) hz 1 [] (pc' := 50) (lv' := [some (.inr 71), some (.inl x1), some (.inl x2), none]) (st' := [.inl (-3 : Int)]) (M' := M5) (P := True) rfl trivial ?_
          exact a_ri (md qX5_rule_ok) hz hR rfl (Or.inl rfl) h
    · refine ite_elim h (fun hc h => ?_) (fun hc h => ?_)
      · refine a_run (md qX5_rule_ok) hz 4 [0] (pc' := 15) (lv' := [some (.inr 71), some (.inl x1), some (.inl x2), none]) (st' := [.inl (0 : Int), .inl x2]) (M' := M) (P := (¬ ¬ x1 = 0) ∧ True) rfl ⟨fun h9 => h9 hc, trivial⟩ ?_
        refine a_run (md qX5_rule_ok) hz 2 [] (pc' := 32) (lv' := [some (.inr 71), some (.inl x1), some (.inl x2), none]) (st' := [.inl (8 : Int), .inl (0 : Int), .inl x2]) (M' := M) (P := True) rfl trivial ?_
        refine a_mask [true, true, true, false] ?_
        exact hK6 (8 : Int) (0 : Int) x2 M h
      · refine a_run (md qX5_rule_ok) hz 4 [1] (pc' := 20) (lv' := [some (.inr 71), some (.inl x1), some (.inl x2), none]) (st' := [.inl (0 : Int), .inl x2]) (M' := M) (P := (¬ x1 = 0) ∧ True) rfl ⟨hc, trivial⟩ ?_
        refine ite_elim h (fun hc h => ?_) (fun hc h => ?_)
        · refine a_run (md qX5_rule_ok) hz 3 [0] (pc' := 25) (lv' := [some (.inr 71), some (.inl x1), some (.inl x2), none]) (st' := [.inl (0 : Int), .inl x2]) (M' := M) (P := (¬ ¬ x1 = (3 : Int)) ∧ True) rfl ⟨fun h9 => h9 hc, trivial⟩ ?_
          refine a_run (md qX5_rule_ok) hz 2 [] (pc' := 32) (lv' := [some (.inr 71), some (.inl x1), some (.inl x2), none]) (st' := [.inl (99 : Int), .inl (0 : Int), .inl x2]) (M' := M) (P := True) rfl trivial ?_
          refine a_mask [true, true, true, false] ?_
          exact hK6 (99 : Int) (0 : Int) x2 M h
        · refine a_run (md qX5_rule_ok) hz 3 [1] (pc' := 30) (lv' := [some (.inr 71), some (.inl x1), some (.inl x2), none]) (st' := [.inl (0 : Int), .inl x2]) (M' := M) (P := (¬ x1 = (3 : Int)) ∧ True) rfl ⟨hc, trivial⟩ ?_
          refine a_run (md qX5_rule_ok) hz 1 [] (pc' := 32) (lv' := [some (.inr 71), some (.inl x1), some (.inl x2), none]) (st' := [.inl (9 : Int), .inl (0 : Int), .inl x2]) (M' := M) (P := True) rfl trivial ?_
          refine a_mask [true, true, true, false] ?_
          exact hK6 (9 : Int) (0 : Int) x2 M h
def fX5_length (M : Mm) (x1 : Int) : Option (Int) := gd ((0 ≤ x1 ∧ x1 < 20) ∧ (0 ≤ (M 74 x1.toNat) ∧ (M 74 x1.toNat) < 12) ∧ (0 ≤ x1 ∧ x1 < 20) ∧ (0 ≤ (M 74 x1.toNat) ∧ (M 74 x1.toNat) < 12) ∧ (0 ≤ x1 ∧ x1 < 20) ∧ (0 ≤ (M 75 x1.toNat) ∧ (M 75 x1.toNat) < 12) ∧ (0 ≤ x1 ∧ x1 < 20) ∧ (0 ≤ (M 75 x1.toNat) ∧ (M 75 x1.toNat) < 12)) (cal (fX5_apart M (M 72 (M 74 x1.toNat).toNat) (M 73 (M 74 x1.toNat).toNat) (M 72 (M 75 x1.toNat).toNat) (M 73 (M 75 x1.toNat).toNat)) (fun (r1 : Int) => some r1))
set_option maxRecDepth 100000 in
theorem mX5_length (g : Gx) {M : Mm} {x1 : Int} {r : Int} (h : fX5_length M x1 = some r) : Ct g qX5_length [.inr 71, .inl x1] M (fun r' M' => r' = some r ∧ M' = M) := by
  refine c_ofP h qX5_length_ok (Nat.le_of_ble_eq_true rfl) (fun z hz Q hR h => ?_)
  unfold fX5_length at h
  show Aw z 0 [some (.inr 71), some (.inl x1)] [] M
  obtain ⟨⟨h2, h3, h4, h5, h6, h7, h8, h9⟩, h⟩ := gd_elim h
  refine a_run (md qX5_length_ok) hz 28 [] (pc' := 44) (lv' := [some (.inr 71), some (.inl x1)]) (st' := [.inl (M 73 (M 75 x1.toNat).toNat), .inl (M 72 (M 75 x1.toNat).toNat), .inl (M 73 (M 74 x1.toNat).toNat), .inl (M 72 (M 74 x1.toNat).toNat)]) (M' := M) (P := (0 ≤ x1 ∧ x1 < 20) ∧ (0 ≤ (M 74 x1.toNat) ∧ (M 74 x1.toNat) < 12) ∧ (0 ≤ x1 ∧ x1 < 20) ∧ (0 ≤ (M 74 x1.toNat) ∧ (M 74 x1.toNat) < 12) ∧ (0 ≤ x1 ∧ x1 < 20) ∧ (0 ≤ (M 75 x1.toNat) ∧ (M 75 x1.toNat) < 12) ∧ (0 ≤ x1 ∧ x1 < 20) ∧ (0 ≤ (M 75 x1.toNat) ∧ (M 75 x1.toNat) < 12) ∧ True) rfl ⟨h2, h3, h4, h5, h6, h7, h8, h9, trivial⟩ ?_
  obtain ⟨r1, hr, h⟩ := cal_elim h
  refine a_fS (as := [.inl (M 72 (M 74 x1.toNat).toNat), .inl (M 73 (M 74 x1.toNat).toNat), .inl (M 72 (M 75 x1.toNat).toNat), .inl (M 73 (M 75 x1.toNat).toNat)]) (st := []) (mX5_apart z.1 hr) (md qX5_length_ok) qX5_apart_ok hz lkX5_90 rfl 4 0 (by decide +kernel) rfl rfl ?_
  show Aw z 47 [some (.inr 71), some (.inl x1)] [.inl r1] M
  exact a_ri (md qX5_length_ok) hz hR rfl (Or.inl rfl) h
def fX5_towards (M : Mm) (x0 : Int) (x1 : Int) (x2 : Int) : Option (Int) := if x0 = x1 then some x0 else if x1 ≤ x0 then gd ((inR (x0 - x2))) (some (x0 - x2)) else gd ((inR (x0 + x2))) (some (x0 + x2))
set_option maxRecDepth 100000 in
theorem mX5_towards (g : Gx) {M : Mm} {x0 : Int} {x1 : Int} {x2 : Int} {r : Int} (h : fX5_towards M x0 x1 x2 = some r) : Ct g qX5_towards [.inl x0, .inl x1, .inl x2] M (fun r' M' => r' = some r ∧ M' = M) := by
  refine c_ofP h qX5_towards_ok (Nat.le_of_ble_eq_true rfl) (fun z hz Q hR h => ?_)
  unfold fX5_towards at h
  show Aw z 0 [some (.inl x0), some (.inl x1), some (.inl x2)] [] M
  refine ite_elim h (fun hc h => ?_) (fun hc h => ?_)
  · refine a_run (md qX5_towards_ok) hz 3 [0] (pc' := 5) (lv' := [some (.inl x0), some (.inl x1), some (.inl x2)]) (st' := []) (M' := M) (P := (¬ ¬ x0 = x1) ∧ True) rfl ⟨fun h9 => h9 hc, trivial⟩ ?_
    refine a_run (md qX5_towards_ok) hz 2 [] (pc' := 23) (lv' := [some (.inl x0), some (.inl x1), some (.inl x2)]) (st' := [.inl x0]) (M' := M) (P := True) rfl trivial ?_
    exact a_ri (md qX5_towards_ok) hz hR rfl (Or.inl rfl) h
  · refine a_run (md qX5_towards_ok) hz 3 [1] (pc' := 9) (lv' := [some (.inl x0), some (.inl x1), some (.inl x2)]) (st' := []) (M' := M) (P := (¬ x0 = x1) ∧ True) rfl ⟨hc, trivial⟩ ?_
    refine ite_elim h (fun hc h => ?_) (fun hc h => ?_)
    · refine a_run (md qX5_towards_ok) hz 3 [1] (pc' := 20) (lv' := [some (.inl x0), some (.inl x1), some (.inl x2)]) (st' := []) (M' := M) (P := (x1 ≤ x0) ∧ True) rfl ⟨hc, trivial⟩ ?_
      obtain ⟨h1, h⟩ := gd_elim h
      refine a_run (md qX5_towards_ok) hz 3 [] (pc' := 23) (lv' := [some (.inl x0), some (.inl x1), some (.inl x2)]) (st' := [.inl (x0 - x2)]) (M' := M) (P := (inR (x0 - x2)) ∧ True) rfl ⟨h1, trivial⟩ ?_
      exact a_ri (md qX5_towards_ok) hz hR rfl (Or.inl rfl) h
    · refine a_run (md qX5_towards_ok) hz 3 [0] (pc' := 14) (lv' := [some (.inl x0), some (.inl x1), some (.inl x2)]) (st' := []) (M' := M) (P := (¬ (x1 ≤ x0)) ∧ True) rfl ⟨hc, trivial⟩ ?_
      obtain ⟨h2, h⟩ := gd_elim h
      refine a_run (md qX5_towards_ok) hz 4 [] (pc' := 23) (lv' := [some (.inl x0), some (.inl x1), some (.inl x2)]) (st' := [.inl (x0 + x2)]) (M' := M) (P := (inR (x0 + x2)) ∧ True) rfl ⟨h2, trivial⟩ ?_
      exact a_ri (md qX5_towards_ok) hz hR rfl (Or.inl rfl) h
def fX5_spotX (M : Mm) (x1 : Int) (x2 : Int) : Option (Int) := gd ((0 ≤ x1 ∧ x1 < 20) ∧ (0 ≤ (M 74 x1.toNat) ∧ (M 74 x1.toNat) < 12) ∧ (0 ≤ x1 ∧ x1 < 20) ∧ (0 ≤ (M 75 x1.toNat) ∧ (M 75 x1.toNat) < 12)) (cal (fX5_towards M (M 72 (M 74 x1.toNat).toNat) (M 72 (M 75 x1.toNat).toNat) x2) (fun (r1 : Int) => some r1))
set_option maxRecDepth 100000 in
theorem mX5_spotX (g : Gx) {M : Mm} {x1 : Int} {x2 : Int} {r : Int} (h : fX5_spotX M x1 x2 = some r) : Ct g qX5_spotX [.inr 71, .inl x1, .inl x2] M (fun r' M' => r' = some r ∧ M' = M) := by
  refine c_ofP h qX5_spotX_ok (Nat.le_of_ble_eq_true rfl) (fun z hz Q hR h => ?_)
  unfold fX5_spotX at h
  show Aw z 0 [some (.inr 71), some (.inl x1), some (.inl x2)] [] M
  obtain ⟨⟨h2, h3, h4, h5⟩, h⟩ := gd_elim h
  refine a_run (md qX5_spotX_ok) hz 15 [] (pc' := 23) (lv' := [some (.inr 71), some (.inl x1), some (.inl x2)]) (st' := [.inl x2, .inl (M 72 (M 75 x1.toNat).toNat), .inl (M 72 (M 74 x1.toNat).toNat)]) (M' := M) (P := (0 ≤ x1 ∧ x1 < 20) ∧ (0 ≤ (M 74 x1.toNat) ∧ (M 74 x1.toNat) < 12) ∧ (0 ≤ x1 ∧ x1 < 20) ∧ (0 ≤ (M 75 x1.toNat) ∧ (M 75 x1.toNat) < 12) ∧ True) rfl ⟨h2, h3, h4, h5, trivial⟩ ?_
  obtain ⟨r1, hr, h⟩ := cal_elim h
  refine a_fS (as := [.inl (M 72 (M 74 x1.toNat).toNat), .inl (M 72 (M 75 x1.toNat).toNat), .inl x2]) (st := []) (mX5_towards z.1 hr) (md qX5_spotX_ok) qX5_towards_ok hz lkX5_94 rfl 3 0 (by decide +kernel) rfl rfl ?_
  show Aw z 26 [some (.inr 71), some (.inl x1), some (.inl x2)] [.inl r1] M
  exact a_ri (md qX5_spotX_ok) hz hR rfl (Or.inl rfl) h
def fX5_spotY (M : Mm) (x1 : Int) (x2 : Int) : Option (Int) := gd ((0 ≤ x1 ∧ x1 < 20) ∧ (0 ≤ (M 74 x1.toNat) ∧ (M 74 x1.toNat) < 12) ∧ (0 ≤ x1 ∧ x1 < 20) ∧ (0 ≤ (M 75 x1.toNat) ∧ (M 75 x1.toNat) < 12)) (cal (fX5_towards M (M 73 (M 74 x1.toNat).toNat) (M 73 (M 75 x1.toNat).toNat) x2) (fun (r1 : Int) => some r1))
set_option maxRecDepth 100000 in
theorem mX5_spotY (g : Gx) {M : Mm} {x1 : Int} {x2 : Int} {r : Int} (h : fX5_spotY M x1 x2 = some r) : Ct g qX5_spotY [.inr 71, .inl x1, .inl x2] M (fun r' M' => r' = some r ∧ M' = M) := by
  refine c_ofP h qX5_spotY_ok (Nat.le_of_ble_eq_true rfl) (fun z hz Q hR h => ?_)
  unfold fX5_spotY at h
  show Aw z 0 [some (.inr 71), some (.inl x1), some (.inl x2)] [] M
  obtain ⟨⟨h2, h3, h4, h5⟩, h⟩ := gd_elim h
  refine a_run (md qX5_spotY_ok) hz 15 [] (pc' := 23) (lv' := [some (.inr 71), some (.inl x1), some (.inl x2)]) (st' := [.inl x2, .inl (M 73 (M 75 x1.toNat).toNat), .inl (M 73 (M 74 x1.toNat).toNat)]) (M' := M) (P := (0 ≤ x1 ∧ x1 < 20) ∧ (0 ≤ (M 74 x1.toNat) ∧ (M 74 x1.toNat) < 12) ∧ (0 ≤ x1 ∧ x1 < 20) ∧ (0 ≤ (M 75 x1.toNat) ∧ (M 75 x1.toNat) < 12) ∧ True) rfl ⟨h2, h3, h4, h5, trivial⟩ ?_
  obtain ⟨r1, hr, h⟩ := cal_elim h
  refine a_fS (as := [.inl (M 73 (M 74 x1.toNat).toNat), .inl (M 73 (M 75 x1.toNat).toNat), .inl x2]) (st := []) (mX5_towards z.1 hr) (md qX5_spotY_ok) qX5_towards_ok hz lkX5_94 rfl 3 0 (by decide +kernel) rfl rfl ?_
  show Aw z 26 [some (.inr 71), some (.inl x1), some (.inl x2)] [.inl r1] M
  exact a_ri (md qX5_spotY_ok) hz hR rfl (Or.inl rfl) h
def fX5_cell_L43 (x1 : Int) (x2 : Int) (M : Mm) (k102 : Int → Int → Int → Option (Int)) : Nat → Int → Int → Int → Int → Option (Int)
  | 0, _, _, _, _ => none
  | n + 1, v5, v6, v7, v8 => cal (fX5_length M v6) (fun (r18 : Int) => if r18 < v8 then k102 v5 v6 v7 else jn (fun (v19 : Int) (v20 : Int) (v21 : Int) (w22 : Int) => gd ((inR (v21 + (1 : Int)))) (fX5_cell_L43 x1 x2 M k102 n v19 v20 w22 (v21 + (1 : Int)))) (fun (K23 : Int → Int → Int → Int → Option (Int)) => jn (fun (v25 : Int) (v26 : Int) (v27 : Int) => K23 v25 v26 v27 (1 : Int)) (fun (K28 : Int → Int → Int → Option (Int)) => if v7 = 0 then jn (fun (v29 : Int) (v30 : Int) (v31 : Int) => K23 v29 v30 v31 (0 : Int)) (fun (K32 : Int → Int → Int → Option (Int)) => cal (fX5_spotX M v6 v8) (fun (r33 : Int) => if (r33.tdiv (8 : Int)) = x1 then cal (fX5_spotY M v6 v8) (fun (r34 : Int) => if (r34.tdiv (8 : Int)) = x2 then K28 v5 v6 v8 else K32 v5 v6 v8) else K32 v5 v6 v8)) else K28 v5 v6 v8)))
def fX5_cell_L28 (x1 : Int) (x2 : Int) (M : Mm) : Nat → Int → Int → Option (Int)
  | 0, _, _ => none
  | n + 1, v3, v4 => if (M 71 6) ≤ v4 then some v3 else fX5_cell_L43 x1 x2 M (fun (v9 : Int) (v10 : Int) (v11 : Int) => jn (fun (v12 : Int) (w13 : Int) (w14 : Int) => gd ((inR (w14 + w13)) ∧ (inR (v12 + (1 : Int)))) (fX5_cell_L28 x1 x2 M n (w14 + w13) (v12 + (1 : Int)))) (fun (K15 : Int → Int → Int → Option (Int)) => if v11 = 0 then K15 v10 (0 : Int) v9 else K15 v10 (1 : Int) v9)) 1000 v3 v4 (0 : Int) (0 : Int)
def fX5_cell (M : Mm) (x1 : Int) (x2 : Int) : Option (Int) := cal (fX5_in M x1 (0 : Int) (7 : Int)) (fun (r1 : Int) => if r1 = 0 then some (-2 : Int) else cal (fX5_in M x2 (0 : Int) (7 : Int)) (fun (r2 : Int) => if r2 = 0 then some (-2 : Int) else fX5_cell_L28 x1 x2 M 1000 (0 : Int) (0 : Int)))
set_option maxRecDepth 100000 in
theorem mX5_cell_L43 {z : Zx} (hz : Cx qX5_cell z) {Q : Option Int → Mm → Prop} (hR : Rt Q z) {x1 : Int} {x2 : Int} {M : Mm} {k102 : Int → Int → Int → Option (Int)} (hk102 : ∀ (v9 : Int), ∀ (v10 : Int), ∀ (v11 : Int), OK (k102 v9 v10 v11) (fun r2 => Q (some r2) M) → Aw z 102 [some (.inr 71), some (.inl x1), some (.inl x2), some (.inl v9), some (.inl v10), some (.inl v11), none] [] M) : ∀ (n : Nat) (v5 : Int) (v6 : Int) (v7 : Int) (v8 : Int), OK (fX5_cell_L43 x1 x2 M k102 n v5 v6 v7 v8) (fun r2 => Q (some r2) M) → Aw z 43 [some (.inr 71), some (.inl x1), some (.inl x2), some (.inl v5), some (.inl v6), some (.inl v7), some (.inl v8)] [] M := by
  intro n
  induction n with
  | zero =>
    intro v5 v6 v7 v8 h
    exact (show False from h).elim
  | succ n ih =>
    intro v5 v6 v7 v8 h
    unfold fX5_cell_L43 at h
    refine a_run (md qX5_cell_ok) hz 3 [] (pc' := 48) (lv' := [some (.inr 71), some (.inl x1), some (.inl x2), some (.inl v5), some (.inl v6), some (.inl v7), some (.inl v8)]) (st' := [.inl v6, .inr 71, .inl v8]) (M' := M) (P := True) rfl trivial ?_
    obtain ⟨r18, hr, h⟩ := cal_elim h
    refine a_fV (as := [.inl v6]) (a := 71) (st := [.inl v8]) (mX5_length z.1 hr) (md qX5_cell_ok) qX5_length_ok hz lkX5_98 rfl 1 1 (by decide +kernel) rfl rfl rfl rfl ?_
    show Aw z 51 [some (.inr 71), some (.inl x1), some (.inl x2), some (.inl v5), some (.inl v6), some (.inl v7), some (.inl v8)] [.inl r18, .inl v8] M
    refine ite_elim h (fun hc h => ?_) (fun hc h => ?_)
    · refine a_run (md qX5_cell_ok) hz 1 [1] (pc' := 102) (lv' := [some (.inr 71), some (.inl x1), some (.inl x2), some (.inl v5), some (.inl v6), some (.inl v7), some (.inl v8)]) (st' := []) (M' := M) (P := (r18 < v8) ∧ True) rfl ⟨hc, trivial⟩ ?_
      refine a_mask [true, true, true, true, true, true, false] ?_
      exact hk102 v5 v6 v7 h
    · refine a_run (md qX5_cell_ok) hz 1 [0] (pc' := 54) (lv' := [some (.inr 71), some (.inl x1), some (.inl x2), some (.inl v5), some (.inl v6), some (.inl v7), some (.inl v8)]) (st' := []) (M' := M) (P := (¬ (r18 < v8)) ∧ True) rfl ⟨hc, trivial⟩ ?_
      refine jn_elim h (fun (K23 : Int → Int → Int → Int → Option (Int)) => ∀ (v19 : Int), ∀ (v20 : Int), ∀ (v21 : Int), ∀ (w22 : Int), OK (K23 v19 v20 v21 w22) (fun r2 => Q (some r2) M) → Aw z 94 [some (.inr 71), some (.inl x1), some (.inl x2), some (.inl v19), some (.inl v20), none, some (.inl v21)] [.inl w22] M) (fun v19 v20 v21 w22 h => ?_) (fun K23 hK23 h => ?_)
      · obtain ⟨h24, h⟩ := gd_elim h
        refine a_run (md qX5_cell_ok) hz 3 [] (pc' := 43) (lv' := [some (.inr 71), some (.inl x1), some (.inl x2), some (.inl v19), some (.inl v20), some (.inl w22), some (.inl (v21 + (1 : Int)))]) (st' := []) (M' := M) (P := (inR (v21 + (1 : Int))) ∧ True) rfl ⟨h24, trivial⟩ ?_
        refine a_mask [true, true, true, true, true, true, true] ?_
        exact ih v19 v20 w22 (v21 + (1 : Int)) h
      · refine jn_elim h (fun (K28 : Int → Int → Int → Option (Int)) => ∀ (v25 : Int), ∀ (v26 : Int), ∀ (v27 : Int), OK (K28 v25 v26 v27) (fun r2 => Q (some r2) M) → Aw z 89 [some (.inr 71), some (.inl x1), some (.inl x2), some (.inl v25), some (.inl v26), none, some (.inl v27)] [] M) (fun v25 v26 v27 h => ?_) (fun K28 hK28 h => ?_)
        · refine a_run (md qX5_cell_ok) hz 2 [] (pc' := 94) (lv' := [some (.inr 71), some (.inl x1), some (.inl x2), some (.inl v25), some (.inl v26), none, some (.inl v27)]) (st' := [.inl (1 : Int)]) (M' := M) (P := True) rfl trivial ?_
          refine a_mask [true, true, true, true, true, false, true] ?_
          exact hK23 v25 v26 v27 (1 : Int) h
        · refine ite_elim h (fun hc h => ?_) (fun hc h => ?_)
          · refine a_run (md qX5_cell_ok) hz 2 [0] (pc' := 59) (lv' := [some (.inr 71), some (.inl x1), some (.inl x2), some (.inl v5), some (.inl v6), some (.inl v7), some (.inl v8)]) (st' := []) (M' := M) (P := (¬ ¬ v7 = 0) ∧ True) rfl ⟨fun h9 => h9 hc, trivial⟩ ?_
            refine jn_elim h (fun (K32 : Int → Int → Int → Option (Int)) => ∀ (v29 : Int), ∀ (v30 : Int), ∀ (v31 : Int), OK (K32 v29 v30 v31) (fun r2 => Q (some r2) M) → Aw z 93 [some (.inr 71), some (.inl x1), some (.inl x2), some (.inl v29), some (.inl v30), none, some (.inl v31)] [] M) (fun v29 v30 v31 h => ?_) (fun K32 hK32 h => ?_)
            · refine a_run (md qX5_cell_ok) hz 1 [] (pc' := 94) (lv' := [some (.inr 71), some (.inl x1), some (.inl x2), some (.inl v29), some (.inl v30), none, some (.inl v31)]) (st' := [.inl (0 : Int)]) (M' := M) (P := True) rfl trivial ?_
              refine a_mask [true, true, true, true, true, false, true] ?_
              exact hK23 v29 v30 v31 (0 : Int) h
            · refine a_run (md qX5_cell_ok) hz 3 [] (pc' := 64) (lv' := [some (.inr 71), some (.inl x1), some (.inl x2), some (.inl v5), some (.inl v6), some (.inl v7), some (.inl v8)]) (st' := [.inl v8, .inl v6, .inr 71]) (M' := M) (P := True) rfl trivial ?_
              obtain ⟨r33, hr, h⟩ := cal_elim h
              refine a_fV (as := [.inl v6, .inl v8]) (a := 71) (st := []) (mX5_spotX z.1 hr) (md qX5_cell_ok) qX5_spotX_ok hz lkX5_102 rfl 2 0 (by decide +kernel) rfl rfl rfl rfl ?_
              show Aw z 67 [some (.inr 71), some (.inl x1), some (.inl x2), some (.inl v5), some (.inl v6), some (.inl v7), some (.inl v8)] [.inl r33] M
              refine ite_elim h (fun hc h => ?_) (fun hc h => ?_)
              · refine a_run (md qX5_cell_ok) hz 4 [0] (pc' := 74) (lv' := [some (.inr 71), some (.inl x1), some (.inl x2), some (.inl v5), some (.inl v6), some (.inl v7), some (.inl v8)]) (st' := []) (M' := M) (P := (¬ (8 : Int) = 0 ∧ ¬ (8 : Int) = -1) ∧ (¬ ¬ (r33.tdiv (8 : Int)) = x1) ∧ True) rfl ⟨by decide, fun h9 => h9 hc, trivial⟩ ?_
                refine a_run (md qX5_cell_ok) hz 3 [] (pc' := 79) (lv' := [some (.inr 71), some (.inl x1), some (.inl x2), some (.inl v5), some (.inl v6), some (.inl v7), some (.inl v8)]) (st' := [.inl v8, .inl v6, .inr 71]) (M' := M) (P := True) rfl trivial ?_
                obtain ⟨r34, hr, h⟩ := cal_elim h
                refine a_fV (as := [.inl v6, .inl v8]) (a := 71) (st := []) (mX5_spotY z.1 hr) (md qX5_cell_ok) qX5_spotY_ok hz lkX5_105 rfl 2 0 (by decide +kernel) rfl rfl rfl rfl ?_
                show Aw z 82 [some (.inr 71), some (.inl x1), some (.inl x2), some (.inl v5), some (.inl v6), some (.inl v7), some (.inl v8)] [.inl r34] M
                refine ite_elim h (fun hc h => ?_) (fun hc h => ?_)
                · refine a_run (md qX5_cell_ok) hz 4 [0] (pc' := 89) (lv' := [some (.inr 71), some (.inl x1), some (.inl x2), some (.inl v5), some (.inl v6), some (.inl v7), some (.inl v8)]) (st' := []) (M' := M) (P := (¬ (8 : Int) = 0 ∧ ¬ (8 : Int) = -1) ∧ (¬ ¬ (r34.tdiv (8 : Int)) = x2) ∧ True) rfl ⟨by decide, fun h9 => h9 hc, trivial⟩ ?_
                  refine a_mask [true, true, true, true, true, false, true] ?_
                  exact hK28 v5 v6 v8 h
                · refine a_run (md qX5_cell_ok) hz 4 [1] (pc' := 93) (lv' := [some (.inr 71), some (.inl x1), some (.inl x2), some (.inl v5), some (.inl v6), some (.inl v7), some (.inl v8)]) (st' := []) (M' := M) (P := (¬ (8 : Int) = 0 ∧ ¬ (8 : Int) = -1) ∧ (¬ (r34.tdiv (8 : Int)) = x2) ∧ True) rfl ⟨by decide, hc, trivial⟩ ?_
                  refine a_mask [true, true, true, true, true, false, true] ?_
                  exact hK32 v5 v6 v8 h
              · refine a_run (md qX5_cell_ok) hz 4 [1] (pc' := 93) (lv' := [some (.inr 71), some (.inl x1), some (.inl x2), some (.inl v5), some (.inl v6), some (.inl v7), some (.inl v8)]) (st' := []) (M' := M) (P := (¬ (8 : Int) = 0 ∧ ¬ (8 : Int) = -1) ∧ (¬ (r33.tdiv (8 : Int)) = x1) ∧ True) rfl ⟨by decide, hc, trivial⟩ ?_
                refine a_mask [true, true, true, true, true, false, true] ?_
                exact hK32 v5 v6 v8 h
          · refine a_run (md qX5_cell_ok) hz 2 [1] (pc' := 89) (lv' := [some (.inr 71), some (.inl x1), some (.inl x2), some (.inl v5), some (.inl v6), some (.inl v7), some (.inl v8)]) (st' := []) (M' := M) (P := (¬ v7 = 0) ∧ True) rfl ⟨hc, trivial⟩ ?_
            refine a_mask [true, true, true, true, true, false, true] ?_
            exact hK28 v5 v6 v8 h
set_option maxRecDepth 100000 in
theorem mX5_cell_L28 {z : Zx} (hz : Cx qX5_cell z) {Q : Option Int → Mm → Prop} (hR : Rt Q z) {x1 : Int} {x2 : Int} {M : Mm} : ∀ (n : Nat) (v3 : Int) (v4 : Int), OK (fX5_cell_L28 x1 x2 M n v3 v4) (fun r2 => Q (some r2) M) → Aw z 28 [some (.inr 71), some (.inl x1), some (.inl x2), some (.inl v3), some (.inl v4), none, none] [] M := by
  intro n
  induction n with
  | zero =>
    intro v3 v4 h
    exact (show False from h).elim
  | succ n ih =>
    intro v3 v4 h
    unfold fX5_cell_L28 at h
    refine ite_elim h (fun hc h => ?_) (fun hc h => ?_)
    · refine a_run (md qX5_cell_ok) hz 4 [1] (pc' := 121) (lv' := [some (.inr 71), some (.inl x1), some (.inl x2), some (.inl v3), some (.inl v4), none, none]) (st' := []) (M' := M) (P := ((M 71 6) ≤ v4) ∧ True) rfl ⟨hc, trivial⟩ ?_
      refine a_run (md qX5_cell_ok) hz 1 [] (pc' := 122) (lv' := [some (.inr 71), some (.inl x1), some (.inl x2), some (.inl v3), some (.inl v4), none, none]) (st' := [.inl v3]) (M' := M) (P := True) rfl trivial ?_
      exact a_ri (md qX5_cell_ok) hz hR rfl (Or.inl rfl) h
    · refine a_run (md qX5_cell_ok) hz 4 [0] (pc' := 37) (lv' := [some (.inr 71), some (.inl x1), some (.inl x2), some (.inl v3), some (.inl v4), none, none]) (st' := []) (M' := M) (P := (¬ ((M 71 6) ≤ v4)) ∧ True) rfl ⟨hc, trivial⟩ ?_
      refine a_run (md qX5_cell_ok) hz 4 [] (pc' := 43) (lv' := [some (.inr 71), some (.inl x1), some (.inl x2), some (.inl v3), some (.inl v4), some (.inl (0 : Int)), some (.inl (0 : Int))]) (st' := []) (M' := M) (P := True) rfl trivial ?_
      refine a_mask [true, true, true, true, true, true, true] ?_
      refine mX5_cell_L43 hz hR (fun v9 v10 v11 h => ?_) 1000 v3 v4 (0 : Int) (0 : Int) h
      · refine jn_elim h (fun (K15 : Int → Int → Int → Option (Int)) => ∀ (v12 : Int), ∀ (w13 : Int), ∀ (w14 : Int), OK (K15 v12 w13 w14) (fun r2 => Q (some r2) M) → Aw z 113 [some (.inr 71), some (.inl x1), some (.inl x2), none, some (.inl v12), none, none] [.inl w13, .inl w14] M) (fun v12 w13 w14 h => ?_) (fun K15 hK15 h => ?_)
        · obtain ⟨⟨h16, h17⟩, h⟩ := gd_elim h
          refine a_run (md qX5_cell_ok) hz 4 [] (pc' := 28) (lv' := [some (.inr 71), some (.inl x1), some (.inl x2), some (.inl (w14 + w13)), some (.inl (v12 + (1 : Int))), none, none]) (st' := []) (M' := M) (P := (inR (w14 + w13)) ∧ (inR (v12 + (1 : Int))) ∧ True) rfl ⟨h16, h17, trivial⟩ ?_
          refine a_mask [true, true, true, true, true, false, false] ?_
          exact ih (w14 + w13) (v12 + (1 : Int)) h
        · refine ite_elim h (fun hc h => ?_) (fun hc h => ?_)
          · refine a_run (md qX5_cell_ok) hz 3 [1] (pc' := 112) (lv' := [some (.inr 71), some (.inl x1), some (.inl x2), some (.inl v9), some (.inl v10), some (.inl v11), none]) (st' := [.inl v9]) (M' := M) (P := (v11 = 0) ∧ True) rfl ⟨hc, trivial⟩ ?_
            refine a_run (md qX5_cell_ok) hz 1 [] (pc' := 113) (lv' := [some (.inr 71), some (.inl x1), some (.inl x2), some (.inl v9), some (.inl v10), some (.inl v11), none]) (st' := [.inl (0 : Int), .inl v9]) (M' := M) (P := True) rfl trivial ?_
            refine a_mask [true, true, true, false, true, false, false] ?_
            exact hK15 v10 (0 : Int) v9 h
          · refine a_run (md qX5_cell_ok) hz 3 [0] (pc' := 108) (lv' := [some (.inr 71), some (.inl x1), some (.inl x2), some (.inl v9), some (.inl v10), some (.inl v11), none]) (st' := [.inl v9]) (M' := M) (P := (¬ (v11 = 0)) ∧ True) rfl ⟨hc, trivial⟩ ?_
            refine a_run (md qX5_cell_ok) hz 2 [] (pc' := 113) (lv' := [some (.inr 71), some (.inl x1), some (.inl x2), some (.inl v9), some (.inl v10), some (.inl v11), none]) (st' := [.inl (1 : Int), .inl v9]) (M' := M) (P := True) rfl trivial ?_
            refine a_mask [true, true, true, false, true, false, false] ?_
            exact hK15 v10 (1 : Int) v9 h
set_option maxRecDepth 100000 in
theorem mX5_cell (g : Gx) {M : Mm} {x1 : Int} {x2 : Int} {r : Int} (h : fX5_cell M x1 x2 = some r) : Ct g qX5_cell [.inr 71, .inl x1, .inl x2] M (fun r' M' => r' = some r ∧ M' = M) := by
  refine c_ofP h qX5_cell_ok (Nat.le_of_ble_eq_true rfl) (fun z hz Q hR h => ?_)
  unfold fX5_cell at h
  show Aw z 0 [some (.inr 71), some (.inl x1), some (.inl x2), none, none, none, none] [] M
  refine a_run (md qX5_cell_ok) hz 3 [] (pc' := 4) (lv' := [some (.inr 71), some (.inl x1), some (.inl x2), none, none, none, none]) (st' := [.inl (7 : Int), .inl (0 : Int), .inl x1]) (M' := M) (P := True) rfl trivial ?_
  obtain ⟨r1, hr, h⟩ := cal_elim h
  refine a_fS (as := [.inl x1, .inl (0 : Int), .inl (7 : Int)]) (st := []) (mX5_in z.1 hr) (md qX5_cell_ok) qX5_in_ok hz lkX5_76 rfl 3 0 (by decide +kernel) rfl rfl ?_
  show Aw z 7 [some (.inr 71), some (.inl x1), some (.inl x2), none, none, none, none] [.inl r1] M
  refine ite_elim h (fun hc h => ?_) (fun hc h => ?_)
  · refine a_run (md qX5_cell_ok) hz 1 [1] (pc' := 20) (lv' := [some (.inr 71), some (.inl x1), some (.inl x2), none, none, none, none]) (st' := []) (M' := M) (P := (r1 = 0) ∧ True) rfl ⟨hc, trivial⟩ ?_
    refine a_run (md qX5_cell_ok) hz 1 [] (pc' := 22) (lv' := [some (.inr 71), some (.inl x1), some (.inl x2), none, none, none, none]) (st' := [.inl (-2 : Int)]) (M' := M) (P := True) rfl trivial ?_
    exact a_ri (md qX5_cell_ok) hz hR rfl (Or.inl rfl) h
  · refine a_run (md qX5_cell_ok) hz 1 [0] (pc' := 10) (lv' := [some (.inr 71), some (.inl x1), some (.inl x2), none, none, none, none]) (st' := []) (M' := M) (P := (¬ (r1 = 0)) ∧ True) rfl ⟨hc, trivial⟩ ?_
    refine a_run (md qX5_cell_ok) hz 3 [] (pc' := 14) (lv' := [some (.inr 71), some (.inl x1), some (.inl x2), none, none, none, none]) (st' := [.inl (7 : Int), .inl (0 : Int), .inl x2]) (M' := M) (P := True) rfl trivial ?_
    obtain ⟨r2, hr, h⟩ := cal_elim h
    refine a_fS (as := [.inl x2, .inl (0 : Int), .inl (7 : Int)]) (st := []) (mX5_in z.1 hr) (md qX5_cell_ok) qX5_in_ok hz lkX5_76 rfl 3 0 (by decide +kernel) rfl rfl ?_
    show Aw z 17 [some (.inr 71), some (.inl x1), some (.inl x2), none, none, none, none] [.inl r2] M
    refine ite_elim h (fun hc h => ?_) (fun hc h => ?_)
    · refine a_run (md qX5_cell_ok) hz 1 [0] (pc' := 20) (lv' := [some (.inr 71), some (.inl x1), some (.inl x2), none, none, none, none]) (st' := []) (M' := M) (P := (¬ ¬ r2 = 0) ∧ True) rfl ⟨fun h9 => h9 hc, trivial⟩ ?_
      refine a_run (md qX5_cell_ok) hz 1 [] (pc' := 22) (lv' := [some (.inr 71), some (.inl x1), some (.inl x2), none, none, none, none]) (st' := [.inl (-2 : Int)]) (M' := M) (P := True) rfl trivial ?_
      exact a_ri (md qX5_cell_ok) hz hR rfl (Or.inl rfl) h
    · refine a_run (md qX5_cell_ok) hz 1 [1] (pc' := 23) (lv' := [some (.inr 71), some (.inl x1), some (.inl x2), none, none, none, none]) (st' := []) (M' := M) (P := (¬ r2 = 0) ∧ True) rfl ⟨hc, trivial⟩ ?_
      refine a_run (md qX5_cell_ok) hz 4 [] (pc' := 28) (lv' := [some (.inr 71), some (.inl x1), some (.inl x2), some (.inl (0 : Int)), some (.inl (0 : Int)), none, none]) (st' := []) (M' := M) (P := True) rfl trivial ?_
      refine a_mask [true, true, true, true, true, false, false] ?_
      refine mX5_cell_L28 hz hR  1000 (0 : Int) (0 : Int) h
def fX5_layFar_L153 (k235 : Int → Int → Mm → Option (Mm)) : Nat → Int → Int → Int → Mm → Option (Mm)
  | 0, _, _, _, _ => none
  | n + 1, v15, v16, v17, M18 => if (M18 71 2) ≤ v17 then k235 v15 v16 M18 else jn (fun (v23 : Int) (v24 : Int) (v25 : Int) (w26 : Int) (w27 : Int) (M28 : Mm) => gd ((0 ≤ w27 ∧ w27 < 144)) (bnd (up M28 80 w27.toNat w26) (fun (M30 : Mm) => gd ((inR (v25 + (1 : Int)))) (fX5_layFar_L153 k235 n v23 v24 (v25 + (1 : Int)) M30)))) (fun (K29 : Int → Int → Int → Int → Int → Mm → Option (Mm)) => gd ((inR ((12 : Int) * v16)) ∧ (inR (((12 : Int) * v16) + v15)) ∧ (0 ≤ (((12 : Int) * v16) + v15) ∧ (((12 : Int) * v16) + v15) < 144) ∧ (inR ((12 : Int) * v15)) ∧ (inR (((12 : Int) * v15) + v17)) ∧ (0 ≤ (((12 : Int) * v15) + v17) ∧ (((12 : Int) * v15) + v17) < 144) ∧ (inR ((M18 80 (((12 : Int) * v16) + v15).toNat) + (M18 80 (((12 : Int) * v15) + v17).toNat)))) (bnd ((M18 80 (((12 : Int) * v16) + v15).toNat) + (M18 80 (((12 : Int) * v15) + v17).toNat)) (fun (t33 : Int) => gd ((inR ((12 : Int) * v16)) ∧ (inR (((12 : Int) * v16) + v17)) ∧ (inR ((12 : Int) * v16)) ∧ (inR (((12 : Int) * v16) + v17)) ∧ (0 ≤ (((12 : Int) * v16) + v17) ∧ (((12 : Int) * v16) + v17) < 144)) (if (M18 80 (((12 : Int) * v16) + v17).toNat) ≤ t33 then gd ((inR ((12 : Int) * v16)) ∧ (inR (((12 : Int) * v16) + v17)) ∧ (0 ≤ (((12 : Int) * v16) + v17) ∧ (((12 : Int) * v16) + v17) < 144)) (K29 v15 v16 v17 (M18 80 (((12 : Int) * v16) + v17).toNat) (((12 : Int) * v16) + v17) M18) else K29 v15 v16 v17 t33 (((12 : Int) * v16) + v17) M18))))
def fX5_layFar_L143 (k241 : Int → Mm → Option (Mm)) : Nat → Int → Int → Mm → Option (Mm)
  | 0, _, _, _ => none
  | n + 1, v9, v10, M11 => if (M11 71 2) ≤ v10 then k241 v9 M11 else fX5_layFar_L153 (fun (v19 : Int) (v20 : Int) (M21 : Mm) => gd ((inR (v20 + (1 : Int)))) (fX5_layFar_L143 k241 n v19 (v20 + (1 : Int)) M21)) 1000 v9 v10 (0 : Int) M11
def fX5_layFar_L133  : Nat → Int → Mm → Option (Mm)
  | 0, _, _ => none
  | n + 1, v7, M8 => if (M8 71 2) ≤ v7 then some M8 else fX5_layFar_L143 (fun (v12 : Int) (M13 : Mm) => gd ((inR (v12 + (1 : Int)))) (fX5_layFar_L133 n (v12 + (1 : Int)) M13)) 1000 v7 (0 : Int) M8
def fX5_layFar_L56 (k131 : Mm → Option (Mm)) : Nat → Int → Mm → Option (Mm)
  | 0, _, _ => none
  | n + 1, v4, M5 => if (M5 71 6) ≤ v4 then k131 M5 else jn (fun (v49 : Int) (M50 : Mm) => gd ((inR (v49 + (1 : Int)))) (fX5_layFar_L56 k131 n (v49 + (1 : Int)) M50)) (fun (K51 : Int → Mm → Option (Mm)) => gd ((0 ≤ v4 ∧ v4 < 20) ∧ (inR ((12 : Int) * (M5 74 v4.toNat))) ∧ (0 ≤ v4 ∧ v4 < 20) ∧ (inR (((12 : Int) * (M5 74 v4.toNat)) + (M5 75 v4.toNat)))) (cal (fX5_length M5 v4) (fun (r53 : Int) => gd ((0 ≤ (((12 : Int) * (M5 74 v4.toNat)) + (M5 75 v4.toNat)) ∧ (((12 : Int) * (M5 74 v4.toNat)) + (M5 75 v4.toNat)) < 144)) (bnd (up M5 80 (((12 : Int) * (M5 74 v4.toNat)) + (M5 75 v4.toNat)).toNat r53) (fun (M54 : Mm) => gd ((0 ≤ v4 ∧ v4 < 20)) (if (M54 76 v4.toNat) = 0 then gd ((0 ≤ v4 ∧ v4 < 20) ∧ (inR ((12 : Int) * (M54 75 v4.toNat))) ∧ (0 ≤ v4 ∧ v4 < 20) ∧ (inR (((12 : Int) * (M54 75 v4.toNat)) + (M54 74 v4.toNat)))) (cal (fX5_length M54 v4) (fun (r55 : Int) => gd ((0 ≤ (((12 : Int) * (M54 75 v4.toNat)) + (M54 74 v4.toNat)) ∧ (((12 : Int) * (M54 75 v4.toNat)) + (M54 74 v4.toNat)) < 144)) (bnd (up M54 80 (((12 : Int) * (M54 75 v4.toNat)) + (M54 74 v4.toNat)).toNat r55) (fun (M56 : Mm) => K51 v4 M56)))) else K51 v4 M54))))))
def fX5_layFar_L12 (k48 : Int → Mm → Option (Mm)) : Nat → Int → Int → Mm → Option (Mm)
  | 0, _, _, _ => none
  | n + 1, v68, v69, M70 => if (M70 71 2) ≤ v69 then k48 v68 M70 else jn (fun (v74 : Int) (v75 : Int) (w76 : Int) (w77 : Int) (M78 : Mm) => gd ((0 ≤ w77 ∧ w77 < 144)) (bnd (up M78 80 w77.toNat w76) (fun (M80 : Mm) => gd ((inR (v75 + (1 : Int)))) (fX5_layFar_L12 k48 n v74 (v75 + (1 : Int)) M80)))) (fun (K79 : Int → Int → Int → Int → Mm → Option (Mm)) => gd ((inR ((12 : Int) * v68)) ∧ (inR (((12 : Int) * v68) + v69))) (if v68 = v69 then K79 v68 v69 (0 : Int) (((12 : Int) * v68) + v69) M70 else K79 v68 v69 (1000000 : Int) (((12 : Int) * v68) + v69) M70))
def fX5_layFar_L2 (k54 : Mm → Option (Mm)) : Nat → Int → Mm → Option (Mm)
  | 0, _, _ => none
  | n + 1, v1, M2 => if (M2 71 2) ≤ v1 then k54 M2 else fX5_layFar_L12 (fun (v71 : Int) (M72 : Mm) => gd ((inR (v71 + (1 : Int)))) (fX5_layFar_L2 k54 n (v71 + (1 : Int)) M72)) 1000 v1 (0 : Int) M2
def fX5_layFar (M : Mm) : Option (Mm) := fX5_layFar_L2 (fun (M3 : Mm) => fX5_layFar_L56 (fun (M6 : Mm) => fX5_layFar_L133 1000 (0 : Int) M6) 1000 (0 : Int) M3) 1000 (0 : Int) M
set_option maxRecDepth 100000 in
theorem mX5_layFar_L153 {z : Zx} (hz : Cx qX5_layFar z) {Q : Option Int → Mm → Prop} (hR : Rt Q z) {k235 : Int → Int → Mm → Option (Mm)} (hk235 : ∀ (v19 : Int), ∀ (v20 : Int), ∀ (M21 : Mm), OK (k235 v19 v20 M21) (fun r2 => Q none r2) → Aw z 235 [some (.inr 71), some (.inl v19), some (.inl v20), none, none] [] M21) : ∀ (n : Nat) (v15 : Int) (v16 : Int) (v17 : Int) (M18 : Mm), OK (fX5_layFar_L153 k235 n v15 v16 v17 M18) (fun r2 => Q none r2) → Aw z 153 [some (.inr 71), some (.inl v15), some (.inl v16), some (.inl v17), none] [] M18 := by
  intro n
  induction n with
  | zero =>
    intro v15 v16 v17 M18 h
    exact (show False from h).elim
  | succ n ih =>
    intro v15 v16 v17 M18 h
    unfold fX5_layFar_L153 at h
    refine ite_elim h (fun hc h => ?_) (fun hc h => ?_)
    · refine a_run (md qX5_layFar_ok) hz 4 [1] (pc' := 235) (lv' := [some (.inr 71), some (.inl v15), some (.inl v16), some (.inl v17), none]) (st' := []) (M' := M18) (P := ((M18 71 2) ≤ v17) ∧ True) rfl ⟨hc, trivial⟩ ?_
      refine a_mask [true, true, true, false, false] ?_
      exact hk235 v15 v16 M18 h
    · refine a_run (md qX5_layFar_ok) hz 4 [0] (pc' := 161) (lv' := [some (.inr 71), some (.inl v15), some (.inl v16), some (.inl v17), none]) (st' := []) (M' := M18) (P := (¬ ((M18 71 2) ≤ v17)) ∧ True) rfl ⟨hc, trivial⟩ ?_
      refine jn_elim h (fun (K29 : Int → Int → Int → Int → Int → Mm → Option (Mm)) => ∀ (v23 : Int), ∀ (v24 : Int), ∀ (v25 : Int), ∀ (w26 : Int), ∀ (w27 : Int), ∀ (M28 : Mm), OK (K29 v23 v24 v25 w26 w27 M28) (fun r2 => Q none r2) → Aw z 228 [some (.inr 71), some (.inl v23), some (.inl v24), some (.inl v25), none] [.inl w26, .inl w27, .inr 80] M28) (fun v23 v24 v25 w26 w27 M28 h => ?_) (fun K29 hK29 h => ?_)
      · obtain ⟨h32, h⟩ := gd_elim h
        refine a_run (md qX5_layFar_ok) hz 1 [] (pc' := 229) (lv' := [some (.inr 71), some (.inl v23), some (.inl v24), some (.inl v25), none]) (st' := []) (M' := (up M28 80 w27.toNat w26)) (P := (0 ≤ w27 ∧ w27 < 144) ∧ True) rfl ⟨h32, trivial⟩ ?_
        refine bnd_elim (G := fun (M30 : Mm) => Aw z 229 [some (.inr 71), some (.inl v23), some (.inl v24), some (.inl v25), none] [] M30) h (fun M30 h => ?_)
        obtain ⟨h31, h⟩ := gd_elim h
        refine a_run (md qX5_layFar_ok) hz 2 [] (pc' := 153) (lv' := [some (.inr 71), some (.inl v23), some (.inl v24), some (.inl (v25 + (1 : Int))), none]) (st' := []) (M' := M30) (P := (inR (v25 + (1 : Int))) ∧ True) rfl ⟨h31, trivial⟩ ?_
        refine a_mask [true, true, true, true, false] ?_
        exact ih v23 v24 (v25 + (1 : Int)) M30 h
      · obtain ⟨⟨h42, h43, h44, h45, h46, h47, h48⟩, h⟩ := gd_elim h
        refine a_run (md qX5_layFar_ok) hz 18 [] (pc' := 186) (lv' := [some (.inr 71), some (.inl v15), some (.inl v16), some (.inl v17), some (.inl ((M18 80 (((12 : Int) * v16) + v15).toNat) + (M18 80 (((12 : Int) * v15) + v17).toNat)))]) (st' := []) (M' := M18) (P := (inR ((12 : Int) * v16)) ∧ (inR (((12 : Int) * v16) + v15)) ∧ (0 ≤ (((12 : Int) * v16) + v15) ∧ (((12 : Int) * v16) + v15) < 144) ∧ (inR ((12 : Int) * v15)) ∧ (inR (((12 : Int) * v15) + v17)) ∧ (0 ≤ (((12 : Int) * v15) + v17) ∧ (((12 : Int) * v15) + v17) < 144) ∧ (inR ((M18 80 (((12 : Int) * v16) + v15).toNat) + (M18 80 (((12 : Int) * v15) + v17).toNat))) ∧ True) rfl ⟨h42, h43, h44, h45, h46, h47, h48, trivial⟩ ?_
        refine bnd_elim (G := fun (t33 : Int) => Aw z 186 [some (.inr 71), some (.inl v15), some (.inl v16), some (.inl v17), some (.inl t33)] [] M18) h (fun t33 h => ?_)
        obtain ⟨⟨h37, h38, h39, h40, h41⟩, h⟩ := gd_elim h
        refine ite_elim h (fun hc h => ?_) (fun hc h => ?_)
        · refine a_run (md qX5_layFar_ok) hz 17 [1] (pc' := 217) (lv' := [some (.inr 71), some (.inl v15), some (.inl v16), some (.inl v17), some (.inl t33)]) (st' := [.inl (((12 : Int) * v16) + v17), .inr 80]) (M' := M18) (P := (inR ((12 : Int) * v16)) ∧ (inR (((12 : Int) * v16) + v17)) ∧ (inR ((12 : Int) * v16)) ∧ (inR (((12 : Int) * v16) + v17)) ∧ (0 ≤ (((12 : Int) * v16) + v17) ∧ (((12 : Int) * v16) + v17) < 144) ∧ ((M18 80 (((12 : Int) * v16) + v17).toNat) ≤ t33) ∧ True) rfl ⟨h37, h38, h39, h40, h41, hc, trivial⟩ ?_
          obtain ⟨⟨h34, h35, h36⟩, h⟩ := gd_elim h
          refine a_run (md qX5_layFar_ok) hz 8 [] (pc' := 228) (lv' := [some (.inr 71), some (.inl v15), some (.inl v16), some (.inl v17), some (.inl t33)]) (st' := [.inl (M18 80 (((12 : Int) * v16) + v17).toNat), .inl (((12 : Int) * v16) + v17), .inr 80]) (M' := M18) (P := (inR ((12 : Int) * v16)) ∧ (inR (((12 : Int) * v16) + v17)) ∧ (0 ≤ (((12 : Int) * v16) + v17) ∧ (((12 : Int) * v16) + v17) < 144) ∧ True) rfl ⟨h34, h35, h36, trivial⟩ ?_
          refine a_mask [true, true, true, true, false] ?_
          exact hK29 v15 v16 v17 (M18 80 (((12 : Int) * v16) + v17).toNat) (((12 : Int) * v16) + v17) M18 h
        · refine a_run (md qX5_layFar_ok) hz 17 [0] (pc' := 212) (lv' := [some (.inr 71), some (.inl v15), some (.inl v16), some (.inl v17), some (.inl t33)]) (st' := [.inl (((12 : Int) * v16) + v17), .inr 80]) (M' := M18) (P := (inR ((12 : Int) * v16)) ∧ (inR (((12 : Int) * v16) + v17)) ∧ (inR ((12 : Int) * v16)) ∧ (inR (((12 : Int) * v16) + v17)) ∧ (0 ≤ (((12 : Int) * v16) + v17) ∧ (((12 : Int) * v16) + v17) < 144) ∧ (¬ ((M18 80 (((12 : Int) * v16) + v17).toNat) ≤ t33)) ∧ True) rfl ⟨h37, h38, h39, h40, h41, hc, trivial⟩ ?_
          refine a_run (md qX5_layFar_ok) hz 2 [] (pc' := 228) (lv' := [some (.inr 71), some (.inl v15), some (.inl v16), some (.inl v17), some (.inl t33)]) (st' := [.inl t33, .inl (((12 : Int) * v16) + v17), .inr 80]) (M' := M18) (P := True) rfl trivial ?_
          refine a_mask [true, true, true, true, false] ?_
          exact hK29 v15 v16 v17 t33 (((12 : Int) * v16) + v17) M18 h
set_option maxRecDepth 100000 in
theorem mX5_layFar_L143 {z : Zx} (hz : Cx qX5_layFar z) {Q : Option Int → Mm → Prop} (hR : Rt Q z) {k241 : Int → Mm → Option (Mm)} (hk241 : ∀ (v12 : Int), ∀ (M13 : Mm), OK (k241 v12 M13) (fun r2 => Q none r2) → Aw z 241 [some (.inr 71), some (.inl v12), none, none, none] [] M13) : ∀ (n : Nat) (v9 : Int) (v10 : Int) (M11 : Mm), OK (fX5_layFar_L143 k241 n v9 v10 M11) (fun r2 => Q none r2) → Aw z 143 [some (.inr 71), some (.inl v9), some (.inl v10), none, none] [] M11 := by
  intro n
  induction n with
  | zero =>
    intro v9 v10 M11 h
    exact (show False from h).elim
  | succ n ih =>
    intro v9 v10 M11 h
    unfold fX5_layFar_L143 at h
    refine ite_elim h (fun hc h => ?_) (fun hc h => ?_)
    · refine a_run (md qX5_layFar_ok) hz 4 [1] (pc' := 241) (lv' := [some (.inr 71), some (.inl v9), some (.inl v10), none, none]) (st' := []) (M' := M11) (P := ((M11 71 2) ≤ v10) ∧ True) rfl ⟨hc, trivial⟩ ?_
      refine a_mask [true, true, false, false, false] ?_
      exact hk241 v9 M11 h
    · refine a_run (md qX5_layFar_ok) hz 4 [0] (pc' := 151) (lv' := [some (.inr 71), some (.inl v9), some (.inl v10), none, none]) (st' := []) (M' := M11) (P := (¬ ((M11 71 2) ≤ v10)) ∧ True) rfl ⟨hc, trivial⟩ ?_
      refine a_run (md qX5_layFar_ok) hz 2 [] (pc' := 153) (lv' := [some (.inr 71), some (.inl v9), some (.inl v10), some (.inl (0 : Int)), none]) (st' := []) (M' := M11) (P := True) rfl trivial ?_
      refine a_mask [true, true, true, true, false] ?_
      refine mX5_layFar_L153 hz hR (fun v19 v20 M21 h => ?_) 1000 v9 v10 (0 : Int) M11 h
      · obtain ⟨h22, h⟩ := gd_elim h
        refine a_run (md qX5_layFar_ok) hz 2 [] (pc' := 143) (lv' := [some (.inr 71), some (.inl v19), some (.inl (v20 + (1 : Int))), none, none]) (st' := []) (M' := M21) (P := (inR (v20 + (1 : Int))) ∧ True) rfl ⟨h22, trivial⟩ ?_
        refine a_mask [true, true, true, false, false] ?_
        exact ih v19 (v20 + (1 : Int)) M21 h
set_option maxRecDepth 100000 in
theorem mX5_layFar_L133 {z : Zx} (hz : Cx qX5_layFar z) {Q : Option Int → Mm → Prop} (hR : Rt Q z) : ∀ (n : Nat) (v7 : Int) (M8 : Mm), OK (fX5_layFar_L133 n v7 M8) (fun r2 => Q none r2) → Aw z 133 [some (.inr 71), some (.inl v7), none, none, none] [] M8 := by
  intro n
  induction n with
  | zero =>
    intro v7 M8 h
    exact (show False from h).elim
  | succ n ih =>
    intro v7 M8 h
    unfold fX5_layFar_L133 at h
    refine ite_elim h (fun hc h => ?_) (fun hc h => ?_)
    · refine a_run (md qX5_layFar_ok) hz 4 [1] (pc' := 247) (lv' := [some (.inr 71), some (.inl v7), none, none, none]) (st' := []) (M' := M8) (P := ((M8 71 2) ≤ v7) ∧ True) rfl ⟨hc, trivial⟩ ?_
      exact a_rv (md qX5_layFar_ok) hz hR rfl rfl h
    · refine a_run (md qX5_layFar_ok) hz 4 [0] (pc' := 141) (lv' := [some (.inr 71), some (.inl v7), none, none, none]) (st' := []) (M' := M8) (P := (¬ ((M8 71 2) ≤ v7)) ∧ True) rfl ⟨hc, trivial⟩ ?_
      refine a_run (md qX5_layFar_ok) hz 2 [] (pc' := 143) (lv' := [some (.inr 71), some (.inl v7), some (.inl (0 : Int)), none, none]) (st' := []) (M' := M8) (P := True) rfl trivial ?_
      refine a_mask [true, true, true, false, false] ?_
      refine mX5_layFar_L143 hz hR (fun v12 M13 h => ?_) 1000 v7 (0 : Int) M8 h
      · obtain ⟨h14, h⟩ := gd_elim h
        refine a_run (md qX5_layFar_ok) hz 2 [] (pc' := 133) (lv' := [some (.inr 71), some (.inl (v12 + (1 : Int))), none, none, none]) (st' := []) (M' := M13) (P := (inR (v12 + (1 : Int))) ∧ True) rfl ⟨h14, trivial⟩ ?_
        refine a_mask [true, true, false, false, false] ?_
        exact ih (v12 + (1 : Int)) M13 h
set_option maxRecDepth 100000 in
theorem mX5_layFar_L56 {z : Zx} (hz : Cx qX5_layFar z) {Q : Option Int → Mm → Prop} (hR : Rt Q z) {k131 : Mm → Option (Mm)} (hk131 : ∀ (M6 : Mm), OK (k131 M6) (fun r2 => Q none r2) → Aw z 131 [some (.inr 71), none, none, none, none] [] M6) : ∀ (n : Nat) (v4 : Int) (M5 : Mm), OK (fX5_layFar_L56 k131 n v4 M5) (fun r2 => Q none r2) → Aw z 56 [some (.inr 71), some (.inl v4), none, none, none] [] M5 := by
  intro n
  induction n with
  | zero =>
    intro v4 M5 h
    exact (show False from h).elim
  | succ n ih =>
    intro v4 M5 h
    unfold fX5_layFar_L56 at h
    refine ite_elim h (fun hc h => ?_) (fun hc h => ?_)
    · refine a_run (md qX5_layFar_ok) hz 4 [1] (pc' := 131) (lv' := [some (.inr 71), some (.inl v4), none, none, none]) (st' := []) (M' := M5) (P := ((M5 71 6) ≤ v4) ∧ True) rfl ⟨hc, trivial⟩ ?_
      refine a_mask [true, false, false, false, false] ?_
      exact hk131 M5 h
    · refine a_run (md qX5_layFar_ok) hz 4 [0] (pc' := 64) (lv' := [some (.inr 71), some (.inl v4), none, none, none]) (st' := []) (M' := M5) (P := (¬ ((M5 71 6) ≤ v4)) ∧ True) rfl ⟨hc, trivial⟩ ?_
      refine jn_elim h (fun (K51 : Int → Mm → Option (Mm)) => ∀ (v49 : Int), ∀ (M50 : Mm), OK (K51 v49 M50) (fun r2 => Q none r2) → Aw z 125 [some (.inr 71), some (.inl v49), none, none, none] [] M50) (fun v49 M50 h => ?_) (fun K51 hK51 h => ?_)
      · obtain ⟨h52, h⟩ := gd_elim h
        refine a_run (md qX5_layFar_ok) hz 2 [] (pc' := 56) (lv' := [some (.inr 71), some (.inl (v49 + (1 : Int))), none, none, none]) (st' := []) (M' := M50) (P := (inR (v49 + (1 : Int))) ∧ True) rfl ⟨h52, trivial⟩ ?_
        refine a_mask [true, true, false, false, false] ?_
        exact ih (v49 + (1 : Int)) M50 h
      · obtain ⟨⟨h64, h65, h66, h67⟩, h⟩ := gd_elim h
        refine a_run (md qX5_layFar_ok) hz 15 [] (pc' := 86) (lv' := [some (.inr 71), some (.inl v4), none, none, none]) (st' := [.inl v4, .inr 71, .inl (((12 : Int) * (M5 74 v4.toNat)) + (M5 75 v4.toNat)), .inr 80]) (M' := M5) (P := (0 ≤ v4 ∧ v4 < 20) ∧ (inR ((12 : Int) * (M5 74 v4.toNat))) ∧ (0 ≤ v4 ∧ v4 < 20) ∧ (inR (((12 : Int) * (M5 74 v4.toNat)) + (M5 75 v4.toNat))) ∧ True) rfl ⟨h64, h65, h66, h67, trivial⟩ ?_
        obtain ⟨r53, hr, h⟩ := cal_elim h
        refine a_fV (as := [.inl v4]) (a := 71) (st := [.inl (((12 : Int) * (M5 74 v4.toNat)) + (M5 75 v4.toNat)), .inr 80]) (mX5_length z.1 hr) (md qX5_layFar_ok) qX5_length_ok hz lkX5_98 rfl 1 2 (by decide +kernel) rfl rfl rfl rfl ?_
        show Aw z 89 [some (.inr 71), some (.inl v4), none, none, none] [.inl r53, .inl (((12 : Int) * (M5 74 v4.toNat)) + (M5 75 v4.toNat)), .inr 80] M5
        obtain ⟨h63, h⟩ := gd_elim h
        refine a_run (md qX5_layFar_ok) hz 1 [] (pc' := 90) (lv' := [some (.inr 71), some (.inl v4), none, none, none]) (st' := []) (M' := (up M5 80 (((12 : Int) * (M5 74 v4.toNat)) + (M5 75 v4.toNat)).toNat r53)) (P := (0 ≤ (((12 : Int) * (M5 74 v4.toNat)) + (M5 75 v4.toNat)) ∧ (((12 : Int) * (M5 74 v4.toNat)) + (M5 75 v4.toNat)) < 144) ∧ True) rfl ⟨h63, trivial⟩ ?_
        refine bnd_elim (G := fun (M54 : Mm) => Aw z 90 [some (.inr 71), some (.inl v4), none, none, none] [] M54) h (fun M54 h => ?_)
        obtain ⟨h62, h⟩ := gd_elim h
        refine ite_elim h (fun hc h => ?_) (fun hc h => ?_)
        · refine a_run (md qX5_layFar_ok) hz 5 [0] (pc' := 99) (lv' := [some (.inr 71), some (.inl v4), none, none, none]) (st' := []) (M' := M54) (P := (0 ≤ v4 ∧ v4 < 20) ∧ (¬ ¬ (M54 76 v4.toNat) = 0) ∧ True) rfl ⟨h62, fun h9 => h9 hc, trivial⟩ ?_
          obtain ⟨⟨h58, h59, h60, h61⟩, h⟩ := gd_elim h
          refine a_run (md qX5_layFar_ok) hz 15 [] (pc' := 121) (lv' := [some (.inr 71), some (.inl v4), none, none, none]) (st' := [.inl v4, .inr 71, .inl (((12 : Int) * (M54 75 v4.toNat)) + (M54 74 v4.toNat)), .inr 80]) (M' := M54) (P := (0 ≤ v4 ∧ v4 < 20) ∧ (inR ((12 : Int) * (M54 75 v4.toNat))) ∧ (0 ≤ v4 ∧ v4 < 20) ∧ (inR (((12 : Int) * (M54 75 v4.toNat)) + (M54 74 v4.toNat))) ∧ True) rfl ⟨h58, h59, h60, h61, trivial⟩ ?_
          obtain ⟨r55, hr, h⟩ := cal_elim h
          refine a_fV (as := [.inl v4]) (a := 71) (st := [.inl (((12 : Int) * (M54 75 v4.toNat)) + (M54 74 v4.toNat)), .inr 80]) (mX5_length z.1 hr) (md qX5_layFar_ok) qX5_length_ok hz lkX5_98 rfl 1 2 (by decide +kernel) rfl rfl rfl rfl ?_
          show Aw z 124 [some (.inr 71), some (.inl v4), none, none, none] [.inl r55, .inl (((12 : Int) * (M54 75 v4.toNat)) + (M54 74 v4.toNat)), .inr 80] M54
          obtain ⟨h57, h⟩ := gd_elim h
          refine a_run (md qX5_layFar_ok) hz 1 [] (pc' := 125) (lv' := [some (.inr 71), some (.inl v4), none, none, none]) (st' := []) (M' := (up M54 80 (((12 : Int) * (M54 75 v4.toNat)) + (M54 74 v4.toNat)).toNat r55)) (P := (0 ≤ (((12 : Int) * (M54 75 v4.toNat)) + (M54 74 v4.toNat)) ∧ (((12 : Int) * (M54 75 v4.toNat)) + (M54 74 v4.toNat)) < 144) ∧ True) rfl ⟨h57, trivial⟩ ?_
          refine bnd_elim (G := fun (M56 : Mm) => Aw z 125 [some (.inr 71), some (.inl v4), none, none, none] [] M56) h (fun M56 h => ?_)
          refine a_mask [true, true, false, false, false] ?_
          exact hK51 v4 M56 h
        · refine a_run (md qX5_layFar_ok) hz 5 [1] (pc' := 125) (lv' := [some (.inr 71), some (.inl v4), none, none, none]) (st' := []) (M' := M54) (P := (0 ≤ v4 ∧ v4 < 20) ∧ (¬ (M54 76 v4.toNat) = 0) ∧ True) rfl ⟨h62, hc, trivial⟩ ?_
          refine a_mask [true, true, false, false, false] ?_
          exact hK51 v4 M54 h
set_option maxRecDepth 100000 in
theorem mX5_layFar_L12 {z : Zx} (hz : Cx qX5_layFar z) {Q : Option Int → Mm → Prop} (hR : Rt Q z) {k48 : Int → Mm → Option (Mm)} (hk48 : ∀ (v71 : Int), ∀ (M72 : Mm), OK (k48 v71 M72) (fun r2 => Q none r2) → Aw z 48 [some (.inr 71), some (.inl v71), none, none, none] [] M72) : ∀ (n : Nat) (v68 : Int) (v69 : Int) (M70 : Mm), OK (fX5_layFar_L12 k48 n v68 v69 M70) (fun r2 => Q none r2) → Aw z 12 [some (.inr 71), some (.inl v68), some (.inl v69), none, none] [] M70 := by
  intro n
  induction n with
  | zero =>
    intro v68 v69 M70 h
    exact (show False from h).elim
  | succ n ih =>
    intro v68 v69 M70 h
    unfold fX5_layFar_L12 at h
    refine ite_elim h (fun hc h => ?_) (fun hc h => ?_)
    · refine a_run (md qX5_layFar_ok) hz 4 [1] (pc' := 48) (lv' := [some (.inr 71), some (.inl v68), some (.inl v69), none, none]) (st' := []) (M' := M70) (P := ((M70 71 2) ≤ v69) ∧ True) rfl ⟨hc, trivial⟩ ?_
      refine a_mask [true, true, false, false, false] ?_
      exact hk48 v68 M70 h
    · refine a_run (md qX5_layFar_ok) hz 4 [0] (pc' := 20) (lv' := [some (.inr 71), some (.inl v68), some (.inl v69), none, none]) (st' := []) (M' := M70) (P := (¬ ((M70 71 2) ≤ v69)) ∧ True) rfl ⟨hc, trivial⟩ ?_
      refine jn_elim h (fun (K79 : Int → Int → Int → Int → Mm → Option (Mm)) => ∀ (v74 : Int), ∀ (v75 : Int), ∀ (w76 : Int), ∀ (w77 : Int), ∀ (M78 : Mm), OK (K79 v74 v75 w76 w77 M78) (fun r2 => Q none r2) → Aw z 41 [some (.inr 71), some (.inl v74), some (.inl v75), none, none] [.inl w76, .inl w77, .inr 80] M78) (fun v74 v75 w76 w77 M78 h => ?_) (fun K79 hK79 h => ?_)
      · obtain ⟨h82, h⟩ := gd_elim h
        refine a_run (md qX5_layFar_ok) hz 1 [] (pc' := 42) (lv' := [some (.inr 71), some (.inl v74), some (.inl v75), none, none]) (st' := []) (M' := (up M78 80 w77.toNat w76)) (P := (0 ≤ w77 ∧ w77 < 144) ∧ True) rfl ⟨h82, trivial⟩ ?_
        refine bnd_elim (G := fun (M80 : Mm) => Aw z 42 [some (.inr 71), some (.inl v74), some (.inl v75), none, none] [] M80) h (fun M80 h => ?_)
        obtain ⟨h81, h⟩ := gd_elim h
        refine a_run (md qX5_layFar_ok) hz 2 [] (pc' := 12) (lv' := [some (.inr 71), some (.inl v74), some (.inl (v75 + (1 : Int))), none, none]) (st' := []) (M' := M80) (P := (inR (v75 + (1 : Int))) ∧ True) rfl ⟨h81, trivial⟩ ?_
        refine a_mask [true, true, true, false, false] ?_
        exact ih v74 (v75 + (1 : Int)) M80 h
      · obtain ⟨⟨h83, h84⟩, h⟩ := gd_elim h
        refine ite_elim h (fun hc h => ?_) (fun hc h => ?_)
        · refine a_run (md qX5_layFar_ok) hz 10 [0] (pc' := 35) (lv' := [some (.inr 71), some (.inl v68), some (.inl v69), none, none]) (st' := [.inl (((12 : Int) * v68) + v69), .inr 80]) (M' := M70) (P := (inR ((12 : Int) * v68)) ∧ (inR (((12 : Int) * v68) + v69)) ∧ (¬ ¬ v68 = v69) ∧ True) rfl ⟨h83, h84, fun h9 => h9 hc, trivial⟩ ?_
          refine a_run (md qX5_layFar_ok) hz 2 [] (pc' := 41) (lv' := [some (.inr 71), some (.inl v68), some (.inl v69), none, none]) (st' := [.inl (0 : Int), .inl (((12 : Int) * v68) + v69), .inr 80]) (M' := M70) (P := True) rfl trivial ?_
          refine a_mask [true, true, true, false, false] ?_
          exact hK79 v68 v69 (0 : Int) (((12 : Int) * v68) + v69) M70 h
        · refine a_run (md qX5_layFar_ok) hz 10 [1] (pc' := 39) (lv' := [some (.inr 71), some (.inl v68), some (.inl v69), none, none]) (st' := [.inl (((12 : Int) * v68) + v69), .inr 80]) (M' := M70) (P := (inR ((12 : Int) * v68)) ∧ (inR (((12 : Int) * v68) + v69)) ∧ (¬ v68 = v69) ∧ True) rfl ⟨h83, h84, hc, trivial⟩ ?_
          refine a_run (md qX5_layFar_ok) hz 1 [] (pc' := 41) (lv' := [some (.inr 71), some (.inl v68), some (.inl v69), none, none]) (st' := [.inl (1000000 : Int), .inl (((12 : Int) * v68) + v69), .inr 80]) (M' := M70) (P := True) rfl trivial ?_
          refine a_mask [true, true, true, false, false] ?_
          exact hK79 v68 v69 (1000000 : Int) (((12 : Int) * v68) + v69) M70 h
set_option maxRecDepth 100000 in
theorem mX5_layFar_L2 {z : Zx} (hz : Cx qX5_layFar z) {Q : Option Int → Mm → Prop} (hR : Rt Q z) {k54 : Mm → Option (Mm)} (hk54 : ∀ (M3 : Mm), OK (k54 M3) (fun r2 => Q none r2) → Aw z 54 [some (.inr 71), none, none, none, none] [] M3) : ∀ (n : Nat) (v1 : Int) (M2 : Mm), OK (fX5_layFar_L2 k54 n v1 M2) (fun r2 => Q none r2) → Aw z 2 [some (.inr 71), some (.inl v1), none, none, none] [] M2 := by
  intro n
  induction n with
  | zero =>
    intro v1 M2 h
    exact (show False from h).elim
  | succ n ih =>
    intro v1 M2 h
    unfold fX5_layFar_L2 at h
    refine ite_elim h (fun hc h => ?_) (fun hc h => ?_)
    · refine a_run (md qX5_layFar_ok) hz 4 [1] (pc' := 54) (lv' := [some (.inr 71), some (.inl v1), none, none, none]) (st' := []) (M' := M2) (P := ((M2 71 2) ≤ v1) ∧ True) rfl ⟨hc, trivial⟩ ?_
      refine a_mask [true, false, false, false, false] ?_
      exact hk54 M2 h
    · refine a_run (md qX5_layFar_ok) hz 4 [0] (pc' := 10) (lv' := [some (.inr 71), some (.inl v1), none, none, none]) (st' := []) (M' := M2) (P := (¬ ((M2 71 2) ≤ v1)) ∧ True) rfl ⟨hc, trivial⟩ ?_
      refine a_run (md qX5_layFar_ok) hz 2 [] (pc' := 12) (lv' := [some (.inr 71), some (.inl v1), some (.inl (0 : Int)), none, none]) (st' := []) (M' := M2) (P := True) rfl trivial ?_
      refine a_mask [true, true, true, false, false] ?_
      refine mX5_layFar_L12 hz hR (fun v71 M72 h => ?_) 1000 v1 (0 : Int) M2 h
      · obtain ⟨h73, h⟩ := gd_elim h
        refine a_run (md qX5_layFar_ok) hz 2 [] (pc' := 2) (lv' := [some (.inr 71), some (.inl (v71 + (1 : Int))), none, none, none]) (st' := []) (M' := M72) (P := (inR (v71 + (1 : Int))) ∧ True) rfl ⟨h73, trivial⟩ ?_
        refine a_mask [true, true, false, false, false] ?_
        exact ih (v71 + (1 : Int)) M72 h
set_option maxRecDepth 100000 in
theorem mX5_layFar (g : Gx) {M : Mm} {M2 : Mm} (h : fX5_layFar M = some M2) : Ct g qX5_layFar [.inr 71] M (fun r' M' => r' = none ∧ M' = M2) := by
  refine c_ofV h qX5_layFar_ok (Nat.le_of_ble_eq_true rfl) (fun z hz Q hR h => ?_)
  unfold fX5_layFar at h
  show Aw z 0 [some (.inr 71), none, none, none, none] [] M
  refine a_run (md qX5_layFar_ok) hz 2 [] (pc' := 2) (lv' := [some (.inr 71), some (.inl (0 : Int)), none, none, none]) (st' := []) (M' := M) (P := True) rfl trivial ?_
  refine a_mask [true, true, false, false, false] ?_
  refine mX5_layFar_L2 hz hR (fun M3 h => ?_) 1000 (0 : Int) M h
  · refine a_run (md qX5_layFar_ok) hz 2 [] (pc' := 56) (lv' := [some (.inr 71), some (.inl (0 : Int)), none, none, none]) (st' := []) (M' := M3) (P := True) rfl trivial ?_
    refine a_mask [true, true, false, false, false] ?_
    refine mX5_layFar_L56 hz hR (fun M6 h => ?_) 1000 (0 : Int) M3 h
    · refine a_run (md qX5_layFar_ok) hz 2 [] (pc' := 133) (lv' := [some (.inr 71), some (.inl (0 : Int)), none, none, none]) (st' := []) (M' := M6) (P := True) rfl trivial ?_
      refine a_mask [true, true, false, false, false] ?_
      refine mX5_layFar_L133 hz hR  1000 (0 : Int) M6 h
def fX5_between (M : Mm) (x1 : Int) (x2 : Int) : Option (Int × Mm) := cal (fX5_isCrossing M x1) (fun (r1 : Int) => if r1 = 0 then some ((-1 : Int), M) else cal (fX5_isCrossing M x2) (fun (r2 : Int) => if r2 = 0 then some ((-1 : Int), M) else cal (fX5_layFar M) (fun (M3 : Mm) => gd ((inR ((12 : Int) * x1)) ∧ (inR (((12 : Int) * x1) + x2)) ∧ (0 ≤ (((12 : Int) * x1) + x2) ∧ (((12 : Int) * x1) + x2) < 144)) (if (1000000 : Int) ≤ (M3 80 (((12 : Int) * x1) + x2).toNat) then some ((-6 : Int), M3) else gd ((inR ((12 : Int) * x1)) ∧ (inR (((12 : Int) * x1) + x2)) ∧ (0 ≤ (((12 : Int) * x1) + x2) ∧ (((12 : Int) * x1) + x2) < 144)) (some ((M3 80 (((12 : Int) * x1) + x2).toNat), M3))))))
set_option maxRecDepth 100000 in
theorem mX5_between (g : Gx) {M : Mm} {x1 : Int} {x2 : Int} {r : Int} {M2 : Mm} (h : fX5_between M x1 x2 = some (r, M2)) : Ct g qX5_between [.inr 71, .inl x1, .inl x2] M (fun r' M' => r' = some r ∧ M' = M2) := by
  refine c_ofI h qX5_between_ok (Nat.le_of_ble_eq_true rfl) (fun z hz Q hR h => ?_)
  unfold fX5_between at h
  show Aw z 0 [some (.inr 71), some (.inl x1), some (.inl x2)] [] M
  refine a_run (md qX5_between_ok) hz 2 [] (pc' := 2) (lv' := [some (.inr 71), some (.inl x1), some (.inl x2)]) (st' := [.inl x1, .inr 71]) (M' := M) (P := True) rfl trivial ?_
  obtain ⟨r1, hr, h⟩ := cal_elim h
  refine a_fV (as := [.inl x1]) (a := 71) (st := []) (mX5_isCrossing z.1 hr) (md qX5_between_ok) qX5_isCrossing_ok hz lkX5_83 rfl 1 0 (by decide +kernel) rfl rfl rfl rfl ?_
  show Aw z 5 [some (.inr 71), some (.inl x1), some (.inl x2)] [.inl r1] M
  refine ite_elim h (fun hc h => ?_) (fun hc h => ?_)
  · refine a_run (md qX5_between_ok) hz 1 [1] (pc' := 16) (lv' := [some (.inr 71), some (.inl x1), some (.inl x2)]) (st' := []) (M' := M) (P := (r1 = 0) ∧ True) rfl ⟨hc, trivial⟩ ?_
    refine a_run (md qX5_between_ok) hz 1 [] (pc' := 17) (lv' := [some (.inr 71), some (.inl x1), some (.inl x2)]) (st' := [.inl (-1 : Int)]) (M' := M) (P := True) rfl trivial ?_
    exact a_ri (md qX5_between_ok) hz hR rfl (Or.inl rfl) h
  · refine a_run (md qX5_between_ok) hz 1 [0] (pc' := 8) (lv' := [some (.inr 71), some (.inl x1), some (.inl x2)]) (st' := []) (M' := M) (P := (¬ (r1 = 0)) ∧ True) rfl ⟨hc, trivial⟩ ?_
    refine a_run (md qX5_between_ok) hz 2 [] (pc' := 10) (lv' := [some (.inr 71), some (.inl x1), some (.inl x2)]) (st' := [.inl x2, .inr 71]) (M' := M) (P := True) rfl trivial ?_
    obtain ⟨r2, hr, h⟩ := cal_elim h
    refine a_fV (as := [.inl x2]) (a := 71) (st := []) (mX5_isCrossing z.1 hr) (md qX5_between_ok) qX5_isCrossing_ok hz lkX5_83 rfl 1 0 (by decide +kernel) rfl rfl rfl rfl ?_
    show Aw z 13 [some (.inr 71), some (.inl x1), some (.inl x2)] [.inl r2] M
    refine ite_elim h (fun hc h => ?_) (fun hc h => ?_)
    · refine a_run (md qX5_between_ok) hz 1 [0] (pc' := 16) (lv' := [some (.inr 71), some (.inl x1), some (.inl x2)]) (st' := []) (M' := M) (P := (¬ ¬ r2 = 0) ∧ True) rfl ⟨fun h9 => h9 hc, trivial⟩ ?_
      refine a_run (md qX5_between_ok) hz 1 [] (pc' := 17) (lv' := [some (.inr 71), some (.inl x1), some (.inl x2)]) (st' := [.inl (-1 : Int)]) (M' := M) (P := True) rfl trivial ?_
      exact a_ri (md qX5_between_ok) hz hR rfl (Or.inl rfl) h
    · refine a_run (md qX5_between_ok) hz 1 [1] (pc' := 18) (lv' := [some (.inr 71), some (.inl x1), some (.inl x2)]) (st' := []) (M' := M) (P := (¬ r2 = 0) ∧ True) rfl ⟨hc, trivial⟩ ?_
      refine a_run (md qX5_between_ok) hz 1 [] (pc' := 19) (lv' := [some (.inr 71), some (.inl x1), some (.inl x2)]) (st' := [.inr 71]) (M' := M) (P := True) rfl trivial ?_
      obtain ⟨M3, hr, h⟩ := cal_elim h
      refine a_fV (as := []) (a := 71) (st := []) (mX5_layFar z.1 hr) (md qX5_between_ok) qX5_layFar_ok hz lkX5_109 rfl 0 0 (by decide +kernel) rfl rfl rfl rfl ?_
      show Aw z 22 [some (.inr 71), some (.inl x1), some (.inl x2)] [] M3
      obtain ⟨⟨h7, h8, h9⟩, h⟩ := gd_elim h
      refine ite_elim h (fun hc h => ?_) (fun hc h => ?_)
      · refine a_run (md qX5_between_ok) hz 10 [1] (pc' := 52) (lv' := [some (.inr 71), some (.inl x1), some (.inl x2)]) (st' := []) (M' := M3) (P := (inR ((12 : Int) * x1)) ∧ (inR (((12 : Int) * x1) + x2)) ∧ (0 ≤ (((12 : Int) * x1) + x2) ∧ (((12 : Int) * x1) + x2) < 144) ∧ ((1000000 : Int) ≤ (M3 80 (((12 : Int) * x1) + x2).toNat)) ∧ True) rfl ⟨h7, h8, h9, hc, trivial⟩ ?_
        refine a_run (md qX5_between_ok) hz 1 [] (pc' := 54) (lv' := [some (.inr 71), some (.inl x1), some (.inl x2)]) (st' := [.inl (-6 : Int)]) (M' := M3) (P := True) rfl trivial ?_
        exact a_ri (md qX5_between_ok) hz hR rfl (Or.inl rfl) h
      · refine a_run (md qX5_between_ok) hz 10 [0] (pc' := 38) (lv' := [some (.inr 71), some (.inl x1), some (.inl x2)]) (st' := []) (M' := M3) (P := (inR ((12 : Int) * x1)) ∧ (inR (((12 : Int) * x1) + x2)) ∧ (0 ≤ (((12 : Int) * x1) + x2) ∧ (((12 : Int) * x1) + x2) < 144) ∧ (¬ ((1000000 : Int) ≤ (M3 80 (((12 : Int) * x1) + x2).toNat))) ∧ True) rfl ⟨h7, h8, h9, hc, trivial⟩ ?_
        obtain ⟨⟨h4, h5, h6⟩, h⟩ := gd_elim h
        refine a_run (md qX5_between_ok) hz 9 [] (pc' := 54) (lv' := [some (.inr 71), some (.inl x1), some (.inl x2)]) (st' := [.inl (M3 80 (((12 : Int) * x1) + x2).toNat)]) (M' := M3) (P := (inR ((12 : Int) * x1)) ∧ (inR (((12 : Int) * x1) + x2)) ∧ (0 ≤ (((12 : Int) * x1) + x2) ∧ (((12 : Int) * x1) + x2) < 144) ∧ True) rfl ⟨h4, h5, h6, trivial⟩ ?_
        exact a_ri (md qX5_between_ok) hz hR rfl (Or.inl rfl) h
def fX5_isSpot (M : Mm) (x1 : Int) : Option (Int) := jn (some (0 : Int)) (fun (K1 : Option (Int)) => gd ((inR ((100 : Int) * (M 71 6))) ∧ (inR (((100 : Int) * (M 71 6)) - (1 : Int)))) (cal (fX5_in M x1 (0 : Int) (((100 : Int) * (M 71 6)) - (1 : Int))) (fun (r2 : Int) => if r2 = 0 then K1 else cal (fX5_length M (x1.tdiv (100 : Int))) (fun (r3 : Int) => if r3 < (x1.tmod (100 : Int)) then K1 else some (1 : Int)))))
set_option maxRecDepth 100000 in
theorem mX5_isSpot (g : Gx) {M : Mm} {x1 : Int} {r : Int} (h : fX5_isSpot M x1 = some r) : Ct g qX5_isSpot [.inr 71, .inl x1] M (fun r' M' => r' = some r ∧ M' = M) := by
  refine c_ofP h qX5_isSpot_ok (Nat.le_of_ble_eq_true rfl) (fun z hz Q hR h => ?_)
  unfold fX5_isSpot at h
  show Aw z 0 [some (.inr 71), some (.inl x1)] [] M
  refine jn_elim h (fun (K1 : Option (Int)) => OK (K1) (fun r2 => Q (some r2) M) → Aw z 36 [none, none] [] M) (fun h => ?_) (fun K1 hK1 h => ?_)
  · refine a_run (md qX5_isSpot_ok) hz 1 [] (pc' := 37) (lv' := [none, none]) (st' := [.inl (0 : Int)]) (M' := M) (P := True) rfl trivial ?_
    exact a_ri (md qX5_isSpot_ok) hz hR rfl (Or.inr ⟨rfl, by decide⟩) h
  · obtain ⟨⟨h4, h5⟩, h⟩ := gd_elim h
    refine a_run (md qX5_isSpot_ok) hz 8 [] (pc' := 11) (lv' := [some (.inr 71), some (.inl x1)]) (st' := [.inl (((100 : Int) * (M 71 6)) - (1 : Int)), .inl (0 : Int), .inl x1]) (M' := M) (P := (inR ((100 : Int) * (M 71 6))) ∧ (inR (((100 : Int) * (M 71 6)) - (1 : Int))) ∧ True) rfl ⟨h4, h5, trivial⟩ ?_
    obtain ⟨r2, hr, h⟩ := cal_elim h
    refine a_fS (as := [.inl x1, .inl (0 : Int), .inl (((100 : Int) * (M 71 6)) - (1 : Int))]) (st := []) (mX5_in z.1 hr) (md qX5_isSpot_ok) qX5_in_ok hz lkX5_76 rfl 3 0 (by decide +kernel) rfl rfl ?_
    show Aw z 14 [some (.inr 71), some (.inl x1)] [.inl r2] M
    refine ite_elim h (fun hc h => ?_) (fun hc h => ?_)
    · refine a_run (md qX5_isSpot_ok) hz 1 [1] (pc' := 36) (lv' := [some (.inr 71), some (.inl x1)]) (st' := []) (M' := M) (P := (r2 = 0) ∧ True) rfl ⟨hc, trivial⟩ ?_
      refine a_mask [false, false] ?_
      exact hK1  h
    · refine a_run (md qX5_isSpot_ok) hz 1 [0] (pc' := 17) (lv' := [some (.inr 71), some (.inl x1)]) (st' := []) (M' := M) (P := (¬ (r2 = 0)) ∧ True) rfl ⟨hc, trivial⟩ ?_
      refine a_run (md qX5_isSpot_ok) hz 7 [] (pc' := 26) (lv' := [some (.inr 71), some (.inl x1)]) (st' := [.inl (x1.tdiv (100 : Int)), .inr 71, .inl (x1.tmod (100 : Int))]) (M' := M) (P := (¬ (100 : Int) = 0 ∧ ¬ (100 : Int) = -1) ∧ (¬ (100 : Int) = 0 ∧ ¬ (100 : Int) = -1) ∧ True) rfl ⟨by decide, by decide, trivial⟩ ?_
      obtain ⟨r3, hr, h⟩ := cal_elim h
      refine a_fV (as := [.inl (x1.tdiv (100 : Int))]) (a := 71) (st := [.inl (x1.tmod (100 : Int))]) (mX5_length z.1 hr) (md qX5_isSpot_ok) qX5_length_ok hz lkX5_98 rfl 1 1 (by decide +kernel) rfl rfl rfl rfl ?_
      show Aw z 29 [some (.inr 71), some (.inl x1)] [.inl r3, .inl (x1.tmod (100 : Int))] M
      refine ite_elim h (fun hc h => ?_) (fun hc h => ?_)
      · refine a_run (md qX5_isSpot_ok) hz 1 [1] (pc' := 36) (lv' := [some (.inr 71), some (.inl x1)]) (st' := []) (M' := M) (P := (r3 < (x1.tmod (100 : Int))) ∧ True) rfl ⟨hc, trivial⟩ ?_
        refine a_mask [false, false] ?_
        exact hK1  h
      · refine a_run (md qX5_isSpot_ok) hz 1 [0] (pc' := 32) (lv' := [some (.inr 71), some (.inl x1)]) (st' := []) (M' := M) (P := (¬ (r3 < (x1.tmod (100 : Int)))) ∧ True) rfl ⟨hc, trivial⟩ ?_
        refine a_run (md qX5_isSpot_ok) hz 2 [] (pc' := 37) (lv' := [some (.inr 71), some (.inl x1)]) (st' := [.inl (1 : Int)]) (M' := M) (P := True) rfl trivial ?_
        exact a_ri (md qX5_isSpot_ok) hz hR rfl (Or.inr ⟨rfl, by decide⟩) h
def fX5_out (M : Mm) (x1 : Int) (x2 : Int) (x3 : Int) : Option (Int) := bnd (x2.tdiv (100 : Int)) (fun (t1 : Int) => bnd (x2.tmod (100 : Int)) (fun (t2 : Int) => bnd (x3.tdiv (100 : Int)) (fun (t3 : Int) => bnd (x3.tmod (100 : Int)) (fun (t4 : Int) => if x1 = 0 then jn (some (1000000 : Int)) (fun (K75 : Option (Int)) => if t1 = t3 then jn (fun (v76 : Int) (v77 : Int) => cal (fX5_off M v76 v77) (fun (r79 : Int) => some r79)) (fun (K78 : Int → Int → Option (Int)) => if t2 ≤ t4 then K78 t2 t4 else gd ((0 ≤ t1 ∧ t1 < 20)) (if (M 76 t1.toNat) = 0 then K78 t2 t4 else K75)) else K75) else jn (fun (v5 : Int) (v6 : Int) (v7 : Int) (v8 : Int) (w9 : Int) => jn (fun (v11 : Int) (v12 : Int) (v13 : Int) (v14 : Int) (v15 : Int) (w16 : Int) => jn (some (1000000 : Int)) (fun (K18 : Option (Int)) => jn (fun (v19 : Int) (v20 : Int) (v21 : Int) (v22 : Int) (v23 : Int) (v24 : Int) => jn (fun (v26 : Int) (v27 : Int) (v28 : Int) (v29 : Int) (v30 : Int) (v31 : Int) => jn (fun (v33 : Int) (v34 : Int) (v35 : Int) (v36 : Int) (v37 : Int) (v38 : Int) (w39 : Int) => jn (fun (v41 : Int) (v42 : Int) (v43 : Int) (v44 : Int) (v45 : Int) (v46 : Int) (v47 : Int) (w48 : Int) => jn (fun (v50 : Int) (v51 : Int) (v52 : Int) (v53 : Int) (v54 : Int) (w55 : Int) => jn (fun (w57 : Int) (w58 : Int) => gd ((inR (w58 + w57))) (if (1000000 : Int) ≤ (w58 + w57) then some (1000000 : Int) else some (w58 + w57))) (fun (K59 : Int → Int → Option (Int)) => gd ((inR ((12 : Int) * v53)) ∧ (inR (((12 : Int) * v53) + v54)) ∧ (0 ≤ (((12 : Int) * v53) + v54) ∧ (((12 : Int) * v53) + v54) < 144) ∧ (inR (w55 + (M 80 (((12 : Int) * v53) + v54).toNat)))) (if v52 = 0 then K59 v51 (w55 + (M 80 (((12 : Int) * v53) + v54).toNat)) else cal (fX5_length M v50) (fun (r61 : Int) => gd ((inR (r61 - v51))) (K59 (r61 - v51) (w55 + (M 80 (((12 : Int) * v53) + v54).toNat))))))) (fun (K56 : Int → Int → Int → Int → Int → Int → Option (Int)) => if v45 = 0 then cal (fX5_length M v41) (fun (r67 : Int) => gd ((inR (r67 - v42))) (K56 v43 v44 v46 v47 w48 (r67 - v42))) else K56 v43 v44 v46 v47 w48 v42)) (fun (K49 : Int → Int → Int → Int → Int → Int → Int → Int → Option (Int)) => if v38 = 0 then gd ((0 ≤ v35 ∧ v35 < 20)) (K49 v33 v34 v35 v36 v37 v38 w39 (M 74 v35.toNat)) else gd ((0 ≤ v35 ∧ v35 < 20)) (K49 v33 v34 v35 v36 v37 v38 w39 (M 75 v35.toNat)))) (fun (K40 : Int → Int → Int → Int → Int → Int → Int → Option (Int)) => if v30 = 0 then gd ((0 ≤ v26 ∧ v26 < 20)) (K40 v26 v27 v28 v29 v30 v31 (M 75 v26.toNat)) else gd ((0 ≤ v26 ∧ v26 < 20)) (K40 v26 v27 v28 v29 v30 v31 (M 74 v26.toNat)))) (fun (K32 : Int → Int → Int → Int → Int → Int → Option (Int)) => if v24 = 0 then K32 v19 v20 v21 v22 v23 v24 else gd ((0 ≤ v21 ∧ v21 < 20)) (if (M 76 v21.toNat) = (1 : Int) then K18 else K32 v19 v20 v21 v22 v23 v24))) (fun (K25 : Int → Int → Int → Int → Int → Int → Option (Int)) => if v15 = 0 then K25 v11 v12 v13 v14 v15 w16 else gd ((0 ≤ v11 ∧ v11 < 20)) (if (M 76 v11.toNat) = (1 : Int) then K18 else K25 v11 v12 v13 v14 v15 w16)))) (fun (K17 : Int → Int → Int → Int → Int → Int → Option (Int)) => if (x1.tmod (2 : Int)) = 0 then K17 v5 v6 v7 v8 w9 (1 : Int) else K17 v5 v6 v7 v8 w9 (0 : Int))) (fun (K10 : Int → Int → Int → Int → Int → Option (Int)) => if (3 : Int) ≤ x1 then K10 t1 t2 t3 t4 (0 : Int) else K10 t1 t2 t3 t4 (1 : Int))))))
set_option maxRecDepth 100000 in
theorem mX5_out (g : Gx) {M : Mm} {x1 : Int} {x2 : Int} {x3 : Int} {r : Int} (h : fX5_out M x1 x2 x3 = some r) : Ct g qX5_out [.inr 71, .inl x1, .inl x2, .inl x3] M (fun r' M' => r' = some r ∧ M' = M) := by
  refine c_ofP h qX5_out_ok (Nat.le_of_ble_eq_true rfl) (fun z hz Q hR h => ?_)
  unfold fX5_out at h
  show Aw z 0 [some (.inr 71), some (.inl x1), some (.inl x2), some (.inl x3), none, none, none, none, none, none, none, none, none] [] M
  refine a_run (md qX5_out_ok) hz 4 [] (pc' := 6) (lv' := [some (.inr 71), some (.inl x1), some (.inl x2), some (.inl x3), some (.inl (x2.tdiv (100 : Int))), none, none, none, none, none, none, none, none]) (st' := []) (M' := M) (P := (¬ (100 : Int) = 0 ∧ ¬ (100 : Int) = -1) ∧ True) rfl ⟨by decide, trivial⟩ ?_
  refine bnd_elim (G := fun (t1 : Int) => Aw z 6 [some (.inr 71), some (.inl x1), some (.inl x2), some (.inl x3), some (.inl t1), none, none, none, none, none, none, none, none] [] M) h (fun t1 h => ?_)
  refine a_run (md qX5_out_ok) hz 4 [] (pc' := 12) (lv' := [some (.inr 71), some (.inl x1), some (.inl x2), some (.inl x3), some (.inl t1), some (.inl (x2.tmod (100 : Int))), none, none, none, none, none, none, none]) (st' := []) (M' := M) (P := (¬ (100 : Int) = 0 ∧ ¬ (100 : Int) = -1) ∧ True) rfl ⟨by decide, trivial⟩ ?_
  refine bnd_elim (G := fun (t2 : Int) => Aw z 12 [some (.inr 71), some (.inl x1), some (.inl x2), some (.inl x3), some (.inl t1), some (.inl t2), none, none, none, none, none, none, none] [] M) h (fun t2 h => ?_)
  refine a_run (md qX5_out_ok) hz 4 [] (pc' := 18) (lv' := [some (.inr 71), some (.inl x1), some (.inl x2), some (.inl x3), some (.inl t1), some (.inl t2), some (.inl (x3.tdiv (100 : Int))), none, none, none, none, none, none]) (st' := []) (M' := M) (P := (¬ (100 : Int) = 0 ∧ ¬ (100 : Int) = -1) ∧ True) rfl ⟨by decide, trivial⟩ ?_
  refine bnd_elim (G := fun (t3 : Int) => Aw z 18 [some (.inr 71), some (.inl x1), some (.inl x2), some (.inl x3), some (.inl t1), some (.inl t2), some (.inl t3), none, none, none, none, none, none] [] M) h (fun t3 h => ?_)
  refine a_run (md qX5_out_ok) hz 4 [] (pc' := 24) (lv' := [some (.inr 71), some (.inl x1), some (.inl x2), some (.inl x3), some (.inl t1), some (.inl t2), some (.inl t3), some (.inl (x3.tmod (100 : Int))), none, none, none, none, none]) (st' := []) (M' := M) (P := (¬ (100 : Int) = 0 ∧ ¬ (100 : Int) = -1) ∧ True) rfl ⟨by decide, trivial⟩ ?_
  refine bnd_elim (G := fun (t4 : Int) => Aw z 24 [some (.inr 71), some (.inl x1), some (.inl x2), some (.inl x3), some (.inl t1), some (.inl t2), some (.inl t3), some (.inl t4), none, none, none, none, none] [] M) h (fun t4 h => ?_)
  refine ite_elim h (fun hc h => ?_) (fun hc h => ?_)
  · refine a_run (md qX5_out_ok) hz 2 [0] (pc' := 28) (lv' := [some (.inr 71), some (.inl x1), some (.inl x2), some (.inl x3), some (.inl t1), some (.inl t2), some (.inl t3), some (.inl t4), none, none, none, none, none]) (st' := []) (M' := M) (P := (¬ ¬ x1 = 0) ∧ True) rfl ⟨fun h9 => h9 hc, trivial⟩ ?_
    refine jn_elim h (fun (K75 : Option (Int)) => OK (K75) (fun r2 => Q (some r2) M) → Aw z 62 [none, none, none, none, none, none, none, none, none, none, none, none, none] [] M) (fun h => ?_) (fun K75 hK75 h => ?_)
    · refine a_run (md qX5_out_ok) hz 1 [] (pc' := 64) (lv' := [none, none, none, none, none, none, none, none, none, none, none, none, none]) (st' := [.inl (1000000 : Int)]) (M' := M) (P := True) rfl trivial ?_
      exact a_ri (md qX5_out_ok) hz hR rfl (Or.inl rfl) h
    · refine ite_elim h (fun hc h => ?_) (fun hc h => ?_)
      · refine a_run (md qX5_out_ok) hz 3 [0] (pc' := 35) (lv' := [some (.inr 71), some (.inl x1), some (.inl x2), some (.inl x3), some (.inl t1), some (.inl t2), some (.inl t3), some (.inl t4), none, none, none, none, none]) (st' := []) (M' := M) (P := (¬ ¬ t1 = t3) ∧ True) rfl ⟨fun h9 => h9 hc, trivial⟩ ?_
        refine jn_elim h (fun (K78 : Int → Int → Option (Int)) => ∀ (v76 : Int), ∀ (v77 : Int), OK (K78 v76 v77) (fun r2 => Q (some r2) M) → Aw z 52 [none, none, none, none, none, some (.inl v76), none, some (.inl v77), none, none, none, none, none] [] M) (fun v76 v77 h => ?_) (fun K78 hK78 h => ?_)
        · refine a_run (md qX5_out_ok) hz 2 [] (pc' := 56) (lv' := [none, none, none, none, none, some (.inl v76), none, some (.inl v77), none, none, none, none, none]) (st' := [.inl v77, .inl v76]) (M' := M) (P := True) rfl trivial ?_
          obtain ⟨r79, hr, h⟩ := cal_elim h
          refine a_fS (as := [.inl v76, .inl v77]) (st := []) (mX5_off z.1 hr) (md qX5_out_ok) qX5_off_ok hz lkX5_68 rfl 2 0 (by decide +kernel) rfl rfl ?_
          show Aw z 59 [none, none, none, none, none, some (.inl v76), none, some (.inl v77), none, none, none, none, none] [.inl r79] M
          refine a_run (md qX5_out_ok) hz 1 [] (pc' := 64) (lv' := [none, none, none, none, none, some (.inl v76), none, some (.inl v77), none, none, none, none, none]) (st' := [.inl r79]) (M' := M) (P := True) rfl trivial ?_
          exact a_ri (md qX5_out_ok) hz hR rfl (Or.inl rfl) h
        · refine ite_elim h (fun hc h => ?_) (fun hc h => ?_)
          · refine a_run (md qX5_out_ok) hz 3 [1] (pc' := 52) (lv' := [some (.inr 71), some (.inl x1), some (.inl x2), some (.inl x3), some (.inl t1), some (.inl t2), some (.inl t3), some (.inl t4), none, none, none, none, none]) (st' := []) (M' := M) (P := (t2 ≤ t4) ∧ True) rfl ⟨hc, trivial⟩ ?_
            refine a_mask [false, false, false, false, false, true, false, true, false, false, false, false, false] ?_
            exact hK78 t2 t4 h
          · refine a_run (md qX5_out_ok) hz 3 [0] (pc' := 42) (lv' := [some (.inr 71), some (.inl x1), some (.inl x2), some (.inl x3), some (.inl t1), some (.inl t2), some (.inl t3), some (.inl t4), none, none, none, none, none]) (st' := []) (M' := M) (P := (¬ (t2 ≤ t4)) ∧ True) rfl ⟨hc, trivial⟩ ?_
            obtain ⟨h80, h⟩ := gd_elim h
            refine ite_elim h (fun hc h => ?_) (fun hc h => ?_)
            · refine a_run (md qX5_out_ok) hz 5 [0] (pc' := 52) (lv' := [some (.inr 71), some (.inl x1), some (.inl x2), some (.inl x3), some (.inl t1), some (.inl t2), some (.inl t3), some (.inl t4), none, none, none, none, none]) (st' := []) (M' := M) (P := (0 ≤ t1 ∧ t1 < 20) ∧ (¬ ¬ (M 76 t1.toNat) = 0) ∧ True) rfl ⟨h80, fun h9 => h9 hc, trivial⟩ ?_
              refine a_mask [false, false, false, false, false, true, false, true, false, false, false, false, false] ?_
              exact hK78 t2 t4 h
            · refine a_run (md qX5_out_ok) hz 5 [1] (pc' := 62) (lv' := [some (.inr 71), some (.inl x1), some (.inl x2), some (.inl x3), some (.inl t1), some (.inl t2), some (.inl t3), some (.inl t4), none, none, none, none, none]) (st' := []) (M' := M) (P := (0 ≤ t1 ∧ t1 < 20) ∧ (¬ (M 76 t1.toNat) = 0) ∧ True) rfl ⟨h80, hc, trivial⟩ ?_
              refine a_mask [false, false, false, false, false, false, false, false, false, false, false, false, false] ?_
              exact hK75  h
      · refine a_run (md qX5_out_ok) hz 3 [1] (pc' := 62) (lv' := [some (.inr 71), some (.inl x1), some (.inl x2), some (.inl x3), some (.inl t1), some (.inl t2), some (.inl t3), some (.inl t4), none, none, none, none, none]) (st' := []) (M' := M) (P := (¬ t1 = t3) ∧ True) rfl ⟨hc, trivial⟩ ?_
        refine a_mask [false, false, false, false, false, false, false, false, false, false, false, false, false] ?_
        exact hK75  h
  · refine a_run (md qX5_out_ok) hz 2 [1] (pc' := 65) (lv' := [some (.inr 71), some (.inl x1), some (.inl x2), some (.inl x3), some (.inl t1), some (.inl t2), some (.inl t3), some (.inl t4), none, none, none, none, none]) (st' := []) (M' := M) (P := (¬ x1 = 0) ∧ True) rfl ⟨hc, trivial⟩ ?_
    refine jn_elim h (fun (K10 : Int → Int → Int → Int → Int → Option (Int)) => ∀ (v5 : Int), ∀ (v6 : Int), ∀ (v7 : Int), ∀ (v8 : Int), ∀ (w9 : Int), OK (K10 v5 v6 v7 v8 w9) (fun r2 => Q (some r2) M) → Aw z 75 [some (.inr 71), some (.inl x1), none, none, some (.inl v5), some (.inl v6), some (.inl v7), some (.inl v8), none, none, none, none, none] [.inl w9] M) (fun v5 v6 v7 v8 w9 h => ?_) (fun K10 hK10 h => ?_)
    · refine jn_elim h (fun (K17 : Int → Int → Int → Int → Int → Int → Option (Int)) => ∀ (v11 : Int), ∀ (v12 : Int), ∀ (v13 : Int), ∀ (v14 : Int), ∀ (v15 : Int), ∀ (w16 : Int), OK (K17 v11 v12 v13 v14 v15 w16) (fun r2 => Q (some r2) M) → Aw z 88 [some (.inr 71), none, none, none, some (.inl v11), some (.inl v12), some (.inl v13), some (.inl v14), some (.inl v15), none, none, none, none] [.inl w16] M) (fun v11 v12 v13 v14 v15 w16 h => ?_) (fun K17 hK17 h => ?_)
      · refine jn_elim h (fun (K18 : Option (Int)) => OK (K18) (fun r2 => Q (some r2) M) → Aw z 122 [none, none, none, none, none, none, none, none, none, none, none, none, none] [] M) (fun h => ?_) (fun K18 hK18 h => ?_)
        · refine a_run (md qX5_out_ok) hz 1 [] (pc' := 124) (lv' := [none, none, none, none, none, none, none, none, none, none, none, none, none]) (st' := [.inl (1000000 : Int)]) (M' := M) (P := True) rfl trivial ?_
          exact a_ri (md qX5_out_ok) hz hR rfl (Or.inl rfl) h
        · refine jn_elim h (fun (K25 : Int → Int → Int → Int → Int → Int → Option (Int)) => ∀ (v19 : Int), ∀ (v20 : Int), ∀ (v21 : Int), ∀ (v22 : Int), ∀ (v23 : Int), ∀ (v24 : Int), OK (K25 v19 v20 v21 v22 v23 v24) (fun r2 => Q (some r2) M) → Aw z 106 [some (.inr 71), none, none, none, some (.inl v19), some (.inl v20), some (.inl v21), some (.inl v22), some (.inl v23), some (.inl v24), none, none, none] [] M) (fun v19 v20 v21 v22 v23 v24 h => ?_) (fun K25 hK25 h => ?_)
          · refine jn_elim h (fun (K32 : Int → Int → Int → Int → Int → Int → Option (Int)) => ∀ (v26 : Int), ∀ (v27 : Int), ∀ (v28 : Int), ∀ (v29 : Int), ∀ (v30 : Int), ∀ (v31 : Int), OK (K32 v26 v27 v28 v29 v30 v31) (fun r2 => Q (some r2) M) → Aw z 125 [some (.inr 71), none, none, none, some (.inl v26), some (.inl v27), some (.inl v28), some (.inl v29), some (.inl v30), some (.inl v31), none, none, none] [] M) (fun v26 v27 v28 v29 v30 v31 h => ?_) (fun K32 hK32 h => ?_)
            · refine jn_elim h (fun (K40 : Int → Int → Int → Int → Int → Int → Int → Option (Int)) => ∀ (v33 : Int), ∀ (v34 : Int), ∀ (v35 : Int), ∀ (v36 : Int), ∀ (v37 : Int), ∀ (v38 : Int), ∀ (w39 : Int), OK (K40 v33 v34 v35 v36 v37 v38 w39) (fun r2 => Q (some r2) M) → Aw z 147 [some (.inr 71), none, none, none, some (.inl v33), some (.inl v34), some (.inl v35), some (.inl v36), some (.inl v37), some (.inl v38), none, none, none] [.inl w39] M) (fun v33 v34 v35 v36 v37 v38 w39 h => ?_) (fun K40 hK40 h => ?_)
              · refine jn_elim h (fun (K49 : Int → Int → Int → Int → Int → Int → Int → Int → Option (Int)) => ∀ (v41 : Int), ∀ (v42 : Int), ∀ (v43 : Int), ∀ (v44 : Int), ∀ (v45 : Int), ∀ (v46 : Int), ∀ (v47 : Int), ∀ (w48 : Int), OK (K49 v41 v42 v43 v44 v45 v46 v47 w48) (fun r2 => Q (some r2) M) → Aw z 171 [some (.inr 71), none, none, none, some (.inl v41), some (.inl v42), some (.inl v43), some (.inl v44), some (.inl v45), some (.inl v46), some (.inl v47), none, none] [.inl w48] M) (fun v41 v42 v43 v44 v45 v46 v47 w48 h => ?_) (fun K49 hK49 h => ?_)
                · refine jn_elim h (fun (K56 : Int → Int → Int → Int → Int → Int → Option (Int)) => ∀ (v50 : Int), ∀ (v51 : Int), ∀ (v52 : Int), ∀ (v53 : Int), ∀ (v54 : Int), ∀ (w55 : Int), OK (K56 v50 v51 v52 v53 v54 w55) (fun r2 => Q (some r2) M) → Aw z 192 [some (.inr 71), none, none, none, none, none, some (.inl v50), some (.inl v51), none, some (.inl v52), some (.inl v53), some (.inl v54), none] [.inl w55] M) (fun v50 v51 v52 v53 v54 w55 h => ?_) (fun K56 hK56 h => ?_)
                  · refine jn_elim h (fun (K59 : Int → Int → Option (Int)) => ∀ (w57 : Int), ∀ (w58 : Int), OK (K59 w57 w58) (fun r2 => Q (some r2) M) → Aw z 225 [none, none, none, none, none, none, none, none, none, none, none, none, none] [.inl w57, .inl w58] M) (fun w57 w58 h => ?_) (fun K59 hK59 h => ?_)
                    · obtain ⟨h60, h⟩ := gd_elim h
                      refine ite_elim h (fun hc h => ?_) (fun hc h => ?_)
                      · refine a_run (md qX5_out_ok) hz 5 [1] (pc' := 240) (lv' := [none, none, none, none, none, none, none, none, none, none, none, none, some (.inl (w58 + w57))]) (st' := []) (M' := M) (P := (inR (w58 + w57)) ∧ ((1000000 : Int) ≤ (w58 + w57)) ∧ True) rfl ⟨h60, hc, trivial⟩ ?_
                        refine a_run (md qX5_out_ok) hz 1 [] (pc' := 242) (lv' := [none, none, none, none, none, none, none, none, none, none, none, none, some (.inl (w58 + w57))]) (st' := [.inl (1000000 : Int)]) (M' := M) (P := True) rfl trivial ?_
                        exact a_ri (md qX5_out_ok) hz hR rfl (Or.inl rfl) h
                      · refine a_run (md qX5_out_ok) hz 5 [0] (pc' := 235) (lv' := [none, none, none, none, none, none, none, none, none, none, none, none, some (.inl (w58 + w57))]) (st' := []) (M' := M) (P := (inR (w58 + w57)) ∧ (¬ ((1000000 : Int) ≤ (w58 + w57))) ∧ True) rfl ⟨h60, hc, trivial⟩ ?_
                        refine a_run (md qX5_out_ok) hz 2 [] (pc' := 242) (lv' := [none, none, none, none, none, none, none, none, none, none, none, none, some (.inl (w58 + w57))]) (st' := [.inl (w58 + w57)]) (M' := M) (P := True) rfl trivial ?_
                        exact a_ri (md qX5_out_ok) hz hR rfl (Or.inl rfl) h
                    · obtain ⟨⟨h63, h64, h65, h66⟩, h⟩ := gd_elim h
                      refine ite_elim h (fun hc h => ?_) (fun hc h => ?_)
                      · refine a_run (md qX5_out_ok) hz 11 [1] (pc' := 223) (lv' := [some (.inr 71), none, none, none, none, none, some (.inl v50), some (.inl v51), none, some (.inl v52), some (.inl v53), some (.inl v54), none]) (st' := [.inl (w55 + (M 80 (((12 : Int) * v53) + v54).toNat))]) (M' := M) (P := (inR ((12 : Int) * v53)) ∧ (inR (((12 : Int) * v53) + v54)) ∧ (0 ≤ (((12 : Int) * v53) + v54) ∧ (((12 : Int) * v53) + v54) < 144) ∧ (inR (w55 + (M 80 (((12 : Int) * v53) + v54).toNat))) ∧ (v52 = 0) ∧ True) rfl ⟨h63, h64, h65, h66, hc, trivial⟩ ?_
                        refine a_run (md qX5_out_ok) hz 1 [] (pc' := 225) (lv' := [some (.inr 71), none, none, none, none, none, some (.inl v50), some (.inl v51), none, some (.inl v52), some (.inl v53), some (.inl v54), none]) (st' := [.inl v51, .inl (w55 + (M 80 (((12 : Int) * v53) + v54).toNat))]) (M' := M) (P := True) rfl trivial ?_
                        refine a_mask [false, false, false, false, false, false, false, false, false, false, false, false, false] ?_
                        exact hK59 v51 (w55 + (M 80 (((12 : Int) * v53) + v54).toNat)) h
                      · refine a_run (md qX5_out_ok) hz 11 [0] (pc' := 211) (lv' := [some (.inr 71), none, none, none, none, none, some (.inl v50), some (.inl v51), none, some (.inl v52), some (.inl v53), some (.inl v54), none]) (st' := [.inl (w55 + (M 80 (((12 : Int) * v53) + v54).toNat))]) (M' := M) (P := (inR ((12 : Int) * v53)) ∧ (inR (((12 : Int) * v53) + v54)) ∧ (0 ≤ (((12 : Int) * v53) + v54) ∧ (((12 : Int) * v53) + v54) < 144) ∧ (inR (w55 + (M 80 (((12 : Int) * v53) + v54).toNat))) ∧ (¬ (v52 = 0)) ∧ True) rfl ⟨h63, h64, h65, h66, hc, trivial⟩ ?_
                        refine a_run (md qX5_out_ok) hz 2 [] (pc' := 214) (lv' := [some (.inr 71), none, none, none, none, none, some (.inl v50), some (.inl v51), none, some (.inl v52), some (.inl v53), some (.inl v54), none]) (st' := [.inl v50, .inr 71, .inl (w55 + (M 80 (((12 : Int) * v53) + v54).toNat))]) (M' := M) (P := True) rfl trivial ?_
                        obtain ⟨r61, hr, h⟩ := cal_elim h
                        refine a_fV (as := [.inl v50]) (a := 71) (st := [.inl (w55 + (M 80 (((12 : Int) * v53) + v54).toNat))]) (mX5_length z.1 hr) (md qX5_out_ok) qX5_length_ok hz lkX5_98 rfl 1 1 (by decide +kernel) rfl rfl rfl rfl ?_
                        show Aw z 217 [some (.inr 71), none, none, none, none, none, some (.inl v50), some (.inl v51), none, some (.inl v52), some (.inl v53), some (.inl v54), none] [.inl r61, .inl (w55 + (M 80 (((12 : Int) * v53) + v54).toNat))] M
                        obtain ⟨h62, h⟩ := gd_elim h
                        refine a_run (md qX5_out_ok) hz 3 [] (pc' := 225) (lv' := [some (.inr 71), none, none, none, none, none, some (.inl v50), some (.inl v51), none, some (.inl v52), some (.inl v53), some (.inl v54), none]) (st' := [.inl (r61 - v51), .inl (w55 + (M 80 (((12 : Int) * v53) + v54).toNat))]) (M' := M) (P := (inR (r61 - v51)) ∧ True) rfl ⟨h62, trivial⟩ ?_
                        refine a_mask [false, false, false, false, false, false, false, false, false, false, false, false, false] ?_
                        exact hK59 (r61 - v51) (w55 + (M 80 (((12 : Int) * v53) + v54).toNat)) h
                  · refine ite_elim h (fun hc h => ?_) (fun hc h => ?_)
                    · refine a_run (md qX5_out_ok) hz 3 [1] (pc' := 183) (lv' := [some (.inr 71), none, none, none, some (.inl v41), some (.inl v42), some (.inl v43), some (.inl v44), some (.inl v45), some (.inl v46), some (.inl v47), some (.inl w48), none]) (st' := []) (M' := M) (P := (v45 = 0) ∧ True) rfl ⟨hc, trivial⟩ ?_
                      refine a_run (md qX5_out_ok) hz 2 [] (pc' := 186) (lv' := [some (.inr 71), none, none, none, some (.inl v41), some (.inl v42), some (.inl v43), some (.inl v44), some (.inl v45), some (.inl v46), some (.inl v47), some (.inl w48), none]) (st' := [.inl v41, .inr 71]) (M' := M) (P := True) rfl trivial ?_
                      obtain ⟨r67, hr, h⟩ := cal_elim h
                      refine a_fV (as := [.inl v41]) (a := 71) (st := []) (mX5_length z.1 hr) (md qX5_out_ok) qX5_length_ok hz lkX5_98 rfl 1 0 (by decide +kernel) rfl rfl rfl rfl ?_
                      show Aw z 189 [some (.inr 71), none, none, none, some (.inl v41), some (.inl v42), some (.inl v43), some (.inl v44), some (.inl v45), some (.inl v46), some (.inl v47), some (.inl w48), none] [.inl r67] M
                      obtain ⟨h68, h⟩ := gd_elim h
                      refine a_run (md qX5_out_ok) hz 2 [] (pc' := 192) (lv' := [some (.inr 71), none, none, none, some (.inl v41), some (.inl v42), some (.inl v43), some (.inl v44), some (.inl v45), some (.inl v46), some (.inl v47), some (.inl w48), none]) (st' := [.inl (r67 - v42)]) (M' := M) (P := (inR (r67 - v42)) ∧ True) rfl ⟨h68, trivial⟩ ?_
                      refine a_mask [true, false, false, false, false, false, true, true, false, true, true, true, false] ?_
                      exact hK56 v43 v44 v46 v47 w48 (r67 - v42) h
                    · refine a_run (md qX5_out_ok) hz 3 [0] (pc' := 178) (lv' := [some (.inr 71), none, none, none, some (.inl v41), some (.inl v42), some (.inl v43), some (.inl v44), some (.inl v45), some (.inl v46), some (.inl v47), some (.inl w48), none]) (st' := []) (M' := M) (P := (¬ (v45 = 0)) ∧ True) rfl ⟨hc, trivial⟩ ?_
                      refine a_run (md qX5_out_ok) hz 2 [] (pc' := 192) (lv' := [some (.inr 71), none, none, none, some (.inl v41), some (.inl v42), some (.inl v43), some (.inl v44), some (.inl v45), some (.inl v46), some (.inl v47), some (.inl w48), none]) (st' := [.inl v42]) (M' := M) (P := True) rfl trivial ?_
                      refine a_mask [true, false, false, false, false, false, true, true, false, true, true, true, false] ?_
                      exact hK56 v43 v44 v46 v47 w48 v42 h
                · refine ite_elim h (fun hc h => ?_) (fun hc h => ?_)
                  · refine a_run (md qX5_out_ok) hz 3 [1] (pc' := 164) (lv' := [some (.inr 71), none, none, none, some (.inl v33), some (.inl v34), some (.inl v35), some (.inl v36), some (.inl v37), some (.inl v38), some (.inl w39), none, none]) (st' := []) (M' := M) (P := (v38 = 0) ∧ True) rfl ⟨hc, trivial⟩ ?_
                    obtain ⟨h69, h⟩ := gd_elim h
                    refine a_run (md qX5_out_ok) hz 4 [] (pc' := 171) (lv' := [some (.inr 71), none, none, none, some (.inl v33), some (.inl v34), some (.inl v35), some (.inl v36), some (.inl v37), some (.inl v38), some (.inl w39), none, none]) (st' := [.inl (M 74 v35.toNat)]) (M' := M) (P := (0 ≤ v35 ∧ v35 < 20) ∧ True) rfl ⟨h69, trivial⟩ ?_
                    refine a_mask [true, false, false, false, true, true, true, true, true, true, true, false, false] ?_
                    exact hK49 v33 v34 v35 v36 v37 v38 w39 (M 74 v35.toNat) h
                  · refine a_run (md qX5_out_ok) hz 3 [0] (pc' := 154) (lv' := [some (.inr 71), none, none, none, some (.inl v33), some (.inl v34), some (.inl v35), some (.inl v36), some (.inl v37), some (.inl v38), some (.inl w39), none, none]) (st' := []) (M' := M) (P := (¬ (v38 = 0)) ∧ True) rfl ⟨hc, trivial⟩ ?_
                    obtain ⟨h70, h⟩ := gd_elim h
                    refine a_run (md qX5_out_ok) hz 5 [] (pc' := 171) (lv' := [some (.inr 71), none, none, none, some (.inl v33), some (.inl v34), some (.inl v35), some (.inl v36), some (.inl v37), some (.inl v38), some (.inl w39), none, none]) (st' := [.inl (M 75 v35.toNat)]) (M' := M) (P := (0 ≤ v35 ∧ v35 < 20) ∧ True) rfl ⟨h70, trivial⟩ ?_
                    refine a_mask [true, false, false, false, true, true, true, true, true, true, true, false, false] ?_
                    exact hK49 v33 v34 v35 v36 v37 v38 w39 (M 75 v35.toNat) h
              · refine ite_elim h (fun hc h => ?_) (fun hc h => ?_)
                · refine a_run (md qX5_out_ok) hz 2 [1] (pc' := 140) (lv' := [some (.inr 71), none, none, none, some (.inl v26), some (.inl v27), some (.inl v28), some (.inl v29), some (.inl v30), some (.inl v31), none, none, none]) (st' := []) (M' := M) (P := (v30 = 0) ∧ True) rfl ⟨hc, trivial⟩ ?_
                  obtain ⟨h71, h⟩ := gd_elim h
                  refine a_run (md qX5_out_ok) hz 4 [] (pc' := 147) (lv' := [some (.inr 71), none, none, none, some (.inl v26), some (.inl v27), some (.inl v28), some (.inl v29), some (.inl v30), some (.inl v31), none, none, none]) (st' := [.inl (M 75 v26.toNat)]) (M' := M) (P := (0 ≤ v26 ∧ v26 < 20) ∧ True) rfl ⟨h71, trivial⟩ ?_
                  refine a_mask [true, false, false, false, true, true, true, true, true, true, false, false, false] ?_
                  exact hK40 v26 v27 v28 v29 v30 v31 (M 75 v26.toNat) h
                · refine a_run (md qX5_out_ok) hz 2 [0] (pc' := 130) (lv' := [some (.inr 71), none, none, none, some (.inl v26), some (.inl v27), some (.inl v28), some (.inl v29), some (.inl v30), some (.inl v31), none, none, none]) (st' := []) (M' := M) (P := (¬ (v30 = 0)) ∧ True) rfl ⟨hc, trivial⟩ ?_
                  obtain ⟨h72, h⟩ := gd_elim h
                  refine a_run (md qX5_out_ok) hz 5 [] (pc' := 147) (lv' := [some (.inr 71), none, none, none, some (.inl v26), some (.inl v27), some (.inl v28), some (.inl v29), some (.inl v30), some (.inl v31), none, none, none]) (st' := [.inl (M 74 v26.toNat)]) (M' := M) (P := (0 ≤ v26 ∧ v26 < 20) ∧ True) rfl ⟨h72, trivial⟩ ?_
                  refine a_mask [true, false, false, false, true, true, true, true, true, true, false, false, false] ?_
                  exact hK40 v26 v27 v28 v29 v30 v31 (M 74 v26.toNat) h
            · refine ite_elim h (fun hc h => ?_) (fun hc h => ?_)
              · refine a_run (md qX5_out_ok) hz 2 [1] (pc' := 125) (lv' := [some (.inr 71), none, none, none, some (.inl v19), some (.inl v20), some (.inl v21), some (.inl v22), some (.inl v23), some (.inl v24), none, none, none]) (st' := []) (M' := M) (P := (v24 = 0) ∧ True) rfl ⟨hc, trivial⟩ ?_
                refine a_mask [true, false, false, false, true, true, true, true, true, true, false, false, false] ?_
                exact hK32 v19 v20 v21 v22 v23 v24 h
              · refine a_run (md qX5_out_ok) hz 2 [0] (pc' := 111) (lv' := [some (.inr 71), none, none, none, some (.inl v19), some (.inl v20), some (.inl v21), some (.inl v22), some (.inl v23), some (.inl v24), none, none, none]) (st' := []) (M' := M) (P := (¬ (v24 = 0)) ∧ True) rfl ⟨hc, trivial⟩ ?_
                obtain ⟨h73, h⟩ := gd_elim h
                refine ite_elim h (fun hc h => ?_) (fun hc h => ?_)
                · refine a_run (md qX5_out_ok) hz 6 [0] (pc' := 122) (lv' := [some (.inr 71), none, none, none, some (.inl v19), some (.inl v20), some (.inl v21), some (.inl v22), some (.inl v23), some (.inl v24), none, none, none]) (st' := []) (M' := M) (P := (0 ≤ v21 ∧ v21 < 20) ∧ (¬ ¬ (M 76 v21.toNat) = (1 : Int)) ∧ True) rfl ⟨h73, fun h9 => h9 hc, trivial⟩ ?_
                  refine a_mask [false, false, false, false, false, false, false, false, false, false, false, false, false] ?_
                  exact hK18  h
                · refine a_run (md qX5_out_ok) hz 6 [1] (pc' := 125) (lv' := [some (.inr 71), none, none, none, some (.inl v19), some (.inl v20), some (.inl v21), some (.inl v22), some (.inl v23), some (.inl v24), none, none, none]) (st' := []) (M' := M) (P := (0 ≤ v21 ∧ v21 < 20) ∧ (¬ (M 76 v21.toNat) = (1 : Int)) ∧ True) rfl ⟨h73, hc, trivial⟩ ?_
                  refine a_mask [true, false, false, false, true, true, true, true, true, true, false, false, false] ?_
                  exact hK32 v19 v20 v21 v22 v23 v24 h
          · refine ite_elim h (fun hc h => ?_) (fun hc h => ?_)
            · refine a_run (md qX5_out_ok) hz 3 [1] (pc' := 106) (lv' := [some (.inr 71), none, none, none, some (.inl v11), some (.inl v12), some (.inl v13), some (.inl v14), some (.inl v15), some (.inl w16), none, none, none]) (st' := []) (M' := M) (P := (v15 = 0) ∧ True) rfl ⟨hc, trivial⟩ ?_
              refine a_mask [true, false, false, false, true, true, true, true, true, true, false, false, false] ?_
              exact hK25 v11 v12 v13 v14 v15 w16 h
            · refine a_run (md qX5_out_ok) hz 3 [0] (pc' := 95) (lv' := [some (.inr 71), none, none, none, some (.inl v11), some (.inl v12), some (.inl v13), some (.inl v14), some (.inl v15), some (.inl w16), none, none, none]) (st' := []) (M' := M) (P := (¬ (v15 = 0)) ∧ True) rfl ⟨hc, trivial⟩ ?_
              obtain ⟨h74, h⟩ := gd_elim h
              refine ite_elim h (fun hc h => ?_) (fun hc h => ?_)
              · refine a_run (md qX5_out_ok) hz 6 [1] (pc' := 122) (lv' := [some (.inr 71), none, none, none, some (.inl v11), some (.inl v12), some (.inl v13), some (.inl v14), some (.inl v15), some (.inl w16), none, none, none]) (st' := []) (M' := M) (P := (0 ≤ v11 ∧ v11 < 20) ∧ ((M 76 v11.toNat) = (1 : Int)) ∧ True) rfl ⟨h74, hc, trivial⟩ ?_
                refine a_mask [false, false, false, false, false, false, false, false, false, false, false, false, false] ?_
                exact hK18  h
              · refine a_run (md qX5_out_ok) hz 6 [0] (pc' := 106) (lv' := [some (.inr 71), none, none, none, some (.inl v11), some (.inl v12), some (.inl v13), some (.inl v14), some (.inl v15), some (.inl w16), none, none, none]) (st' := []) (M' := M) (P := (0 ≤ v11 ∧ v11 < 20) ∧ (¬ ((M 76 v11.toNat) = (1 : Int))) ∧ True) rfl ⟨h74, hc, trivial⟩ ?_
                refine a_mask [true, false, false, false, true, true, true, true, true, true, false, false, false] ?_
                exact hK25 v11 v12 v13 v14 v15 w16 h
      · refine ite_elim h (fun hc h => ?_) (fun hc h => ?_)
        · refine a_run (md qX5_out_ok) hz 5 [0] (pc' := 83) (lv' := [some (.inr 71), some (.inl x1), none, none, some (.inl v5), some (.inl v6), some (.inl v7), some (.inl v8), some (.inl w9), none, none, none, none]) (st' := []) (M' := M) (P := (¬ (2 : Int) = 0 ∧ ¬ (2 : Int) = -1) ∧ (¬ ¬ (x1.tmod (2 : Int)) = 0) ∧ True) rfl ⟨by decide, fun h9 => h9 hc, trivial⟩ ?_
          refine a_run (md qX5_out_ok) hz 2 [] (pc' := 88) (lv' := [some (.inr 71), some (.inl x1), none, none, some (.inl v5), some (.inl v6), some (.inl v7), some (.inl v8), some (.inl w9), none, none, none, none]) (st' := [.inl (1 : Int)]) (M' := M) (P := True) rfl trivial ?_
          refine a_mask [true, false, false, false, true, true, true, true, true, false, false, false, false] ?_
          exact hK17 v5 v6 v7 v8 w9 (1 : Int) h
        · refine a_run (md qX5_out_ok) hz 5 [1] (pc' := 87) (lv' := [some (.inr 71), some (.inl x1), none, none, some (.inl v5), some (.inl v6), some (.inl v7), some (.inl v8), some (.inl w9), none, none, none, none]) (st' := []) (M' := M) (P := (¬ (2 : Int) = 0 ∧ ¬ (2 : Int) = -1) ∧ (¬ (x1.tmod (2 : Int)) = 0) ∧ True) rfl ⟨by decide, hc, trivial⟩ ?_
          refine a_run (md qX5_out_ok) hz 1 [] (pc' := 88) (lv' := [some (.inr 71), some (.inl x1), none, none, some (.inl v5), some (.inl v6), some (.inl v7), some (.inl v8), some (.inl w9), none, none, none, none]) (st' := [.inl (0 : Int)]) (M' := M) (P := True) rfl trivial ?_
          refine a_mask [true, false, false, false, true, true, true, true, true, false, false, false, false] ?_
          exact hK17 v5 v6 v7 v8 w9 (0 : Int) h
    · refine ite_elim h (fun hc h => ?_) (fun hc h => ?_)
      · refine a_run (md qX5_out_ok) hz 3 [1] (pc' := 74) (lv' := [some (.inr 71), some (.inl x1), some (.inl x2), some (.inl x3), some (.inl t1), some (.inl t2), some (.inl t3), some (.inl t4), none, none, none, none, none]) (st' := []) (M' := M) (P := ((3 : Int) ≤ x1) ∧ True) rfl ⟨hc, trivial⟩ ?_
        refine a_run (md qX5_out_ok) hz 1 [] (pc' := 75) (lv' := [some (.inr 71), some (.inl x1), some (.inl x2), some (.inl x3), some (.inl t1), some (.inl t2), some (.inl t3), some (.inl t4), none, none, none, none, none]) (st' := [.inl (0 : Int)]) (M' := M) (P := True) rfl trivial ?_
        refine a_mask [true, true, false, false, true, true, true, true, false, false, false, false, false] ?_
        exact hK10 t1 t2 t3 t4 (0 : Int) h
      · refine a_run (md qX5_out_ok) hz 3 [0] (pc' := 70) (lv' := [some (.inr 71), some (.inl x1), some (.inl x2), some (.inl x3), some (.inl t1), some (.inl t2), some (.inl t3), some (.inl t4), none, none, none, none, none]) (st' := []) (M' := M) (P := (¬ ((3 : Int) ≤ x1)) ∧ True) rfl ⟨hc, trivial⟩ ?_
        refine a_run (md qX5_out_ok) hz 2 [] (pc' := 75) (lv' := [some (.inr 71), some (.inl x1), some (.inl x2), some (.inl x3), some (.inl t1), some (.inl t2), some (.inl t3), some (.inl t4), none, none, none, none, none]) (st' := [.inl (1 : Int)]) (M' := M) (P := True) rfl trivial ?_
        refine a_mask [true, true, false, false, true, true, true, true, false, false, false, false, false] ?_
        exact hK10 t1 t2 t3 t4 (1 : Int) h
def fX5_leastOut_L6 (x1 : Int) (x2 : Int) (M : Mm) : Nat → Int → Int → Option (Int)
  | 0, _, _ => none
  | n + 1, v1, v2 => if (5 : Int) ≤ v2 then some v1 else jn (fun (v3 : Int) (w4 : Int) => gd ((inR (v3 + (1 : Int)))) (fX5_leastOut_L6 x1 x2 M n w4 (v3 + (1 : Int)))) (fun (K5 : Int → Int → Option (Int)) => jn (fun (v7 : Int) (v8 : Int) => K5 v8 v7) (fun (K9 : Int → Int → Option (Int)) => cal (fX5_out M v2 x1 x2) (fun (r10 : Int) => if (1000000 : Int) ≤ r10 then K9 v1 v2 else jn (fun (v11 : Int) => K5 v11 v11) (fun (K12 : Int → Option (Int)) => if v1 < 0 then K12 v2 else cal (fX5_out M v1 x1 x2) (fun (r13 : Int) => if r13 ≤ r10 then K9 v1 v2 else K12 v2)))))
def fX5_leastOut (M : Mm) (x1 : Int) (x2 : Int) : Option (Int) := fX5_leastOut_L6 x1 x2 M 1000 (-6 : Int) (0 : Int)
set_option maxRecDepth 100000 in
theorem mX5_leastOut_L6 {z : Zx} (hz : Cx qX5_leastOut z) {Q : Option Int → Mm → Prop} (hR : Rt Q z) {x1 : Int} {x2 : Int} {M : Mm} : ∀ (n : Nat) (v1 : Int) (v2 : Int), OK (fX5_leastOut_L6 x1 x2 M n v1 v2) (fun r2 => Q (some r2) M) → Aw z 6 [some (.inr 71), some (.inl x1), some (.inl x2), some (.inl v1), some (.inl v2), none] [] M := by
  intro n
  induction n with
  | zero =>
    intro v1 v2 h
    exact (show False from h).elim
  | succ n ih =>
    intro v1 v2 h
    unfold fX5_leastOut_L6 at h
    refine ite_elim h (fun hc h => ?_) (fun hc h => ?_)
    · refine a_run (md qX5_leastOut_ok) hz 3 [1] (pc' := 58) (lv' := [some (.inr 71), some (.inl x1), some (.inl x2), some (.inl v1), some (.inl v2), none]) (st' := []) (M' := M) (P := ((5 : Int) ≤ v2) ∧ True) rfl ⟨hc, trivial⟩ ?_
      refine a_run (md qX5_leastOut_ok) hz 1 [] (pc' := 59) (lv' := [some (.inr 71), some (.inl x1), some (.inl x2), some (.inl v1), some (.inl v2), none]) (st' := [.inl v1]) (M' := M) (P := True) rfl trivial ?_
      exact a_ri (md qX5_leastOut_ok) hz hR rfl (Or.inl rfl) h
    · refine a_run (md qX5_leastOut_ok) hz 3 [0] (pc' := 12) (lv' := [some (.inr 71), some (.inl x1), some (.inl x2), some (.inl v1), some (.inl v2), none]) (st' := []) (M' := M) (P := (¬ ((5 : Int) ≤ v2)) ∧ True) rfl ⟨hc, trivial⟩ ?_
      refine jn_elim h (fun (K5 : Int → Int → Option (Int)) => ∀ (v3 : Int), ∀ (w4 : Int), OK (K5 v3 w4) (fun r2 => Q (some r2) M) → Aw z 51 [some (.inr 71), some (.inl x1), some (.inl x2), none, some (.inl v3), none] [.inl w4] M) (fun v3 w4 h => ?_) (fun K5 hK5 h => ?_)
      · obtain ⟨h6, h⟩ := gd_elim h
        refine a_run (md qX5_leastOut_ok) hz 3 [] (pc' := 6) (lv' := [some (.inr 71), some (.inl x1), some (.inl x2), some (.inl w4), some (.inl (v3 + (1 : Int))), none]) (st' := []) (M' := M) (P := (inR (v3 + (1 : Int))) ∧ True) rfl ⟨h6, trivial⟩ ?_
        refine a_mask [true, true, true, true, true, false] ?_
        exact ih w4 (v3 + (1 : Int)) h
      · refine jn_elim h (fun (K9 : Int → Int → Option (Int)) => ∀ (v7 : Int), ∀ (v8 : Int), OK (K9 v7 v8) (fun r2 => Q (some r2) M) → Aw z 50 [some (.inr 71), some (.inl x1), some (.inl x2), some (.inl v7), some (.inl v8), none] [] M) (fun v7 v8 h => ?_) (fun K9 hK9 h => ?_)
        · refine a_run (md qX5_leastOut_ok) hz 1 [] (pc' := 51) (lv' := [some (.inr 71), some (.inl x1), some (.inl x2), some (.inl v7), some (.inl v8), none]) (st' := [.inl v7]) (M' := M) (P := True) rfl trivial ?_
          refine a_mask [true, true, true, false, true, false] ?_
          exact hK5 v8 v7 h
        · refine a_run (md qX5_leastOut_ok) hz 4 [] (pc' := 17) (lv' := [some (.inr 71), some (.inl x1), some (.inl x2), some (.inl v1), some (.inl v2), none]) (st' := [.inl x2, .inl x1, .inl v2, .inr 71]) (M' := M) (P := True) rfl trivial ?_
          obtain ⟨r10, hr, h⟩ := cal_elim h
          refine a_fV (as := [.inl v2, .inl x1, .inl x2]) (a := 71) (st := []) (mX5_out z.1 hr) (md qX5_leastOut_ok) qX5_out_ok hz lkX5_112 rfl 3 0 (by decide +kernel) rfl rfl rfl rfl ?_
          show Aw z 20 [some (.inr 71), some (.inl x1), some (.inl x2), some (.inl v1), some (.inl v2), none] [.inl r10] M
          refine ite_elim h (fun hc h => ?_) (fun hc h => ?_)
          · refine a_run (md qX5_leastOut_ok) hz 4 [1] (pc' := 50) (lv' := [some (.inr 71), some (.inl x1), some (.inl x2), some (.inl v1), some (.inl v2), some (.inl r10)]) (st' := []) (M' := M) (P := ((1000000 : Int) ≤ r10) ∧ True) rfl ⟨hc, trivial⟩ ?_
            refine a_mask [true, true, true, true, true, false] ?_
            exact hK9 v1 v2 h
          · refine a_run (md qX5_leastOut_ok) hz 4 [0] (pc' := 29) (lv' := [some (.inr 71), some (.inl x1), some (.inl x2), some (.inl v1), some (.inl v2), some (.inl r10)]) (st' := []) (M' := M) (P := (¬ ((1000000 : Int) ≤ r10)) ∧ True) rfl ⟨hc, trivial⟩ ?_
            refine jn_elim h (fun (K12 : Int → Option (Int)) => ∀ (v11 : Int), OK (K12 v11) (fun r2 => Q (some r2) M) → Aw z 45 [some (.inr 71), some (.inl x1), some (.inl x2), none, some (.inl v11), none] [] M) (fun v11 h => ?_) (fun K12 hK12 h => ?_)
            · refine a_run (md qX5_leastOut_ok) hz 2 [] (pc' := 51) (lv' := [some (.inr 71), some (.inl x1), some (.inl x2), none, some (.inl v11), none]) (st' := [.inl v11]) (M' := M) (P := True) rfl trivial ?_
              refine a_mask [true, true, true, false, true, false] ?_
              exact hK5 v11 v11 h
            · refine ite_elim h (fun hc h => ?_) (fun hc h => ?_)
              · refine a_run (md qX5_leastOut_ok) hz 2 [1] (pc' := 45) (lv' := [some (.inr 71), some (.inl x1), some (.inl x2), some (.inl v1), some (.inl v2), some (.inl r10)]) (st' := []) (M' := M) (P := (v1 < 0) ∧ True) rfl ⟨hc, trivial⟩ ?_
                refine a_mask [true, true, true, false, true, false] ?_
                exact hK12 v2 h
              · refine a_run (md qX5_leastOut_ok) hz 2 [0] (pc' := 33) (lv' := [some (.inr 71), some (.inl x1), some (.inl x2), some (.inl v1), some (.inl v2), some (.inl r10)]) (st' := []) (M' := M) (P := (¬ (v1 < 0)) ∧ True) rfl ⟨hc, trivial⟩ ?_
                refine a_run (md qX5_leastOut_ok) hz 5 [] (pc' := 39) (lv' := [some (.inr 71), some (.inl x1), some (.inl x2), some (.inl v1), some (.inl v2), some (.inl r10)]) (st' := [.inl x2, .inl x1, .inl v1, .inr 71, .inl r10]) (M' := M) (P := True) rfl trivial ?_
                obtain ⟨r13, hr, h⟩ := cal_elim h
                refine a_fV (as := [.inl v1, .inl x1, .inl x2]) (a := 71) (st := [.inl r10]) (mX5_out z.1 hr) (md qX5_leastOut_ok) qX5_out_ok hz lkX5_112 rfl 3 1 (by decide +kernel) rfl rfl rfl rfl ?_
                show Aw z 42 [some (.inr 71), some (.inl x1), some (.inl x2), some (.inl v1), some (.inl v2), some (.inl r10)] [.inl r13, .inl r10] M
                refine ite_elim h (fun hc h => ?_) (fun hc h => ?_)
                · refine a_run (md qX5_leastOut_ok) hz 1 [1] (pc' := 50) (lv' := [some (.inr 71), some (.inl x1), some (.inl x2), some (.inl v1), some (.inl v2), some (.inl r10)]) (st' := []) (M' := M) (P := (r13 ≤ r10) ∧ True) rfl ⟨hc, trivial⟩ ?_
                  refine a_mask [true, true, true, true, true, false] ?_
                  exact hK9 v1 v2 h
                · refine a_run (md qX5_leastOut_ok) hz 1 [0] (pc' := 45) (lv' := [some (.inr 71), some (.inl x1), some (.inl x2), some (.inl v1), some (.inl v2), some (.inl r10)]) (st' := []) (M' := M) (P := (¬ (r13 ≤ r10)) ∧ True) rfl ⟨hc, trivial⟩ ?_
                  refine a_mask [true, true, true, false, true, false] ?_
                  exact hK12 v2 h
set_option maxRecDepth 100000 in
theorem mX5_leastOut (g : Gx) {M : Mm} {x1 : Int} {x2 : Int} {r : Int} (h : fX5_leastOut M x1 x2 = some r) : Ct g qX5_leastOut [.inr 71, .inl x1, .inl x2] M (fun r' M' => r' = some r ∧ M' = M) := by
  refine c_ofP h qX5_leastOut_ok (Nat.le_of_ble_eq_true rfl) (fun z hz Q hR h => ?_)
  unfold fX5_leastOut at h
  show Aw z 0 [some (.inr 71), some (.inl x1), some (.inl x2), none, none, none] [] M
  refine a_run (md qX5_leastOut_ok) hz 4 [] (pc' := 6) (lv' := [some (.inr 71), some (.inl x1), some (.inl x2), some (.inl (-6 : Int)), some (.inl (0 : Int)), none]) (st' := []) (M' := M) (P := True) rfl trivial ?_
  refine a_mask [true, true, true, true, true, false] ?_
  refine mX5_leastOut_L6 hz hR  1000 (-6 : Int) (0 : Int) h
def fX5_wayOf (M : Mm) (x1 : Int) (x2 : Int) : Option (Int) := cal (fX5_leastOut M x1 x2) (fun (r1 : Int) => if 0 ≤ r1 then cal (fX5_out M r1 x1 x2) (fun (r2 : Int) => some r2) else some (-6 : Int))
set_option maxRecDepth 100000 in
theorem mX5_wayOf (g : Gx) {M : Mm} {x1 : Int} {x2 : Int} {r : Int} (h : fX5_wayOf M x1 x2 = some r) : Ct g qX5_wayOf [.inr 71, .inl x1, .inl x2] M (fun r' M' => r' = some r ∧ M' = M) := by
  refine c_ofP h qX5_wayOf_ok (Nat.le_of_ble_eq_true rfl) (fun z hz Q hR h => ?_)
  unfold fX5_wayOf at h
  show Aw z 0 [some (.inr 71), some (.inl x1), some (.inl x2), none] [] M
  refine a_run (md qX5_wayOf_ok) hz 3 [] (pc' := 3) (lv' := [some (.inr 71), some (.inl x1), some (.inl x2), none]) (st' := [.inl x2, .inl x1, .inr 71]) (M' := M) (P := True) rfl trivial ?_
  obtain ⟨r1, hr, h⟩ := cal_elim h
  refine a_fV (as := [.inl x1, .inl x2]) (a := 71) (st := []) (mX5_leastOut z.1 hr) (md qX5_wayOf_ok) qX5_leastOut_ok hz lkX5_115 rfl 2 0 (by decide +kernel) rfl rfl rfl rfl ?_
  show Aw z 6 [some (.inr 71), some (.inl x1), some (.inl x2), none] [.inl r1] M
  refine ite_elim h (fun hc h => ?_) (fun hc h => ?_)
  · refine a_run (md qX5_wayOf_ok) hz 3 [1] (pc' := 16) (lv' := [some (.inr 71), some (.inl x1), some (.inl x2), some (.inl r1)]) (st' := []) (M' := M) (P := (0 ≤ r1) ∧ True) rfl ⟨hc, trivial⟩ ?_
    refine a_run (md qX5_wayOf_ok) hz 4 [] (pc' := 20) (lv' := [some (.inr 71), some (.inl x1), some (.inl x2), some (.inl r1)]) (st' := [.inl x2, .inl x1, .inl r1, .inr 71]) (M' := M) (P := True) rfl trivial ?_
    obtain ⟨r2, hr, h⟩ := cal_elim h
    refine a_fV (as := [.inl r1, .inl x1, .inl x2]) (a := 71) (st := []) (mX5_out z.1 hr) (md qX5_wayOf_ok) qX5_out_ok hz lkX5_112 rfl 3 0 (by decide +kernel) rfl rfl rfl rfl ?_
    show Aw z 23 [some (.inr 71), some (.inl x1), some (.inl x2), some (.inl r1)] [.inl r2] M
    exact a_ri (md qX5_wayOf_ok) hz hR rfl (Or.inl rfl) h
  · refine a_run (md qX5_wayOf_ok) hz 3 [0] (pc' := 11) (lv' := [some (.inr 71), some (.inl x1), some (.inl x2), some (.inl r1)]) (st' := []) (M' := M) (P := (¬ (0 ≤ r1)) ∧ True) rfl ⟨hc, trivial⟩ ?_
    refine a_run (md qX5_wayOf_ok) hz 2 [] (pc' := 23) (lv' := [some (.inr 71), some (.inl x1), some (.inl x2), some (.inl r1)]) (st' := [.inl (-6 : Int)]) (M' := M) (P := True) rfl trivial ?_
    exact a_ri (md qX5_wayOf_ok) hz hR rfl (Or.inl rfl) h
def fX5_way (M : Mm) (x1 : Int) (x2 : Int) : Option (Int × Mm) := cal (fX5_isSpot M x1) (fun (r1 : Int) => if r1 = 0 then some ((-1 : Int), M) else cal (fX5_isSpot M x2) (fun (r2 : Int) => if r2 = 0 then some ((-1 : Int), M) else cal (fX5_layFar M) (fun (M3 : Mm) => cal (fX5_wayOf M3 x1 x2) (fun (r4 : Int) => some (r4, M3)))))
set_option maxRecDepth 100000 in
theorem mX5_way (g : Gx) {M : Mm} {x1 : Int} {x2 : Int} {r : Int} {M2 : Mm} (h : fX5_way M x1 x2 = some (r, M2)) : Ct g qX5_way [.inr 71, .inl x1, .inl x2] M (fun r' M' => r' = some r ∧ M' = M2) := by
  refine c_ofI h qX5_way_ok (Nat.le_of_ble_eq_true rfl) (fun z hz Q hR h => ?_)
  unfold fX5_way at h
  show Aw z 0 [some (.inr 71), some (.inl x1), some (.inl x2)] [] M
  refine a_run (md qX5_way_ok) hz 2 [] (pc' := 2) (lv' := [some (.inr 71), some (.inl x1), some (.inl x2)]) (st' := [.inl x1, .inr 71]) (M' := M) (P := True) rfl trivial ?_
  obtain ⟨r1, hr, h⟩ := cal_elim h
  refine a_fV (as := [.inl x1]) (a := 71) (st := []) (mX5_isSpot z.1 hr) (md qX5_way_ok) qX5_isSpot_ok hz lkX5_118 rfl 1 0 (by decide +kernel) rfl rfl rfl rfl ?_
  show Aw z 5 [some (.inr 71), some (.inl x1), some (.inl x2)] [.inl r1] M
  refine ite_elim h (fun hc h => ?_) (fun hc h => ?_)
  · refine a_run (md qX5_way_ok) hz 1 [1] (pc' := 16) (lv' := [some (.inr 71), some (.inl x1), some (.inl x2)]) (st' := []) (M' := M) (P := (r1 = 0) ∧ True) rfl ⟨hc, trivial⟩ ?_
    refine a_run (md qX5_way_ok) hz 1 [] (pc' := 17) (lv' := [some (.inr 71), some (.inl x1), some (.inl x2)]) (st' := [.inl (-1 : Int)]) (M' := M) (P := True) rfl trivial ?_
    exact a_ri (md qX5_way_ok) hz hR rfl (Or.inl rfl) h
  · refine a_run (md qX5_way_ok) hz 1 [0] (pc' := 8) (lv' := [some (.inr 71), some (.inl x1), some (.inl x2)]) (st' := []) (M' := M) (P := (¬ (r1 = 0)) ∧ True) rfl ⟨hc, trivial⟩ ?_
    refine a_run (md qX5_way_ok) hz 2 [] (pc' := 10) (lv' := [some (.inr 71), some (.inl x1), some (.inl x2)]) (st' := [.inl x2, .inr 71]) (M' := M) (P := True) rfl trivial ?_
    obtain ⟨r2, hr, h⟩ := cal_elim h
    refine a_fV (as := [.inl x2]) (a := 71) (st := []) (mX5_isSpot z.1 hr) (md qX5_way_ok) qX5_isSpot_ok hz lkX5_118 rfl 1 0 (by decide +kernel) rfl rfl rfl rfl ?_
    show Aw z 13 [some (.inr 71), some (.inl x1), some (.inl x2)] [.inl r2] M
    refine ite_elim h (fun hc h => ?_) (fun hc h => ?_)
    · refine a_run (md qX5_way_ok) hz 1 [0] (pc' := 16) (lv' := [some (.inr 71), some (.inl x1), some (.inl x2)]) (st' := []) (M' := M) (P := (¬ ¬ r2 = 0) ∧ True) rfl ⟨fun h9 => h9 hc, trivial⟩ ?_
      refine a_run (md qX5_way_ok) hz 1 [] (pc' := 17) (lv' := [some (.inr 71), some (.inl x1), some (.inl x2)]) (st' := [.inl (-1 : Int)]) (M' := M) (P := True) rfl trivial ?_
      exact a_ri (md qX5_way_ok) hz hR rfl (Or.inl rfl) h
    · refine a_run (md qX5_way_ok) hz 1 [1] (pc' := 18) (lv' := [some (.inr 71), some (.inl x1), some (.inl x2)]) (st' := []) (M' := M) (P := (¬ r2 = 0) ∧ True) rfl ⟨hc, trivial⟩ ?_
      refine a_run (md qX5_way_ok) hz 1 [] (pc' := 19) (lv' := [some (.inr 71), some (.inl x1), some (.inl x2)]) (st' := [.inr 71]) (M' := M) (P := True) rfl trivial ?_
      obtain ⟨M3, hr, h⟩ := cal_elim h
      refine a_fV (as := []) (a := 71) (st := []) (mX5_layFar z.1 hr) (md qX5_way_ok) qX5_layFar_ok hz lkX5_109 rfl 0 0 (by decide +kernel) rfl rfl rfl rfl ?_
      show Aw z 22 [some (.inr 71), some (.inl x1), some (.inl x2)] [] M3
      refine a_run (md qX5_way_ok) hz 3 [] (pc' := 25) (lv' := [some (.inr 71), some (.inl x1), some (.inl x2)]) (st' := [.inl x2, .inl x1, .inr 71]) (M' := M3) (P := True) rfl trivial ?_
      obtain ⟨r4, hr, h⟩ := cal_elim h
      refine a_fV (as := [.inl x1, .inl x2]) (a := 71) (st := []) (mX5_wayOf z.1 hr) (md qX5_way_ok) qX5_wayOf_ok hz lkX5_121 rfl 2 0 (by decide +kernel) rfl rfl rfl rfl ?_
      show Aw z 28 [some (.inr 71), some (.inl x1), some (.inl x2)] [.inl r4] M3
      exact a_ri (md qX5_way_ok) hz hR rfl (Or.inl rfl) h
def fX5_fix (M : Mm) (x1 : Int) (x2 : Int) : Option (Int × Mm) := cal (fX5_in M x1 (0 : Int) (63 : Int)) (fun (r1 : Int) => if r1 = 0 then some ((-2 : Int), M) else cal (fX5_in M x2 (0 : Int) (63 : Int)) (fun (r2 : Int) => if r2 = 0 then some ((-2 : Int), M) else if (M 71 10) = (16 : Int) then some ((-4 : Int), M) else gd ((0 ≤ (M 71 10) ∧ (M 71 10) < 16)) (bnd (up M 78 (M 71 10).toNat x1) (fun (M3 : Mm) => gd ((0 ≤ (M3 71 10) ∧ (M3 71 10) < 16)) (bnd (up M3 79 (M3 71 10).toNat x2) (fun (M4 : Mm) => gd ((inR ((M4 71 10) + (1 : Int)))) (bnd (up M4 71 10 ((M4 71 10) + (1 : Int))) (fun (M5 : Mm) => some ((M5 71 10), M5)))))))))
set_option maxRecDepth 100000 in
theorem mX5_fix (g : Gx) {M : Mm} {x1 : Int} {x2 : Int} {r : Int} {M2 : Mm} (h : fX5_fix M x1 x2 = some (r, M2)) : Ct g qX5_fix [.inr 71, .inl x1, .inl x2] M (fun r' M' => r' = some r ∧ M' = M2) := by
  refine c_ofI h qX5_fix_ok (Nat.le_of_ble_eq_true rfl) (fun z hz Q hR h => ?_)
  unfold fX5_fix at h
  show Aw z 0 [some (.inr 71), some (.inl x1), some (.inl x2)] [] M
  refine a_run (md qX5_fix_ok) hz 3 [] (pc' := 4) (lv' := [some (.inr 71), some (.inl x1), some (.inl x2)]) (st' := [.inl (63 : Int), .inl (0 : Int), .inl x1]) (M' := M) (P := True) rfl trivial ?_
  obtain ⟨r1, hr, h⟩ := cal_elim h
  refine a_fS (as := [.inl x1, .inl (0 : Int), .inl (63 : Int)]) (st := []) (mX5_in z.1 hr) (md qX5_fix_ok) qX5_in_ok hz lkX5_76 rfl 3 0 (by decide +kernel) rfl rfl ?_
  show Aw z 7 [some (.inr 71), some (.inl x1), some (.inl x2)] [.inl r1] M
  refine ite_elim h (fun hc h => ?_) (fun hc h => ?_)
  · refine a_run (md qX5_fix_ok) hz 1 [1] (pc' := 20) (lv' := [some (.inr 71), some (.inl x1), some (.inl x2)]) (st' := []) (M' := M) (P := (r1 = 0) ∧ True) rfl ⟨hc, trivial⟩ ?_
    refine a_run (md qX5_fix_ok) hz 1 [] (pc' := 22) (lv' := [some (.inr 71), some (.inl x1), some (.inl x2)]) (st' := [.inl (-2 : Int)]) (M' := M) (P := True) rfl trivial ?_
    exact a_ri (md qX5_fix_ok) hz hR rfl (Or.inl rfl) h
  · refine a_run (md qX5_fix_ok) hz 1 [0] (pc' := 10) (lv' := [some (.inr 71), some (.inl x1), some (.inl x2)]) (st' := []) (M' := M) (P := (¬ (r1 = 0)) ∧ True) rfl ⟨hc, trivial⟩ ?_
    refine a_run (md qX5_fix_ok) hz 3 [] (pc' := 14) (lv' := [some (.inr 71), some (.inl x1), some (.inl x2)]) (st' := [.inl (63 : Int), .inl (0 : Int), .inl x2]) (M' := M) (P := True) rfl trivial ?_
    obtain ⟨r2, hr, h⟩ := cal_elim h
    refine a_fS (as := [.inl x2, .inl (0 : Int), .inl (63 : Int)]) (st := []) (mX5_in z.1 hr) (md qX5_fix_ok) qX5_in_ok hz lkX5_76 rfl 3 0 (by decide +kernel) rfl rfl ?_
    show Aw z 17 [some (.inr 71), some (.inl x1), some (.inl x2)] [.inl r2] M
    refine ite_elim h (fun hc h => ?_) (fun hc h => ?_)
    · refine a_run (md qX5_fix_ok) hz 1 [0] (pc' := 20) (lv' := [some (.inr 71), some (.inl x1), some (.inl x2)]) (st' := []) (M' := M) (P := (¬ ¬ r2 = 0) ∧ True) rfl ⟨fun h9 => h9 hc, trivial⟩ ?_
      refine a_run (md qX5_fix_ok) hz 1 [] (pc' := 22) (lv' := [some (.inr 71), some (.inl x1), some (.inl x2)]) (st' := [.inl (-2 : Int)]) (M' := M) (P := True) rfl trivial ?_
      exact a_ri (md qX5_fix_ok) hz hR rfl (Or.inl rfl) h
    · refine a_run (md qX5_fix_ok) hz 1 [1] (pc' := 23) (lv' := [some (.inr 71), some (.inl x1), some (.inl x2)]) (st' := []) (M' := M) (P := (¬ r2 = 0) ∧ True) rfl ⟨hc, trivial⟩ ?_
      refine ite_elim h (fun hc h => ?_) (fun hc h => ?_)
      · refine a_run (md qX5_fix_ok) hz 4 [0] (pc' := 32) (lv' := [some (.inr 71), some (.inl x1), some (.inl x2)]) (st' := []) (M' := M) (P := (¬ ¬ (M 71 10) = (16 : Int)) ∧ True) rfl ⟨fun h9 => h9 hc, trivial⟩ ?_
        refine a_run (md qX5_fix_ok) hz 1 [] (pc' := 34) (lv' := [some (.inr 71), some (.inl x1), some (.inl x2)]) (st' := [.inl (-4 : Int)]) (M' := M) (P := True) rfl trivial ?_
        exact a_ri (md qX5_fix_ok) hz hR rfl (Or.inl rfl) h
      · refine a_run (md qX5_fix_ok) hz 4 [1] (pc' := 35) (lv' := [some (.inr 71), some (.inl x1), some (.inl x2)]) (st' := []) (M' := M) (P := (¬ (M 71 10) = (16 : Int)) ∧ True) rfl ⟨hc, trivial⟩ ?_
        obtain ⟨h8, h⟩ := gd_elim h
        refine a_run (md qX5_fix_ok) hz 6 [] (pc' := 45) (lv' := [some (.inr 71), some (.inl x1), some (.inl x2)]) (st' := []) (M' := (up M 78 (M 71 10).toNat x1)) (P := (0 ≤ (M 71 10) ∧ (M 71 10) < 16) ∧ True) rfl ⟨h8, trivial⟩ ?_
        refine bnd_elim (G := fun (M3 : Mm) => Aw z 45 [some (.inr 71), some (.inl x1), some (.inl x2)] [] M3) h (fun M3 h => ?_)
        obtain ⟨h7, h⟩ := gd_elim h
        refine a_run (md qX5_fix_ok) hz 6 [] (pc' := 55) (lv' := [some (.inr 71), some (.inl x1), some (.inl x2)]) (st' := []) (M' := (up M3 79 (M3 71 10).toNat x2)) (P := (0 ≤ (M3 71 10) ∧ (M3 71 10) < 16) ∧ True) rfl ⟨h7, trivial⟩ ?_
        refine bnd_elim (G := fun (M4 : Mm) => Aw z 55 [some (.inr 71), some (.inl x1), some (.inl x2)] [] M4) h (fun M4 h => ?_)
        obtain ⟨h6, h⟩ := gd_elim h
        refine a_run (md qX5_fix_ok) hz 6 [] (pc' := 65) (lv' := [some (.inr 71), some (.inl x1), some (.inl x2)]) (st' := []) (M' := (up M4 71 10 ((M4 71 10) + (1 : Int)))) (P := (inR ((M4 71 10) + (1 : Int))) ∧ True) rfl ⟨h6, trivial⟩ ?_
        refine bnd_elim (G := fun (M5 : Mm) => Aw z 65 [some (.inr 71), some (.inl x1), some (.inl x2)] [] M5) h (fun M5 h => ?_)
        refine a_run (md qX5_fix_ok) hz 2 [] (pc' := 69) (lv' := [some (.inr 71), some (.inl x1), some (.inl x2)]) (st' := [.inl (M5 71 10)]) (M' := M5) (P := True) rfl trivial ?_
        exact a_ri (md qX5_fix_ok) hz hR rfl (Or.inl rfl) h
def fX5_drop (M : Mm) : Option (Int × Mm) := if (M 71 10) = 0 then some ((-5 : Int), M) else gd ((inR ((M 71 10) - (1 : Int)))) (bnd (up M 71 10 ((M 71 10) - (1 : Int))) (fun (M1 : Mm) => some ((M1 71 10), M1)))
set_option maxRecDepth 100000 in
theorem mX5_drop (g : Gx) {M : Mm} {r : Int} {M2 : Mm} (h : fX5_drop M = some (r, M2)) : Ct g qX5_drop [.inr 71] M (fun r' M' => r' = some r ∧ M' = M2) := by
  refine c_ofI h qX5_drop_ok (Nat.le_of_ble_eq_true rfl) (fun z hz Q hR h => ?_)
  unfold fX5_drop at h
  show Aw z 0 [some (.inr 71)] [] M
  refine ite_elim h (fun hc h => ?_) (fun hc h => ?_)
  · refine a_run (md qX5_drop_ok) hz 3 [0] (pc' := 7) (lv' := [some (.inr 71)]) (st' := []) (M' := M) (P := (¬ ¬ (M 71 10) = 0) ∧ True) rfl ⟨fun h9 => h9 hc, trivial⟩ ?_
    refine a_run (md qX5_drop_ok) hz 1 [] (pc' := 9) (lv' := [some (.inr 71)]) (st' := [.inl (-5 : Int)]) (M' := M) (P := True) rfl trivial ?_
    exact a_ri (md qX5_drop_ok) hz hR rfl (Or.inl rfl) h
  · refine a_run (md qX5_drop_ok) hz 3 [1] (pc' := 10) (lv' := [some (.inr 71)]) (st' := []) (M' := M) (P := (¬ (M 71 10) = 0) ∧ True) rfl ⟨hc, trivial⟩ ?_
    obtain ⟨h2, h⟩ := gd_elim h
    refine a_run (md qX5_drop_ok) hz 6 [] (pc' := 20) (lv' := [some (.inr 71)]) (st' := []) (M' := (up M 71 10 ((M 71 10) - (1 : Int)))) (P := (inR ((M 71 10) - (1 : Int))) ∧ True) rfl ⟨h2, trivial⟩ ?_
    refine bnd_elim (G := fun (M1 : Mm) => Aw z 20 [some (.inr 71)] [] M1) h (fun M1 h => ?_)
    refine a_run (md qX5_drop_ok) hz 2 [] (pc' := 24) (lv' := [some (.inr 71)]) (st' := [.inl (M1 71 10)]) (M' := M1) (P := True) rfl trivial ?_
    exact a_ri (md qX5_drop_ok) hz hR rfl (Or.inl rfl) h
def fX5_nearest_L6 (x1 : Int) (x2 : Int) (x3 : Int) (M : Mm) : Nat → Int → Int → Option (Int)
  | 0, _, _ => none
  | n + 1, v1, v2 => cal (fX5_length M x1) (fun (r3 : Int) => if r3 < v2 then some v1 else jn (fun (v4 : Int) (v5 : Int) => gd ((inR (v5 + (1 : Int)))) (fX5_nearest_L6 x1 x2 x3 M n v4 (v5 + (1 : Int)))) (fun (K6 : Int → Int → Option (Int)) => cal (fX5_spotX M x1 v2) (fun (r8 : Int) => cal (fX5_spotY M x1 v2) (fun (r9 : Int) => cal (fX5_apart M r8 r9 x2 x3) (fun (r10 : Int) => cal (fX5_spotX M x1 v1) (fun (r11 : Int) => cal (fX5_spotY M x1 v1) (fun (r12 : Int) => cal (fX5_apart M r11 r12 x2 x3) (fun (r13 : Int) => if r13 ≤ r10 then K6 v1 v2 else K6 v2 v2))))))))
def fX5_nearest (M : Mm) (x1 : Int) (x2 : Int) (x3 : Int) : Option (Int) := fX5_nearest_L6 x1 x2 x3 M 1000 (0 : Int) (1 : Int)
set_option maxRecDepth 100000 in
theorem mX5_nearest_L6 {z : Zx} (hz : Cx qX5_nearest z) {Q : Option Int → Mm → Prop} (hR : Rt Q z) {x1 : Int} {x2 : Int} {x3 : Int} {M : Mm} : ∀ (n : Nat) (v1 : Int) (v2 : Int), OK (fX5_nearest_L6 x1 x2 x3 M n v1 v2) (fun r2 => Q (some r2) M) → Aw z 6 [some (.inr 71), some (.inl x1), some (.inl x2), some (.inl x3), some (.inl v1), some (.inl v2)] [] M := by
  intro n
  induction n with
  | zero =>
    intro v1 v2 h
    exact (show False from h).elim
  | succ n ih =>
    intro v1 v2 h
    unfold fX5_nearest_L6 at h
    refine a_run (md qX5_nearest_ok) hz 3 [] (pc' := 10) (lv' := [some (.inr 71), some (.inl x1), some (.inl x2), some (.inl x3), some (.inl v1), some (.inl v2)]) (st' := [.inl x1, .inr 71, .inl v2]) (M' := M) (P := True) rfl trivial ?_
    obtain ⟨r3, hr, h⟩ := cal_elim h
    refine a_fV (as := [.inl x1]) (a := 71) (st := [.inl v2]) (mX5_length z.1 hr) (md qX5_nearest_ok) qX5_length_ok hz lkX5_98 rfl 1 1 (by decide +kernel) rfl rfl rfl rfl ?_
    show Aw z 13 [some (.inr 71), some (.inl x1), some (.inl x2), some (.inl x3), some (.inl v1), some (.inl v2)] [.inl r3, .inl v2] M
    refine ite_elim h (fun hc h => ?_) (fun hc h => ?_)
    · refine a_run (md qX5_nearest_ok) hz 1 [1] (pc' := 67) (lv' := [some (.inr 71), some (.inl x1), some (.inl x2), some (.inl x3), some (.inl v1), some (.inl v2)]) (st' := []) (M' := M) (P := (r3 < v2) ∧ True) rfl ⟨hc, trivial⟩ ?_
      refine a_run (md qX5_nearest_ok) hz 1 [] (pc' := 69) (lv' := [some (.inr 71), some (.inl x1), some (.inl x2), some (.inl x3), some (.inl v1), some (.inl v2)]) (st' := [.inl v1]) (M' := M) (P := True) rfl trivial ?_
      exact a_ri (md qX5_nearest_ok) hz hR rfl (Or.inl rfl) h
    · refine a_run (md qX5_nearest_ok) hz 1 [0] (pc' := 16) (lv' := [some (.inr 71), some (.inl x1), some (.inl x2), some (.inl x3), some (.inl v1), some (.inl v2)]) (st' := []) (M' := M) (P := (¬ (r3 < v2)) ∧ True) rfl ⟨hc, trivial⟩ ?_
      refine jn_elim h (fun (K6 : Int → Int → Option (Int)) => ∀ (v4 : Int), ∀ (v5 : Int), OK (K6 v4 v5) (fun r2 => Q (some r2) M) → Aw z 61 [some (.inr 71), some (.inl x1), some (.inl x2), some (.inl x3), some (.inl v4), some (.inl v5)] [] M) (fun v4 v5 h => ?_) (fun K6 hK6 h => ?_)
      · obtain ⟨h7, h⟩ := gd_elim h
        refine a_run (md qX5_nearest_ok) hz 2 [] (pc' := 6) (lv' := [some (.inr 71), some (.inl x1), some (.inl x2), some (.inl x3), some (.inl v4), some (.inl (v5 + (1 : Int)))]) (st' := []) (M' := M) (P := (inR (v5 + (1 : Int))) ∧ True) rfl ⟨h7, trivial⟩ ?_
        refine a_mask [true, true, true, true, true, true] ?_
        exact ih v4 (v5 + (1 : Int)) h
      · refine a_run (md qX5_nearest_ok) hz 3 [] (pc' := 20) (lv' := [some (.inr 71), some (.inl x1), some (.inl x2), some (.inl x3), some (.inl v1), some (.inl v2)]) (st' := [.inl v2, .inl x1, .inr 71]) (M' := M) (P := True) rfl trivial ?_
        obtain ⟨r8, hr, h⟩ := cal_elim h
        refine a_fV (as := [.inl x1, .inl v2]) (a := 71) (st := []) (mX5_spotX z.1 hr) (md qX5_nearest_ok) qX5_spotX_ok hz lkX5_102 rfl 2 0 (by decide +kernel) rfl rfl rfl rfl ?_
        show Aw z 23 [some (.inr 71), some (.inl x1), some (.inl x2), some (.inl x3), some (.inl v1), some (.inl v2)] [.inl r8] M
        refine a_run (md qX5_nearest_ok) hz 3 [] (pc' := 27) (lv' := [some (.inr 71), some (.inl x1), some (.inl x2), some (.inl x3), some (.inl v1), some (.inl v2)]) (st' := [.inl v2, .inl x1, .inr 71, .inl r8]) (M' := M) (P := True) rfl trivial ?_
        obtain ⟨r9, hr, h⟩ := cal_elim h
        refine a_fV (as := [.inl x1, .inl v2]) (a := 71) (st := [.inl r8]) (mX5_spotY z.1 hr) (md qX5_nearest_ok) qX5_spotY_ok hz lkX5_105 rfl 2 1 (by decide +kernel) rfl rfl rfl rfl ?_
        show Aw z 30 [some (.inr 71), some (.inl x1), some (.inl x2), some (.inl x3), some (.inl v1), some (.inl v2)] [.inl r9, .inl r8] M
        refine a_run (md qX5_nearest_ok) hz 2 [] (pc' := 32) (lv' := [some (.inr 71), some (.inl x1), some (.inl x2), some (.inl x3), some (.inl v1), some (.inl v2)]) (st' := [.inl x3, .inl x2, .inl r9, .inl r8]) (M' := M) (P := True) rfl trivial ?_
        obtain ⟨r10, hr, h⟩ := cal_elim h
        refine a_fS (as := [.inl r8, .inl r9, .inl x2, .inl x3]) (st := []) (mX5_apart z.1 hr) (md qX5_nearest_ok) qX5_apart_ok hz lkX5_90 rfl 4 0 (by decide +kernel) rfl rfl ?_
        show Aw z 35 [some (.inr 71), some (.inl x1), some (.inl x2), some (.inl x3), some (.inl v1), some (.inl v2)] [.inl r10] M
        refine a_run (md qX5_nearest_ok) hz 3 [] (pc' := 39) (lv' := [some (.inr 71), some (.inl x1), some (.inl x2), some (.inl x3), some (.inl v1), some (.inl v2)]) (st' := [.inl v1, .inl x1, .inr 71, .inl r10]) (M' := M) (P := True) rfl trivial ?_
        obtain ⟨r11, hr, h⟩ := cal_elim h
        refine a_fV (as := [.inl x1, .inl v1]) (a := 71) (st := [.inl r10]) (mX5_spotX z.1 hr) (md qX5_nearest_ok) qX5_spotX_ok hz lkX5_102 rfl 2 1 (by decide +kernel) rfl rfl rfl rfl ?_
        show Aw z 42 [some (.inr 71), some (.inl x1), some (.inl x2), some (.inl x3), some (.inl v1), some (.inl v2)] [.inl r11, .inl r10] M
        refine a_run (md qX5_nearest_ok) hz 3 [] (pc' := 46) (lv' := [some (.inr 71), some (.inl x1), some (.inl x2), some (.inl x3), some (.inl v1), some (.inl v2)]) (st' := [.inl v1, .inl x1, .inr 71, .inl r11, .inl r10]) (M' := M) (P := True) rfl trivial ?_
        obtain ⟨r12, hr, h⟩ := cal_elim h
        refine a_fV (as := [.inl x1, .inl v1]) (a := 71) (st := [.inl r11, .inl r10]) (mX5_spotY z.1 hr) (md qX5_nearest_ok) qX5_spotY_ok hz lkX5_105 rfl 2 2 (by decide +kernel) rfl rfl rfl rfl ?_
        show Aw z 49 [some (.inr 71), some (.inl x1), some (.inl x2), some (.inl x3), some (.inl v1), some (.inl v2)] [.inl r12, .inl r11, .inl r10] M
        refine a_run (md qX5_nearest_ok) hz 2 [] (pc' := 51) (lv' := [some (.inr 71), some (.inl x1), some (.inl x2), some (.inl x3), some (.inl v1), some (.inl v2)]) (st' := [.inl x3, .inl x2, .inl r12, .inl r11, .inl r10]) (M' := M) (P := True) rfl trivial ?_
        obtain ⟨r13, hr, h⟩ := cal_elim h
        refine a_fS (as := [.inl r11, .inl r12, .inl x2, .inl x3]) (st := [.inl r10]) (mX5_apart z.1 hr) (md qX5_nearest_ok) qX5_apart_ok hz lkX5_90 rfl 4 1 (by decide +kernel) rfl rfl ?_
        show Aw z 54 [some (.inr 71), some (.inl x1), some (.inl x2), some (.inl x3), some (.inl v1), some (.inl v2)] [.inl r13, .inl r10] M
        refine ite_elim h (fun hc h => ?_) (fun hc h => ?_)
        · refine a_run (md qX5_nearest_ok) hz 1 [1] (pc' := 61) (lv' := [some (.inr 71), some (.inl x1), some (.inl x2), some (.inl x3), some (.inl v1), some (.inl v2)]) (st' := []) (M' := M) (P := (r13 ≤ r10) ∧ True) rfl ⟨hc, trivial⟩ ?_
          refine a_mask [true, true, true, true, true, true] ?_
          exact hK6 v1 v2 h
        · refine a_run (md qX5_nearest_ok) hz 1 [0] (pc' := 57) (lv' := [some (.inr 71), some (.inl x1), some (.inl x2), some (.inl x3), some (.inl v1), some (.inl v2)]) (st' := []) (M' := M) (P := (¬ (r13 ≤ r10)) ∧ True) rfl ⟨hc, trivial⟩ ?_
          refine a_run (md qX5_nearest_ok) hz 2 [] (pc' := 61) (lv' := [some (.inr 71), some (.inl x1), some (.inl x2), some (.inl x3), some (.inl v2), some (.inl v2)]) (st' := []) (M' := M) (P := True) rfl trivial ?_
          refine a_mask [true, true, true, true, true, true] ?_
          exact hK6 v2 v2 h
set_option maxRecDepth 100000 in
theorem mX5_nearest (g : Gx) {M : Mm} {x1 : Int} {x2 : Int} {x3 : Int} {r : Int} (h : fX5_nearest M x1 x2 x3 = some r) : Ct g qX5_nearest [.inr 71, .inl x1, .inl x2, .inl x3] M (fun r' M' => r' = some r ∧ M' = M) := by
  refine c_ofP h qX5_nearest_ok (Nat.le_of_ble_eq_true rfl) (fun z hz Q hR h => ?_)
  unfold fX5_nearest at h
  show Aw z 0 [some (.inr 71), some (.inl x1), some (.inl x2), some (.inl x3), none, none] [] M
  refine a_run (md qX5_nearest_ok) hz 4 [] (pc' := 6) (lv' := [some (.inr 71), some (.inl x1), some (.inl x2), some (.inl x3), some (.inl (0 : Int)), some (.inl (1 : Int))]) (st' := []) (M' := M) (P := True) rfl trivial ?_
  refine a_mask [true, true, true, true, true, true] ?_
  refine mX5_nearest_L6 hz hR  1000 (0 : Int) (1 : Int) h
def fX5_layCandidates_L9 (x1 : Int) : Nat → Int → Mm → Option (Mm)
  | 0, _, _ => none
  | n + 1, v2, M3 => if (M3 71 6) ≤ v2 then some M3 else jn (fun (v4 : Int) (M5 : Mm) => gd ((inR (v4 + (1 : Int)))) (fX5_layCandidates_L9 x1 n (v4 + (1 : Int)) M5)) (fun (K6 : Int → Mm → Option (Mm)) => gd ((0 ≤ x1 ∧ x1 < 16) ∧ (0 ≤ x1 ∧ x1 < 16)) (cal (fX5_nearest M3 v2 (M3 78 x1.toNat) (M3 79 x1.toNat)) (fun (r8 : Int) => cal (fX5_spotX M3 v2 r8) (fun (r9 : Int) => cal (fX5_spotY M3 v2 r8) (fun (r10 : Int) => gd ((0 ≤ x1 ∧ x1 < 16) ∧ (0 ≤ x1 ∧ x1 < 16)) (cal (fX5_apart M3 r9 r10 (M3 78 x1.toNat) (M3 79 x1.toNat)) (fun (r11 : Int) => if (M3 77 (0 : Int).toNat) < r11 then K6 v2 M3 else gd ((inR ((20 : Int) * x1)) ∧ (0 ≤ x1 ∧ x1 < 16) ∧ (inR (((20 : Int) * x1) + (M3 85 x1.toNat))) ∧ (inR ((100 : Int) * v2)) ∧ (inR (((100 : Int) * v2) + r8)) ∧ (0 ≤ (((20 : Int) * x1) + (M3 85 x1.toNat)) ∧ (((20 : Int) * x1) + (M3 85 x1.toNat)) < 320)) (bnd (up M3 81 (((20 : Int) * x1) + (M3 85 x1.toNat)).toNat (((100 : Int) * v2) + r8)) (fun (M12 : Mm) => gd ((inR ((20 : Int) * x1)) ∧ (0 ≤ x1 ∧ x1 < 16) ∧ (inR (((20 : Int) * x1) + (M12 85 x1.toNat))) ∧ (0 ≤ (((20 : Int) * x1) + (M12 85 x1.toNat)) ∧ (((20 : Int) * x1) + (M12 85 x1.toNat)) < 320)) (bnd (up M12 82 (((20 : Int) * x1) + (M12 85 x1.toNat)).toNat r11) (fun (M13 : Mm) => gd ((0 ≤ x1 ∧ x1 < 16) ∧ (inR ((M13 85 x1.toNat) + (1 : Int))) ∧ (0 ≤ x1 ∧ x1 < 16)) (bnd (up M13 85 x1.toNat ((M13 85 x1.toNat) + (1 : Int))) (fun (M14 : Mm) => K6 v2 M14)))))))))))))
def fX5_layCandidates (M : Mm) (x1 : Int) : Option (Mm) := gd ((0 ≤ x1 ∧ x1 < 16)) (bnd (up M 85 x1.toNat (0 : Int)) (fun (M1 : Mm) => fX5_layCandidates_L9 x1 1000 (0 : Int) M1))
set_option maxRecDepth 100000 in
theorem mX5_layCandidates_L9 {z : Zx} (hz : Cx qX5_layCandidates z) {Q : Option Int → Mm → Prop} (hR : Rt Q z) {x1 : Int} : ∀ (n : Nat) (v2 : Int) (M3 : Mm), OK (fX5_layCandidates_L9 x1 n v2 M3) (fun r2 => Q none r2) → Aw z 9 [some (.inr 71), some (.inl x1), some (.inl v2), none, none] [] M3 := by
  intro n
  induction n with
  | zero =>
    intro v2 M3 h
    exact (show False from h).elim
  | succ n ih =>
    intro v2 M3 h
    unfold fX5_layCandidates_L9 at h
    refine ite_elim h (fun hc h => ?_) (fun hc h => ?_)
    · refine a_run (md qX5_layCandidates_ok) hz 4 [1] (pc' := 131) (lv' := [some (.inr 71), some (.inl x1), some (.inl v2), none, none]) (st' := []) (M' := M3) (P := ((M3 71 6) ≤ v2) ∧ True) rfl ⟨hc, trivial⟩ ?_
      exact a_rv (md qX5_layCandidates_ok) hz hR rfl rfl h
    · refine a_run (md qX5_layCandidates_ok) hz 4 [0] (pc' := 17) (lv' := [some (.inr 71), some (.inl x1), some (.inl v2), none, none]) (st' := []) (M' := M3) (P := (¬ ((M3 71 6) ≤ v2)) ∧ True) rfl ⟨hc, trivial⟩ ?_
      refine jn_elim h (fun (K6 : Int → Mm → Option (Mm)) => ∀ (v4 : Int), ∀ (M5 : Mm), OK (K6 v4 M5) (fun r2 => Q none r2) → Aw z 125 [some (.inr 71), some (.inl x1), some (.inl v4), none, none] [] M5) (fun v4 M5 h => ?_) (fun K6 hK6 h => ?_)
      · obtain ⟨h7, h⟩ := gd_elim h
        refine a_run (md qX5_layCandidates_ok) hz 2 [] (pc' := 9) (lv' := [some (.inr 71), some (.inl x1), some (.inl (v4 + (1 : Int))), none, none]) (st' := []) (M' := M5) (P := (inR (v4 + (1 : Int))) ∧ True) rfl ⟨h7, trivial⟩ ?_
        refine a_mask [true, true, true, false, false] ?_
        exact ih (v4 + (1 : Int)) M5 h
      · obtain ⟨⟨h30, h31⟩, h⟩ := gd_elim h
        refine a_run (md qX5_layCandidates_ok) hz 10 [] (pc' := 31) (lv' := [some (.inr 71), some (.inl x1), some (.inl v2), none, none]) (st' := [.inl (M3 79 x1.toNat), .inl (M3 78 x1.toNat), .inl v2, .inr 71]) (M' := M3) (P := (0 ≤ x1 ∧ x1 < 16) ∧ (0 ≤ x1 ∧ x1 < 16) ∧ True) rfl ⟨h30, h31, trivial⟩ ?_
        obtain ⟨r8, hr, h⟩ := cal_elim h
        refine a_fV (as := [.inl v2, .inl (M3 78 x1.toNat), .inl (M3 79 x1.toNat)]) (a := 71) (st := []) (mX5_nearest z.1 hr) (md qX5_layCandidates_ok) qX5_nearest_ok hz lkX5_124 rfl 3 0 (by decide +kernel) rfl rfl rfl rfl ?_
        show Aw z 34 [some (.inr 71), some (.inl x1), some (.inl v2), none, none] [.inl r8] M3
        refine a_run (md qX5_layCandidates_ok) hz 4 [] (pc' := 38) (lv' := [some (.inr 71), some (.inl x1), some (.inl v2), some (.inl r8), none]) (st' := [.inl r8, .inl v2, .inr 71]) (M' := M3) (P := True) rfl trivial ?_
        obtain ⟨r9, hr, h⟩ := cal_elim h
        refine a_fV (as := [.inl v2, .inl r8]) (a := 71) (st := []) (mX5_spotX z.1 hr) (md qX5_layCandidates_ok) qX5_spotX_ok hz lkX5_102 rfl 2 0 (by decide +kernel) rfl rfl rfl rfl ?_
        show Aw z 41 [some (.inr 71), some (.inl x1), some (.inl v2), some (.inl r8), none] [.inl r9] M3
        refine a_run (md qX5_layCandidates_ok) hz 3 [] (pc' := 44) (lv' := [some (.inr 71), some (.inl x1), some (.inl v2), some (.inl r8), none]) (st' := [.inl r8, .inl v2, .inr 71, .inl r9]) (M' := M3) (P := True) rfl trivial ?_
        obtain ⟨r10, hr, h⟩ := cal_elim h
        refine a_fV (as := [.inl v2, .inl r8]) (a := 71) (st := [.inl r9]) (mX5_spotY z.1 hr) (md qX5_layCandidates_ok) qX5_spotY_ok hz lkX5_105 rfl 2 1 (by decide +kernel) rfl rfl rfl rfl ?_
        show Aw z 47 [some (.inr 71), some (.inl x1), some (.inl v2), some (.inl r8), none] [.inl r10, .inl r9] M3
        obtain ⟨⟨h28, h29⟩, h⟩ := gd_elim h
        refine a_run (md qX5_layCandidates_ok) hz 8 [] (pc' := 59) (lv' := [some (.inr 71), some (.inl x1), some (.inl v2), some (.inl r8), none]) (st' := [.inl (M3 79 x1.toNat), .inl (M3 78 x1.toNat), .inl r10, .inl r9]) (M' := M3) (P := (0 ≤ x1 ∧ x1 < 16) ∧ (0 ≤ x1 ∧ x1 < 16) ∧ True) rfl ⟨h28, h29, trivial⟩ ?_
        obtain ⟨r11, hr, h⟩ := cal_elim h
        refine a_fS (as := [.inl r9, .inl r10, .inl (M3 78 x1.toNat), .inl (M3 79 x1.toNat)]) (st := []) (mX5_apart z.1 hr) (md qX5_layCandidates_ok) qX5_apart_ok hz lkX5_90 rfl 4 0 (by decide +kernel) rfl rfl ?_
        show Aw z 62 [some (.inr 71), some (.inl x1), some (.inl v2), some (.inl r8), none] [.inl r11] M3
        refine ite_elim h (fun hc h => ?_) (fun hc h => ?_)
        · refine a_run (md qX5_layCandidates_ok) hz 7 [1] (pc' := 125) (lv' := [some (.inr 71), some (.inl x1), some (.inl v2), some (.inl r8), some (.inl r11)]) (st' := []) (M' := M3) (P := (0 ≤ (0 : Int) ∧ (0 : Int) < 4) ∧ ((M3 77 (0 : Int).toNat) < r11) ∧ True) rfl ⟨by decide, hc, trivial⟩ ?_
          refine a_mask [true, true, true, false, false] ?_
          exact hK6 v2 M3 h
        · refine a_run (md qX5_layCandidates_ok) hz 7 [0] (pc' := 75) (lv' := [some (.inr 71), some (.inl x1), some (.inl v2), some (.inl r8), some (.inl r11)]) (st' := []) (M' := M3) (P := (0 ≤ (0 : Int) ∧ (0 : Int) < 4) ∧ (¬ ((M3 77 (0 : Int).toNat) < r11)) ∧ True) rfl ⟨by decide, hc, trivial⟩ ?_
          obtain ⟨⟨h22, h23, h24, h25, h26, h27⟩, h⟩ := gd_elim h
          refine a_run (md qX5_layCandidates_ok) hz 16 [] (pc' := 97) (lv' := [some (.inr 71), some (.inl x1), some (.inl v2), some (.inl r8), some (.inl r11)]) (st' := []) (M' := (up M3 81 (((20 : Int) * x1) + (M3 85 x1.toNat)).toNat (((100 : Int) * v2) + r8))) (P := (inR ((20 : Int) * x1)) ∧ (0 ≤ x1 ∧ x1 < 16) ∧ (inR (((20 : Int) * x1) + (M3 85 x1.toNat))) ∧ (inR ((100 : Int) * v2)) ∧ (inR (((100 : Int) * v2) + r8)) ∧ (0 ≤ (((20 : Int) * x1) + (M3 85 x1.toNat)) ∧ (((20 : Int) * x1) + (M3 85 x1.toNat)) < 320) ∧ True) rfl ⟨h22, h23, h24, h25, h26, h27, trivial⟩ ?_
          refine bnd_elim (G := fun (M12 : Mm) => Aw z 97 [some (.inr 71), some (.inl x1), some (.inl v2), some (.inl r8), some (.inl r11)] [] M12) h (fun M12 h => ?_)
          obtain ⟨⟨h18, h19, h20, h21⟩, h⟩ := gd_elim h
          refine a_run (md qX5_layCandidates_ok) hz 12 [] (pc' := 115) (lv' := [some (.inr 71), some (.inl x1), some (.inl v2), some (.inl r8), some (.inl r11)]) (st' := []) (M' := (up M12 82 (((20 : Int) * x1) + (M12 85 x1.toNat)).toNat r11)) (P := (inR ((20 : Int) * x1)) ∧ (0 ≤ x1 ∧ x1 < 16) ∧ (inR (((20 : Int) * x1) + (M12 85 x1.toNat))) ∧ (0 ≤ (((20 : Int) * x1) + (M12 85 x1.toNat)) ∧ (((20 : Int) * x1) + (M12 85 x1.toNat)) < 320) ∧ True) rfl ⟨h18, h19, h20, h21, trivial⟩ ?_
          refine bnd_elim (G := fun (M13 : Mm) => Aw z 115 [some (.inr 71), some (.inl x1), some (.inl v2), some (.inl r8), some (.inl r11)] [] M13) h (fun M13 h => ?_)
          obtain ⟨⟨h15, h16, h17⟩, h⟩ := gd_elim h
          refine a_run (md qX5_layCandidates_ok) hz 8 [] (pc' := 125) (lv' := [some (.inr 71), some (.inl x1), some (.inl v2), some (.inl r8), some (.inl r11)]) (st' := []) (M' := (up M13 85 x1.toNat ((M13 85 x1.toNat) + (1 : Int)))) (P := (0 ≤ x1 ∧ x1 < 16) ∧ (inR ((M13 85 x1.toNat) + (1 : Int))) ∧ (0 ≤ x1 ∧ x1 < 16) ∧ True) rfl ⟨h15, h16, h17, trivial⟩ ?_
          refine bnd_elim (G := fun (M14 : Mm) => Aw z 125 [some (.inr 71), some (.inl x1), some (.inl v2), some (.inl r8), some (.inl r11)] [] M14) h (fun M14 h => ?_)
          refine a_mask [true, true, true, false, false] ?_
          exact hK6 v2 M14 h
set_option maxRecDepth 100000 in
theorem mX5_layCandidates (g : Gx) {M : Mm} {x1 : Int} {M2 : Mm} (h : fX5_layCandidates M x1 = some M2) : Ct g qX5_layCandidates [.inr 71, .inl x1] M (fun r' M' => r' = none ∧ M' = M2) := by
  refine c_ofV h qX5_layCandidates_ok (Nat.le_of_ble_eq_true rfl) (fun z hz Q hR h => ?_)
  unfold fX5_layCandidates at h
  show Aw z 0 [some (.inr 71), some (.inl x1), none, none, none] [] M
  obtain ⟨h32, h⟩ := gd_elim h
  refine a_run (md qX5_layCandidates_ok) hz 5 [] (pc' := 7) (lv' := [some (.inr 71), some (.inl x1), none, none, none]) (st' := []) (M' := (up M 85 x1.toNat (0 : Int))) (P := (0 ≤ x1 ∧ x1 < 16) ∧ True) rfl ⟨h32, trivial⟩ ?_
  refine bnd_elim (G := fun (M1 : Mm) => Aw z 7 [some (.inr 71), some (.inl x1), none, none, none] [] M1) h (fun M1 h => ?_)
  refine a_run (md qX5_layCandidates_ok) hz 2 [] (pc' := 9) (lv' := [some (.inr 71), some (.inl x1), some (.inl (0 : Int)), none, none]) (st' := []) (M' := M1) (P := True) rfl trivial ?_
  refine a_mask [true, true, true, false, false] ?_
  refine mX5_layCandidates_L9 hz hR  1000 (0 : Int) M1 h
def fX5_goOn_L77 (x1 : Int) (x2 : Int) (k235 : Int → Int → Int → Mm → Option (Int × Mm)) : Nat → Int → Int → Int → Int → Mm → Option (Int × Mm)
  | 0, _, _, _, _, _ => none
  | n + 1, v9, v10, v11, v12, M13 => gd ((inR ((20 : Int) * x2)) ∧ (0 ≤ x2 ∧ x2 < 16) ∧ (inR (((20 : Int) * x2) + (M13 85 x2.toNat)))) (if (((20 : Int) * x2) + (M13 85 x2.toNat)) ≤ v12 then k235 v9 v10 v11 M13 else jn (fun (v29 : Int) (v30 : Int) (v31 : Int) (v32 : Int) (w33 : Int) (M34 : Mm) => jn (fun (v36 : Int) (v37 : Int) (v38 : Int) (v39 : Int) (M40 : Mm) => gd ((inR (v39 + (1 : Int)))) (fX5_goOn_L77 x1 x2 k235 n v36 v37 v38 (v39 + (1 : Int)) M40)) (fun (K41 : Int → Int → Int → Int → Mm → Option (Int × Mm)) => if w33 < 0 then K41 v29 v30 v31 v32 M34 else gd ((inR (v29 + (M34 77 (3 : Int).toNat)))) (if (v29 + (M34 77 (3 : Int).toNat)) < w33 then K41 v29 v30 v31 v32 M34 else jn (fun (v43 : Int) (v44 : Int) (v45 : Int) (v46 : Int) (v47 : Int) (M48 : Mm) => gd ((0 ≤ v45 ∧ v45 < 320)) (bnd (up M48 83 v45.toNat v47) (fun (M50 : Mm) => gd ((inR ((20 : Int) * x2)) ∧ (inR (v46 - ((20 : Int) * x2))) ∧ (0 ≤ v45 ∧ v45 < 320)) (bnd (up M50 84 v45.toNat (v46 - ((20 : Int) * x2))) (fun (M51 : Mm) => K41 v43 v44 v45 v46 M51))))) (fun (K49 : Int → Int → Int → Int → Int → Mm → Option (Int × Mm)) => gd ((0 ≤ v32 ∧ v32 < 320)) (cal (fX5_off M34 w33 v29) (fun (r56 : Int) => gd ((inR ((M34 77 (2 : Int).toNat) * r56)) ∧ (inR ((M34 83 v32.toNat) + ((M34 77 (2 : Int).toNat) * r56))) ∧ (0 ≤ v31 ∧ v31 < 320) ∧ (inR ((M34 77 (1 : Int).toNat) * (M34 82 v31.toNat))) ∧ (inR (((M34 83 v32.toNat) + ((M34 77 (2 : Int).toNat) * r56)) + ((M34 77 (1 : Int).toNat) * (M34 82 v31.toNat))))) (bnd (((M34 83 v32.toNat) + ((M34 77 (2 : Int).toNat) * r56)) + ((M34 77 (1 : Int).toNat) * (M34 82 v31.toNat))) (fun (t57 : Int) => gd ((0 ≤ v31 ∧ v31 < 320)) (if (M34 83 v31.toNat) < 0 then K49 v29 v30 v31 v32 t57 M34 else gd ((0 ≤ v31 ∧ v31 < 320)) (if (M34 83 v31.toNat) ≤ t57 then K41 v29 v30 v31 v32 M34 else K49 v29 v30 v31 v32 t57 M34)))))))))) (fun (K35 : Int → Int → Int → Int → Int → Mm → Option (Int × Mm)) => gd ((0 ≤ v12 ∧ v12 < 320)) (if 0 ≤ (M13 83 v12.toNat) then gd ((0 ≤ v12 ∧ v12 < 320) ∧ (0 ≤ v11 ∧ v11 < 320)) (cal (fX5_wayOf M13 (M13 81 v12.toNat) (M13 81 v11.toNat)) (fun (r67 : Int) => K35 v9 v10 v11 v12 r67 M13)) else K35 v9 v10 v11 v12 (-6 : Int) M13)))
def fX5_goOn_L37 (x1 : Int) (x2 : Int) : Nat → Int → Int → Int → Mm → Option (Int × Mm)
  | 0, _, _, _, _ => none
  | n + 1, v2, v3, v4, M5 => gd ((inR ((20 : Int) * x1)) ∧ (0 ≤ x1 ∧ x1 < 16) ∧ (inR (((20 : Int) * x1) + (M5 85 x1.toNat)))) (if (((20 : Int) * x1) + (M5 85 x1.toNat)) ≤ v4 then gd ((v3 = 0 ∨ v3 = 1)) (some (v3, M5)) else gd ((0 ≤ v4 ∧ v4 < 320)) (bnd (up M5 83 v4.toNat (-6 : Int)) (fun (M7 : Mm) => gd ((0 ≤ v4 ∧ v4 < 320)) (bnd (up M7 84 v4.toNat (-6 : Int)) (fun (M8 : Mm) => gd ((inR ((20 : Int) * x2))) (fX5_goOn_L77 x1 x2 (fun (v14 : Int) (v15 : Int) (v16 : Int) (M17 : Mm) => jn (fun (v18 : Int) (v19 : Int) (w20 : Int) (M21 : Mm) => gd ((inR (v19 + (1 : Int)))) (fX5_goOn_L37 x1 x2 n v18 w20 (v19 + (1 : Int)) M21)) (fun (K22 : Int → Int → Int → Mm → Option (Int × Mm)) => jn (fun (v24 : Int) (v25 : Int) (M26 : Mm) => K22 v24 v25 (1 : Int) M26) (fun (K27 : Int → Int → Mm → Option (Int × Mm)) => if v15 = 0 then gd ((0 ≤ v16 ∧ v16 < 320)) (if (M17 83 v16.toNat) < 0 then K22 v14 v16 (0 : Int) M17 else K27 v14 v16 M17) else K27 v14 v16 M17))) 1000 v2 v3 v4 ((20 : Int) * x2) M8))))))
def fX5_goOn (M : Mm) (x1 : Int) (x2 : Int) : Option (Int × Mm) := gd ((0 ≤ x1 ∧ x1 < 16) ∧ (0 ≤ x1 ∧ x1 < 16) ∧ (0 ≤ x2 ∧ x2 < 16) ∧ (0 ≤ x2 ∧ x2 < 16)) (cal (fX5_apart M (M 78 x1.toNat) (M 79 x1.toNat) (M 78 x2.toNat) (M 79 x2.toNat)) (fun (r1 : Int) => gd ((inR ((20 : Int) * x1))) (fX5_goOn_L37 x1 x2 1000 r1 (0 : Int) ((20 : Int) * x1) M)))
set_option maxRecDepth 100000 in
theorem mX5_goOn_L77 {z : Zx} (hz : Cx qX5_goOn z) {Q : Option Int → Mm → Prop} (hR : Rt Q z) {x1 : Int} {x2 : Int} {k235 : Int → Int → Int → Mm → Option (Int × Mm)} (hk235 : ∀ (v14 : Int), ∀ (v15 : Int), ∀ (v16 : Int), ∀ (M17 : Mm), OK (k235 v14 v15 v16 M17) (fun r2 => Q (some r2.1) r2.2) → Aw z 235 [some (.inr 71), some (.inl x1), some (.inl x2), some (.inl v14), some (.inl v15), some (.inl v16), none, none, none] [] M17) : ∀ (n : Nat) (v9 : Int) (v10 : Int) (v11 : Int) (v12 : Int) (M13 : Mm), OK (fX5_goOn_L77 x1 x2 k235 n v9 v10 v11 v12 M13) (fun r2 => Q (some r2.1) r2.2) → Aw z 77 [some (.inr 71), some (.inl x1), some (.inl x2), some (.inl v9), some (.inl v10), some (.inl v11), some (.inl v12), none, none] [] M13 := by
  intro n
  induction n with
  | zero =>
    intro v9 v10 v11 v12 M13 h
    exact (show False from h).elim
  | succ n ih =>
    intro v9 v10 v11 v12 M13 h
    unfold fX5_goOn_L77 at h
    obtain ⟨⟨h71, h72, h73⟩, h⟩ := gd_elim h
    refine ite_elim h (fun hc h => ?_) (fun hc h => ?_)
    · refine a_run (md qX5_goOn_ok) hz 10 [1] (pc' := 235) (lv' := [some (.inr 71), some (.inl x1), some (.inl x2), some (.inl v9), some (.inl v10), some (.inl v11), some (.inl v12), none, none]) (st' := []) (M' := M13) (P := (inR ((20 : Int) * x2)) ∧ (0 ≤ x2 ∧ x2 < 16) ∧ (inR (((20 : Int) * x2) + (M13 85 x2.toNat))) ∧ ((((20 : Int) * x2) + (M13 85 x2.toNat)) ≤ v12) ∧ True) rfl ⟨h71, h72, h73, hc, trivial⟩ ?_
      refine a_mask [true, true, true, true, true, true, false, false, false] ?_
      exact hk235 v9 v10 v11 M13 h
    · refine a_run (md qX5_goOn_ok) hz 10 [0] (pc' := 93) (lv' := [some (.inr 71), some (.inl x1), some (.inl x2), some (.inl v9), some (.inl v10), some (.inl v11), some (.inl v12), none, none]) (st' := []) (M' := M13) (P := (inR ((20 : Int) * x2)) ∧ (0 ≤ x2 ∧ x2 < 16) ∧ (inR (((20 : Int) * x2) + (M13 85 x2.toNat))) ∧ (¬ ((((20 : Int) * x2) + (M13 85 x2.toNat)) ≤ v12)) ∧ True) rfl ⟨h71, h72, h73, hc, trivial⟩ ?_
      refine jn_elim h (fun (K35 : Int → Int → Int → Int → Int → Mm → Option (Int × Mm)) => ∀ (v29 : Int), ∀ (v30 : Int), ∀ (v31 : Int), ∀ (v32 : Int), ∀ (w33 : Int), ∀ (M34 : Mm), OK (K35 v29 v30 v31 v32 w33 M34) (fun r2 => Q (some r2.1) r2.2) → Aw z 126 [some (.inr 71), some (.inl x1), some (.inl x2), some (.inl v29), some (.inl v30), some (.inl v31), some (.inl v32), none, none] [.inl w33] M34) (fun v29 v30 v31 v32 w33 M34 h => ?_) (fun K35 hK35 h => ?_)
      · refine jn_elim h (fun (K41 : Int → Int → Int → Int → Mm → Option (Int × Mm)) => ∀ (v36 : Int), ∀ (v37 : Int), ∀ (v38 : Int), ∀ (v39 : Int), ∀ (M40 : Mm), OK (K41 v36 v37 v38 v39 M40) (fun r2 => Q (some r2.1) r2.2) → Aw z 229 [some (.inr 71), some (.inl x1), some (.inl x2), some (.inl v36), some (.inl v37), some (.inl v38), some (.inl v39), none, none] [] M40) (fun v36 v37 v38 v39 M40 h => ?_) (fun K41 hK41 h => ?_)
        · obtain ⟨h42, h⟩ := gd_elim h
          refine a_run (md qX5_goOn_ok) hz 2 [] (pc' := 77) (lv' := [some (.inr 71), some (.inl x1), some (.inl x2), some (.inl v36), some (.inl v37), some (.inl v38), some (.inl (v39 + (1 : Int))), none, none]) (st' := []) (M' := M40) (P := (inR (v39 + (1 : Int))) ∧ True) rfl ⟨h42, trivial⟩ ?_
          refine a_mask [true, true, true, true, true, true, true, false, false] ?_
          exact ih v36 v37 v38 (v39 + (1 : Int)) M40 h
        · refine ite_elim h (fun hc h => ?_) (fun hc h => ?_)
          · refine a_run (md qX5_goOn_ok) hz 3 [1] (pc' := 229) (lv' := [some (.inr 71), some (.inl x1), some (.inl x2), some (.inl v29), some (.inl v30), some (.inl v31), some (.inl v32), some (.inl w33), none]) (st' := []) (M' := M34) (P := (w33 < 0) ∧ True) rfl ⟨hc, trivial⟩ ?_
            refine a_mask [true, true, true, true, true, true, true, false, false] ?_
            exact hK41 v29 v30 v31 v32 M34 h
          · refine a_run (md qX5_goOn_ok) hz 3 [0] (pc' := 133) (lv' := [some (.inr 71), some (.inl x1), some (.inl x2), some (.inl v29), some (.inl v30), some (.inl v31), some (.inl v32), some (.inl w33), none]) (st' := []) (M' := M34) (P := (¬ (w33 < 0)) ∧ True) rfl ⟨hc, trivial⟩ ?_
            obtain ⟨h66, h⟩ := gd_elim h
            refine ite_elim h (fun hc h => ?_) (fun hc h => ?_)
            · refine a_run (md qX5_goOn_ok) hz 8 [1] (pc' := 229) (lv' := [some (.inr 71), some (.inl x1), some (.inl x2), some (.inl v29), some (.inl v30), some (.inl v31), some (.inl v32), some (.inl w33), none]) (st' := []) (M' := M34) (P := (0 ≤ (3 : Int) ∧ (3 : Int) < 4) ∧ (inR (v29 + (M34 77 (3 : Int).toNat))) ∧ ((v29 + (M34 77 (3 : Int).toNat)) < w33) ∧ True) rfl ⟨by decide, h66, hc, trivial⟩ ?_
              refine a_mask [true, true, true, true, true, true, true, false, false] ?_
              exact hK41 v29 v30 v31 v32 M34 h
            · refine a_run (md qX5_goOn_ok) hz 8 [0] (pc' := 146) (lv' := [some (.inr 71), some (.inl x1), some (.inl x2), some (.inl v29), some (.inl v30), some (.inl v31), some (.inl v32), some (.inl w33), none]) (st' := []) (M' := M34) (P := (0 ≤ (3 : Int) ∧ (3 : Int) < 4) ∧ (inR (v29 + (M34 77 (3 : Int).toNat))) ∧ (¬ ((v29 + (M34 77 (3 : Int).toNat)) < w33)) ∧ True) rfl ⟨by decide, h66, hc, trivial⟩ ?_
              refine jn_elim h (fun (K49 : Int → Int → Int → Int → Int → Mm → Option (Int × Mm)) => ∀ (v43 : Int), ∀ (v44 : Int), ∀ (v45 : Int), ∀ (v46 : Int), ∀ (v47 : Int), ∀ (M48 : Mm), OK (K49 v43 v44 v45 v46 v47 M48) (fun r2 => Q (some r2.1) r2.2) → Aw z 206 [some (.inr 71), some (.inl x1), some (.inl x2), some (.inl v43), some (.inl v44), some (.inl v45), some (.inl v46), none, some (.inl v47)] [] M48) (fun v43 v44 v45 v46 v47 M48 h => ?_) (fun K49 hK49 h => ?_)
              · obtain ⟨h55, h⟩ := gd_elim h
                refine a_run (md qX5_goOn_ok) hz 5 [] (pc' := 215) (lv' := [some (.inr 71), some (.inl x1), some (.inl x2), some (.inl v43), some (.inl v44), some (.inl v45), some (.inl v46), none, some (.inl v47)]) (st' := []) (M' := (up M48 83 v45.toNat v47)) (P := (0 ≤ v45 ∧ v45 < 320) ∧ True) rfl ⟨h55, trivial⟩ ?_
                refine bnd_elim (G := fun (M50 : Mm) => Aw z 215 [some (.inr 71), some (.inl x1), some (.inl x2), some (.inl v43), some (.inl v44), some (.inl v45), some (.inl v46), none, some (.inl v47)] [] M50) h (fun M50 h => ?_)
                obtain ⟨⟨h52, h53, h54⟩, h⟩ := gd_elim h
                refine a_run (md qX5_goOn_ok) hz 9 [] (pc' := 229) (lv' := [some (.inr 71), some (.inl x1), some (.inl x2), some (.inl v43), some (.inl v44), some (.inl v45), some (.inl v46), none, some (.inl v47)]) (st' := []) (M' := (up M50 84 v45.toNat (v46 - ((20 : Int) * x2)))) (P := (inR ((20 : Int) * x2)) ∧ (inR (v46 - ((20 : Int) * x2))) ∧ (0 ≤ v45 ∧ v45 < 320) ∧ True) rfl ⟨h52, h53, h54, trivial⟩ ?_
                refine bnd_elim (G := fun (M51 : Mm) => Aw z 229 [some (.inr 71), some (.inl x1), some (.inl x2), some (.inl v43), some (.inl v44), some (.inl v45), some (.inl v46), none, some (.inl v47)] [] M51) h (fun M51 h => ?_)
                refine a_mask [true, true, true, true, true, true, true, false, false] ?_
                exact hK41 v43 v44 v45 v46 M51 h
              · obtain ⟨h65, h⟩ := gd_elim h
                refine a_run (md qX5_goOn_ok) hz 10 [] (pc' := 162) (lv' := [some (.inr 71), some (.inl x1), some (.inl x2), some (.inl v29), some (.inl v30), some (.inl v31), some (.inl v32), some (.inl w33), none]) (st' := [.inl v29, .inl w33, .inl (M34 77 (2 : Int).toNat), .inl (M34 83 v32.toNat)]) (M' := M34) (P := (0 ≤ v32 ∧ v32 < 320) ∧ (0 ≤ (2 : Int) ∧ (2 : Int) < 4) ∧ True) rfl ⟨h65, by decide, trivial⟩ ?_
                obtain ⟨r56, hr, h⟩ := cal_elim h
                refine a_fS (as := [.inl w33, .inl v29]) (st := [.inl (M34 77 (2 : Int).toNat), .inl (M34 83 v32.toNat)]) (mX5_off z.1 hr) (md qX5_goOn_ok) qX5_off_ok hz lkX5_68 rfl 2 2 (by decide +kernel) rfl rfl ?_
                show Aw z 165 [some (.inr 71), some (.inl x1), some (.inl x2), some (.inl v29), some (.inl v30), some (.inl v31), some (.inl v32), some (.inl w33), none] [.inl r56, .inl (M34 77 (2 : Int).toNat), .inl (M34 83 v32.toNat)] M34
                obtain ⟨⟨h60, h61, h62, h63, h64⟩, h⟩ := gd_elim h
                refine a_run (md qX5_goOn_ok) hz 13 [] (pc' := 184) (lv' := [some (.inr 71), some (.inl x1), some (.inl x2), some (.inl v29), some (.inl v30), some (.inl v31), some (.inl v32), some (.inl w33), some (.inl (((M34 83 v32.toNat) + ((M34 77 (2 : Int).toNat) * r56)) + ((M34 77 (1 : Int).toNat) * (M34 82 v31.toNat))))]) (st' := []) (M' := M34) (P := (inR ((M34 77 (2 : Int).toNat) * r56)) ∧ (inR ((M34 83 v32.toNat) + ((M34 77 (2 : Int).toNat) * r56))) ∧ (0 ≤ (1 : Int) ∧ (1 : Int) < 4) ∧ (0 ≤ v31 ∧ v31 < 320) ∧ (inR ((M34 77 (1 : Int).toNat) * (M34 82 v31.toNat))) ∧ (inR (((M34 83 v32.toNat) + ((M34 77 (2 : Int).toNat) * r56)) + ((M34 77 (1 : Int).toNat) * (M34 82 v31.toNat)))) ∧ True) rfl ⟨h60, h61, by decide, h62, h63, h64, trivial⟩ ?_
                refine bnd_elim (G := fun (t57 : Int) => Aw z 184 [some (.inr 71), some (.inl x1), some (.inl x2), some (.inl v29), some (.inl v30), some (.inl v31), some (.inl v32), some (.inl w33), some (.inl t57)] [] M34) h (fun t57 h => ?_)
                obtain ⟨h59, h⟩ := gd_elim h
                refine ite_elim h (fun hc h => ?_) (fun hc h => ?_)
                · refine a_run (md qX5_goOn_ok) hz 5 [1] (pc' := 206) (lv' := [some (.inr 71), some (.inl x1), some (.inl x2), some (.inl v29), some (.inl v30), some (.inl v31), some (.inl v32), some (.inl w33), some (.inl t57)]) (st' := []) (M' := M34) (P := (0 ≤ v31 ∧ v31 < 320) ∧ ((M34 83 v31.toNat) < 0) ∧ True) rfl ⟨h59, hc, trivial⟩ ?_
                  refine a_mask [true, true, true, true, true, true, true, false, true] ?_
                  exact hK49 v29 v30 v31 v32 t57 M34 h
                · refine a_run (md qX5_goOn_ok) hz 5 [0] (pc' := 194) (lv' := [some (.inr 71), some (.inl x1), some (.inl x2), some (.inl v29), some (.inl v30), some (.inl v31), some (.inl v32), some (.inl w33), some (.inl t57)]) (st' := []) (M' := M34) (P := (0 ≤ v31 ∧ v31 < 320) ∧ (¬ ((M34 83 v31.toNat) < 0)) ∧ True) rfl ⟨h59, hc, trivial⟩ ?_
                  obtain ⟨h58, h⟩ := gd_elim h
                  refine ite_elim h (fun hc h => ?_) (fun hc h => ?_)
                  · refine a_run (md qX5_goOn_ok) hz 6 [1] (pc' := 229) (lv' := [some (.inr 71), some (.inl x1), some (.inl x2), some (.inl v29), some (.inl v30), some (.inl v31), some (.inl v32), some (.inl w33), some (.inl t57)]) (st' := []) (M' := M34) (P := (0 ≤ v31 ∧ v31 < 320) ∧ ((M34 83 v31.toNat) ≤ t57) ∧ True) rfl ⟨h58, hc, trivial⟩ ?_
                    refine a_mask [true, true, true, true, true, true, true, false, false] ?_
                    exact hK41 v29 v30 v31 v32 M34 h
                  · refine a_run (md qX5_goOn_ok) hz 6 [0] (pc' := 206) (lv' := [some (.inr 71), some (.inl x1), some (.inl x2), some (.inl v29), some (.inl v30), some (.inl v31), some (.inl v32), some (.inl w33), some (.inl t57)]) (st' := []) (M' := M34) (P := (0 ≤ v31 ∧ v31 < 320) ∧ (¬ ((M34 83 v31.toNat) ≤ t57)) ∧ True) rfl ⟨h58, hc, trivial⟩ ?_
                    refine a_mask [true, true, true, true, true, true, true, false, true] ?_
                    exact hK49 v29 v30 v31 v32 t57 M34 h
      · obtain ⟨h70, h⟩ := gd_elim h
        refine ite_elim h (fun hc h => ?_) (fun hc h => ?_)
        · refine a_run (md qX5_goOn_ok) hz 5 [1] (pc' := 108) (lv' := [some (.inr 71), some (.inl x1), some (.inl x2), some (.inl v9), some (.inl v10), some (.inl v11), some (.inl v12), none, none]) (st' := []) (M' := M13) (P := (0 ≤ v12 ∧ v12 < 320) ∧ (0 ≤ (M13 83 v12.toNat)) ∧ True) rfl ⟨h70, hc, trivial⟩ ?_
          obtain ⟨⟨h68, h69⟩, h⟩ := gd_elim h
          refine a_run (md qX5_goOn_ok) hz 9 [] (pc' := 123) (lv' := [some (.inr 71), some (.inl x1), some (.inl x2), some (.inl v9), some (.inl v10), some (.inl v11), some (.inl v12), none, none]) (st' := [.inl (M13 81 v11.toNat), .inl (M13 81 v12.toNat), .inr 71]) (M' := M13) (P := (0 ≤ v12 ∧ v12 < 320) ∧ (0 ≤ v11 ∧ v11 < 320) ∧ True) rfl ⟨h68, h69, trivial⟩ ?_
          obtain ⟨r67, hr, h⟩ := cal_elim h
          refine a_fV (as := [.inl (M13 81 v12.toNat), .inl (M13 81 v11.toNat)]) (a := 71) (st := []) (mX5_wayOf z.1 hr) (md qX5_goOn_ok) qX5_wayOf_ok hz lkX5_121 rfl 2 0 (by decide +kernel) rfl rfl rfl rfl ?_
          show Aw z 126 [some (.inr 71), some (.inl x1), some (.inl x2), some (.inl v9), some (.inl v10), some (.inl v11), some (.inl v12), none, none] [.inl r67] M13
          refine a_mask [true, true, true, true, true, true, true, false, false] ?_
          exact hK35 v9 v10 v11 v12 r67 M13 h
        · refine a_run (md qX5_goOn_ok) hz 5 [0] (pc' := 103) (lv' := [some (.inr 71), some (.inl x1), some (.inl x2), some (.inl v9), some (.inl v10), some (.inl v11), some (.inl v12), none, none]) (st' := []) (M' := M13) (P := (0 ≤ v12 ∧ v12 < 320) ∧ (¬ (0 ≤ (M13 83 v12.toNat))) ∧ True) rfl ⟨h70, hc, trivial⟩ ?_
          refine a_run (md qX5_goOn_ok) hz 2 [] (pc' := 126) (lv' := [some (.inr 71), some (.inl x1), some (.inl x2), some (.inl v9), some (.inl v10), some (.inl v11), some (.inl v12), none, none]) (st' := [.inl (-6 : Int)]) (M' := M13) (P := True) rfl trivial ?_
          refine a_mask [true, true, true, true, true, true, true, false, false] ?_
          exact hK35 v9 v10 v11 v12 (-6 : Int) M13 h
set_option maxRecDepth 100000 in
theorem mX5_goOn_L37 {z : Zx} (hz : Cx qX5_goOn z) {Q : Option Int → Mm → Prop} (hR : Rt Q z) {x1 : Int} {x2 : Int} : ∀ (n : Nat) (v2 : Int) (v3 : Int) (v4 : Int) (M5 : Mm), OK (fX5_goOn_L37 x1 x2 n v2 v3 v4 M5) (fun r2 => Q (some r2.1) r2.2) → Aw z 37 [some (.inr 71), some (.inl x1), some (.inl x2), some (.inl v2), some (.inl v3), some (.inl v4), none, none, none] [] M5 := by
  intro n
  induction n with
  | zero =>
    intro v2 v3 v4 M5 h
    exact (show False from h).elim
  | succ n ih =>
    intro v2 v3 v4 M5 h
    unfold fX5_goOn_L37 at h
    obtain ⟨⟨h77, h78, h79⟩, h⟩ := gd_elim h
    refine ite_elim h (fun hc h => ?_) (fun hc h => ?_)
    · refine a_run (md qX5_goOn_ok) hz 10 [1] (pc' := 263) (lv' := [some (.inr 71), some (.inl x1), some (.inl x2), some (.inl v2), some (.inl v3), some (.inl v4), none, none, none]) (st' := []) (M' := M5) (P := (inR ((20 : Int) * x1)) ∧ (0 ≤ x1 ∧ x1 < 16) ∧ (inR (((20 : Int) * x1) + (M5 85 x1.toNat))) ∧ ((((20 : Int) * x1) + (M5 85 x1.toNat)) ≤ v4) ∧ True) rfl ⟨h77, h78, h79, hc, trivial⟩ ?_
      obtain ⟨h6, h⟩ := gd_elim h
      refine a_run (md qX5_goOn_ok) hz 1 [] (pc' := 265) (lv' := [some (.inr 71), some (.inl x1), some (.inl x2), some (.inl v2), some (.inl v3), some (.inl v4), none, none, none]) (st' := [.inl v3]) (M' := M5) (P := True) rfl trivial ?_
      exact a_ri (md qX5_goOn_ok) hz hR rfl (Or.inr ⟨rfl, h6⟩) h
    · refine a_run (md qX5_goOn_ok) hz 10 [0] (pc' := 53) (lv' := [some (.inr 71), some (.inl x1), some (.inl x2), some (.inl v2), some (.inl v3), some (.inl v4), none, none, none]) (st' := []) (M' := M5) (P := (inR ((20 : Int) * x1)) ∧ (0 ≤ x1 ∧ x1 < 16) ∧ (inR (((20 : Int) * x1) + (M5 85 x1.toNat))) ∧ (¬ ((((20 : Int) * x1) + (M5 85 x1.toNat)) ≤ v4)) ∧ True) rfl ⟨h77, h78, h79, hc, trivial⟩ ?_
      obtain ⟨h76, h⟩ := gd_elim h
      refine a_run (md qX5_goOn_ok) hz 5 [] (pc' := 62) (lv' := [some (.inr 71), some (.inl x1), some (.inl x2), some (.inl v2), some (.inl v3), some (.inl v4), none, none, none]) (st' := []) (M' := (up M5 83 v4.toNat (-6 : Int))) (P := (0 ≤ v4 ∧ v4 < 320) ∧ True) rfl ⟨h76, trivial⟩ ?_
      refine bnd_elim (G := fun (M7 : Mm) => Aw z 62 [some (.inr 71), some (.inl x1), some (.inl x2), some (.inl v2), some (.inl v3), some (.inl v4), none, none, none] [] M7) h (fun M7 h => ?_)
      obtain ⟨h75, h⟩ := gd_elim h
      refine a_run (md qX5_goOn_ok) hz 5 [] (pc' := 71) (lv' := [some (.inr 71), some (.inl x1), some (.inl x2), some (.inl v2), some (.inl v3), some (.inl v4), none, none, none]) (st' := []) (M' := (up M7 84 v4.toNat (-6 : Int))) (P := (0 ≤ v4 ∧ v4 < 320) ∧ True) rfl ⟨h75, trivial⟩ ?_
      refine bnd_elim (G := fun (M8 : Mm) => Aw z 71 [some (.inr 71), some (.inl x1), some (.inl x2), some (.inl v2), some (.inl v3), some (.inl v4), none, none, none] [] M8) h (fun M8 h => ?_)
      obtain ⟨h74, h⟩ := gd_elim h
      refine a_run (md qX5_goOn_ok) hz 4 [] (pc' := 77) (lv' := [some (.inr 71), some (.inl x1), some (.inl x2), some (.inl v2), some (.inl v3), some (.inl v4), some (.inl ((20 : Int) * x2)), none, none]) (st' := []) (M' := M8) (P := (inR ((20 : Int) * x2)) ∧ True) rfl ⟨h74, trivial⟩ ?_
      refine a_mask [true, true, true, true, true, true, true, false, false] ?_
      refine mX5_goOn_L77 hz hR (fun v14 v15 v16 M17 h => ?_) 1000 v2 v3 v4 ((20 : Int) * x2) M8 h
      · refine jn_elim h (fun (K22 : Int → Int → Int → Mm → Option (Int × Mm)) => ∀ (v18 : Int), ∀ (v19 : Int), ∀ (w20 : Int), ∀ (M21 : Mm), OK (K22 v18 v19 w20 M21) (fun r2 => Q (some r2.1) r2.2) → Aw z 255 [some (.inr 71), some (.inl x1), some (.inl x2), some (.inl v18), none, some (.inl v19), none, none, none] [.inl w20] M21) (fun v18 v19 w20 M21 h => ?_) (fun K22 hK22 h => ?_)
        · obtain ⟨h23, h⟩ := gd_elim h
          refine a_run (md qX5_goOn_ok) hz 3 [] (pc' := 37) (lv' := [some (.inr 71), some (.inl x1), some (.inl x2), some (.inl v18), some (.inl w20), some (.inl (v19 + (1 : Int))), none, none, none]) (st' := []) (M' := M21) (P := (inR (v19 + (1 : Int))) ∧ True) rfl ⟨h23, trivial⟩ ?_
          refine a_mask [true, true, true, true, true, true, false, false, false] ?_
          exact ih v18 w20 (v19 + (1 : Int)) M21 h
        · refine jn_elim h (fun (K27 : Int → Int → Mm → Option (Int × Mm)) => ∀ (v24 : Int), ∀ (v25 : Int), ∀ (M26 : Mm), OK (K27 v24 v25 M26) (fun r2 => Q (some r2.1) r2.2) → Aw z 250 [some (.inr 71), some (.inl x1), some (.inl x2), some (.inl v24), none, some (.inl v25), none, none, none] [] M26) (fun v24 v25 M26 h => ?_) (fun K27 hK27 h => ?_)
          · refine a_run (md qX5_goOn_ok) hz 2 [] (pc' := 255) (lv' := [some (.inr 71), some (.inl x1), some (.inl x2), some (.inl v24), none, some (.inl v25), none, none, none]) (st' := [.inl (1 : Int)]) (M' := M26) (P := True) rfl trivial ?_
            refine a_mask [true, true, true, true, false, true, false, false, false] ?_
            exact hK22 v24 v25 (1 : Int) M26 h
          · refine ite_elim h (fun hc h => ?_) (fun hc h => ?_)
            · refine a_run (md qX5_goOn_ok) hz 2 [0] (pc' := 240) (lv' := [some (.inr 71), some (.inl x1), some (.inl x2), some (.inl v14), some (.inl v15), some (.inl v16), none, none, none]) (st' := []) (M' := M17) (P := (¬ ¬ v15 = 0) ∧ True) rfl ⟨fun h9 => h9 hc, trivial⟩ ?_
              obtain ⟨h28, h⟩ := gd_elim h
              refine ite_elim h (fun hc h => ?_) (fun hc h => ?_)
              · refine a_run (md qX5_goOn_ok) hz 5 [1] (pc' := 254) (lv' := [some (.inr 71), some (.inl x1), some (.inl x2), some (.inl v14), some (.inl v15), some (.inl v16), none, none, none]) (st' := []) (M' := M17) (P := (0 ≤ v16 ∧ v16 < 320) ∧ ((M17 83 v16.toNat) < 0) ∧ True) rfl ⟨h28, hc, trivial⟩ ?_
                refine a_run (md qX5_goOn_ok) hz 1 [] (pc' := 255) (lv' := [some (.inr 71), some (.inl x1), some (.inl x2), some (.inl v14), some (.inl v15), some (.inl v16), none, none, none]) (st' := [.inl (0 : Int)]) (M' := M17) (P := True) rfl trivial ?_
                refine a_mask [true, true, true, true, false, true, false, false, false] ?_
                exact hK22 v14 v16 (0 : Int) M17 h
              · refine a_run (md qX5_goOn_ok) hz 5 [0] (pc' := 250) (lv' := [some (.inr 71), some (.inl x1), some (.inl x2), some (.inl v14), some (.inl v15), some (.inl v16), none, none, none]) (st' := []) (M' := M17) (P := (0 ≤ v16 ∧ v16 < 320) ∧ (¬ ((M17 83 v16.toNat) < 0)) ∧ True) rfl ⟨h28, hc, trivial⟩ ?_
                refine a_mask [true, true, true, true, false, true, false, false, false] ?_
                exact hK27 v14 v16 M17 h
            · refine a_run (md qX5_goOn_ok) hz 2 [1] (pc' := 250) (lv' := [some (.inr 71), some (.inl x1), some (.inl x2), some (.inl v14), some (.inl v15), some (.inl v16), none, none, none]) (st' := []) (M' := M17) (P := (¬ v15 = 0) ∧ True) rfl ⟨hc, trivial⟩ ?_
              refine a_mask [true, true, true, true, false, true, false, false, false] ?_
              exact hK27 v14 v16 M17 h
set_option maxRecDepth 100000 in
theorem mX5_goOn (g : Gx) {M : Mm} {x1 : Int} {x2 : Int} {r : Int} {M2 : Mm} (h : fX5_goOn M x1 x2 = some (r, M2)) : Ct g qX5_goOn [.inr 71, .inl x1, .inl x2] M (fun r' M' => r' = some r ∧ M' = M2) := by
  refine c_ofI h qX5_goOn_ok (Nat.le_of_ble_eq_true rfl) (fun z hz Q hR h => ?_)
  unfold fX5_goOn at h
  show Aw z 0 [some (.inr 71), some (.inl x1), some (.inl x2), none, none, none, none, none, none] [] M
  obtain ⟨⟨h81, h82, h83, h84⟩, h⟩ := gd_elim h
  refine a_run (md qX5_goOn_ok) hz 16 [] (pc' := 24) (lv' := [some (.inr 71), some (.inl x1), some (.inl x2), none, none, none, none, none, none]) (st' := [.inl (M 79 x2.toNat), .inl (M 78 x2.toNat), .inl (M 79 x1.toNat), .inl (M 78 x1.toNat)]) (M' := M) (P := (0 ≤ x1 ∧ x1 < 16) ∧ (0 ≤ x1 ∧ x1 < 16) ∧ (0 ≤ x2 ∧ x2 < 16) ∧ (0 ≤ x2 ∧ x2 < 16) ∧ True) rfl ⟨h81, h82, h83, h84, trivial⟩ ?_
  obtain ⟨r1, hr, h⟩ := cal_elim h
  refine a_fS (as := [.inl (M 78 x1.toNat), .inl (M 79 x1.toNat), .inl (M 78 x2.toNat), .inl (M 79 x2.toNat)]) (st := []) (mX5_apart z.1 hr) (md qX5_goOn_ok) qX5_apart_ok hz lkX5_90 rfl 4 0 (by decide +kernel) rfl rfl ?_
  show Aw z 27 [some (.inr 71), some (.inl x1), some (.inl x2), none, none, none, none, none, none] [.inl r1] M
  obtain ⟨h80, h⟩ := gd_elim h
  refine a_run (md qX5_goOn_ok) hz 7 [] (pc' := 37) (lv' := [some (.inr 71), some (.inl x1), some (.inl x2), some (.inl r1), some (.inl (0 : Int)), some (.inl ((20 : Int) * x1)), none, none, none]) (st' := []) (M' := M) (P := (inR ((20 : Int) * x1)) ∧ True) rfl ⟨h80, trivial⟩ ?_
  refine a_mask [true, true, true, true, true, true, false, false, false] ?_
  refine mX5_goOn_L37 hz hR  1000 r1 (0 : Int) ((20 : Int) * x1) M h
def fX5_begin_L5 (x1 : Int) (k53 : Mm → Option (Mm)) : Nat → Int → Mm → Option (Mm)
  | 0, _, _ => none
  | n + 1, v1, M2 => gd ((inR ((20 : Int) * x1)) ∧ (0 ≤ x1 ∧ x1 < 16) ∧ (inR (((20 : Int) * x1) + (M2 85 x1.toNat)))) (if (((20 : Int) * x1) + (M2 85 x1.toNat)) ≤ v1 then k53 M2 else gd ((0 ≤ v1 ∧ v1 < 320) ∧ (inR ((M2 77 (1 : Int).toNat) * (M2 82 v1.toNat))) ∧ (0 ≤ v1 ∧ v1 < 320)) (bnd (up M2 83 v1.toNat ((M2 77 (1 : Int).toNat) * (M2 82 v1.toNat))) (fun (M8 : Mm) => gd ((0 ≤ v1 ∧ v1 < 320)) (bnd (up M8 84 v1.toNat (-6 : Int)) (fun (M9 : Mm) => gd ((inR (v1 + (1 : Int)))) (fX5_begin_L5 x1 k53 n (v1 + (1 : Int)) M9))))))
def fX5_begin (M : Mm) (x1 : Int) : Option (Mm) := gd ((inR ((20 : Int) * x1))) (fX5_begin_L5 x1 (fun (M3 : Mm) => gd ((0 ≤ x1 ∧ x1 < 16)) (bnd (up M3 87 x1.toNat (-6 : Int)) (fun (M4 : Mm) => gd ((inR ((M4 71 20) + (1 : Int)))) (bnd (up M4 71 20 ((M4 71 20) + (1 : Int))) (fun (M5 : Mm) => some M5))))) 1000 ((20 : Int) * x1) M)
set_option maxRecDepth 100000 in
theorem mX5_begin_L5 {z : Zx} (hz : Cx qX5_begin z) {Q : Option Int → Mm → Prop} (hR : Rt Q z) {x1 : Int} {k53 : Mm → Option (Mm)} (hk53 : ∀ (M3 : Mm), OK (k53 M3) (fun r2 => Q none r2) → Aw z 53 [some (.inr 71), some (.inl x1), none] [] M3) : ∀ (n : Nat) (v1 : Int) (M2 : Mm), OK (fX5_begin_L5 x1 k53 n v1 M2) (fun r2 => Q none r2) → Aw z 5 [some (.inr 71), some (.inl x1), some (.inl v1)] [] M2 := by
  intro n
  induction n with
  | zero =>
    intro v1 M2 h
    exact (show False from h).elim
  | succ n ih =>
    intro v1 M2 h
    unfold fX5_begin_L5 at h
    obtain ⟨⟨h15, h16, h17⟩, h⟩ := gd_elim h
    refine ite_elim h (fun hc h => ?_) (fun hc h => ?_)
    · refine a_run (md qX5_begin_ok) hz 10 [1] (pc' := 53) (lv' := [some (.inr 71), some (.inl x1), some (.inl v1)]) (st' := []) (M' := M2) (P := (inR ((20 : Int) * x1)) ∧ (0 ≤ x1 ∧ x1 < 16) ∧ (inR (((20 : Int) * x1) + (M2 85 x1.toNat))) ∧ ((((20 : Int) * x1) + (M2 85 x1.toNat)) ≤ v1) ∧ True) rfl ⟨h15, h16, h17, hc, trivial⟩ ?_
      refine a_mask [true, true, false] ?_
      exact hk53 M2 h
    · refine a_run (md qX5_begin_ok) hz 10 [0] (pc' := 20) (lv' := [some (.inr 71), some (.inl x1), some (.inl v1)]) (st' := []) (M' := M2) (P := (inR ((20 : Int) * x1)) ∧ (0 ≤ x1 ∧ x1 < 16) ∧ (inR (((20 : Int) * x1) + (M2 85 x1.toNat))) ∧ (¬ ((((20 : Int) * x1) + (M2 85 x1.toNat)) ≤ v1)) ∧ True) rfl ⟨h15, h16, h17, hc, trivial⟩ ?_
      obtain ⟨⟨h12, h13, h14⟩, h⟩ := gd_elim h
      refine a_run (md qX5_begin_ok) hz 13 [] (pc' := 39) (lv' := [some (.inr 71), some (.inl x1), some (.inl v1)]) (st' := []) (M' := (up M2 83 v1.toNat ((M2 77 (1 : Int).toNat) * (M2 82 v1.toNat)))) (P := (0 ≤ (1 : Int) ∧ (1 : Int) < 4) ∧ (0 ≤ v1 ∧ v1 < 320) ∧ (inR ((M2 77 (1 : Int).toNat) * (M2 82 v1.toNat))) ∧ (0 ≤ v1 ∧ v1 < 320) ∧ True) rfl ⟨by decide, h12, h13, h14, trivial⟩ ?_
      refine bnd_elim (G := fun (M8 : Mm) => Aw z 39 [some (.inr 71), some (.inl x1), some (.inl v1)] [] M8) h (fun M8 h => ?_)
      obtain ⟨h11, h⟩ := gd_elim h
      refine a_run (md qX5_begin_ok) hz 5 [] (pc' := 47) (lv' := [some (.inr 71), some (.inl x1), some (.inl v1)]) (st' := []) (M' := (up M8 84 v1.toNat (-6 : Int))) (P := (0 ≤ v1 ∧ v1 < 320) ∧ True) rfl ⟨h11, trivial⟩ ?_
      refine bnd_elim (G := fun (M9 : Mm) => Aw z 47 [some (.inr 71), some (.inl x1), some (.inl v1)] [] M9) h (fun M9 h => ?_)
      obtain ⟨h10, h⟩ := gd_elim h
      refine a_run (md qX5_begin_ok) hz 2 [] (pc' := 5) (lv' := [some (.inr 71), some (.inl x1), some (.inl (v1 + (1 : Int)))]) (st' := []) (M' := M9) (P := (inR (v1 + (1 : Int))) ∧ True) rfl ⟨h10, trivial⟩ ?_
      refine a_mask [true, true, true] ?_
      exact ih (v1 + (1 : Int)) M9 h
set_option maxRecDepth 100000 in
theorem mX5_begin (g : Gx) {M : Mm} {x1 : Int} {M2 : Mm} (h : fX5_begin M x1 = some M2) : Ct g qX5_begin [.inr 71, .inl x1] M (fun r' M' => r' = none ∧ M' = M2) := by
  refine c_ofV h qX5_begin_ok (Nat.le_of_ble_eq_true rfl) (fun z hz Q hR h => ?_)
  unfold fX5_begin at h
  show Aw z 0 [some (.inr 71), some (.inl x1), none] [] M
  obtain ⟨h18, h⟩ := gd_elim h
  refine a_run (md qX5_begin_ok) hz 4 [] (pc' := 5) (lv' := [some (.inr 71), some (.inl x1), some (.inl ((20 : Int) * x1))]) (st' := []) (M' := M) (P := (inR ((20 : Int) * x1)) ∧ True) rfl ⟨h18, trivial⟩ ?_
  refine a_mask [true, true, true] ?_
  refine mX5_begin_L5 hz hR (fun M3 h => ?_) 1000 ((20 : Int) * x1) M h
  · obtain ⟨h7, h⟩ := gd_elim h
    refine a_run (md qX5_begin_ok) hz 5 [] (pc' := 61) (lv' := [some (.inr 71), some (.inl x1), none]) (st' := []) (M' := (up M3 87 x1.toNat (-6 : Int))) (P := (0 ≤ x1 ∧ x1 < 16) ∧ True) rfl ⟨h7, trivial⟩ ?_
    refine bnd_elim (G := fun (M4 : Mm) => Aw z 61 [some (.inr 71), some (.inl x1), none] [] M4) h (fun M4 h => ?_)
    obtain ⟨h6, h⟩ := gd_elim h
    refine a_run (md qX5_begin_ok) hz 6 [] (pc' := 71) (lv' := [some (.inr 71), some (.inl x1), none]) (st' := []) (M' := (up M4 71 20 ((M4 71 20) + (1 : Int)))) (P := (inR ((M4 71 20) + (1 : Int))) ∧ True) rfl ⟨h6, trivial⟩ ?_
    refine bnd_elim (G := fun (M5 : Mm) => Aw z 71 [some (.inr 71), some (.inl x1), none] [] M5) h (fun M5 h => ?_)
    exact a_rv (md qX5_begin_ok) hz hR rfl rfl h
def fX5_next_L4 (x1 : Int) (M : Mm) (k21 : Int → Option (Int)) : Nat → Int → Option (Int)
  | 0, _ => none
  | n + 1, v1 => if (M 71 10) ≤ v1 then some (-6 : Int) else gd ((0 ≤ v1 ∧ v1 < 16)) (if (M 86 v1.toNat) < 0 then gd ((inR (v1 + (1 : Int)))) (fX5_next_L4 x1 M k21 n (v1 + (1 : Int))) else k21 v1)
def fX5_next (M : Mm) (x1 : Int) : Option (Int) := gd ((inR (x1 + (1 : Int)))) (fX5_next_L4 x1 M (fun (v2 : Int) => gd ((0 ≤ v2 ∧ v2 < 16) ∧ (0 ≤ x1 ∧ x1 < 16)) (if (M 86 v2.toNat) = (M 86 x1.toNat) then some v2 else some (-6 : Int))) 1000 (x1 + (1 : Int)))
set_option maxRecDepth 100000 in
theorem mX5_next_L4 {z : Zx} (hz : Cx qX5_next z) {Q : Option Int → Mm → Prop} (hR : Rt Q z) {x1 : Int} {M : Mm} {k21 : Int → Option (Int)} (hk21 : ∀ (v2 : Int), OK (k21 v2) (fun r2 => Q (some r2) M) → Aw z 21 [some (.inr 71), some (.inl x1), some (.inl v2)] [] M) : ∀ (n : Nat) (v1 : Int), OK (fX5_next_L4 x1 M k21 n v1) (fun r2 => Q (some r2) M) → Aw z 4 [some (.inr 71), some (.inl x1), some (.inl v1)] [] M := by
  intro n
  induction n with
  | zero =>
    intro v1 h
    exact (show False from h).elim
  | succ n ih =>
    intro v1 h
    unfold fX5_next_L4 at h
    refine ite_elim h (fun hc h => ?_) (fun hc h => ?_)
    · refine a_run (md qX5_next_ok) hz 4 [1] (pc' := 49) (lv' := [some (.inr 71), some (.inl x1), some (.inl v1)]) (st' := []) (M' := M) (P := ((M 71 10) ≤ v1) ∧ True) rfl ⟨hc, trivial⟩ ?_
      refine a_run (md qX5_next_ok) hz 1 [] (pc' := 51) (lv' := [some (.inr 71), some (.inl x1), some (.inl v1)]) (st' := [.inl (-6 : Int)]) (M' := M) (P := True) rfl trivial ?_
      exact a_ri (md qX5_next_ok) hz hR rfl (Or.inl rfl) h
    · refine a_run (md qX5_next_ok) hz 4 [0] (pc' := 12) (lv' := [some (.inr 71), some (.inl x1), some (.inl v1)]) (st' := []) (M' := M) (P := (¬ ((M 71 10) ≤ v1)) ∧ True) rfl ⟨hc, trivial⟩ ?_
      obtain ⟨h6, h⟩ := gd_elim h
      refine ite_elim h (fun hc h => ?_) (fun hc h => ?_)
      · refine a_run (md qX5_next_ok) hz 5 [1] (pc' := 43) (lv' := [some (.inr 71), some (.inl x1), some (.inl v1)]) (st' := []) (M' := M) (P := (0 ≤ v1 ∧ v1 < 16) ∧ ((M 86 v1.toNat) < 0) ∧ True) rfl ⟨h6, hc, trivial⟩ ?_
        obtain ⟨h5, h⟩ := gd_elim h
        refine a_run (md qX5_next_ok) hz 2 [] (pc' := 4) (lv' := [some (.inr 71), some (.inl x1), some (.inl (v1 + (1 : Int)))]) (st' := []) (M' := M) (P := (inR (v1 + (1 : Int))) ∧ True) rfl ⟨h5, trivial⟩ ?_
        refine a_mask [true, true, true] ?_
        exact ih (v1 + (1 : Int)) h
      · refine a_run (md qX5_next_ok) hz 5 [0] (pc' := 21) (lv' := [some (.inr 71), some (.inl x1), some (.inl v1)]) (st' := []) (M' := M) (P := (0 ≤ v1 ∧ v1 < 16) ∧ (¬ ((M 86 v1.toNat) < 0)) ∧ True) rfl ⟨h6, hc, trivial⟩ ?_
        refine a_mask [true, true, true] ?_
        exact hk21 v1 h
set_option maxRecDepth 100000 in
theorem mX5_next (g : Gx) {M : Mm} {x1 : Int} {r : Int} (h : fX5_next M x1 = some r) : Ct g qX5_next [.inr 71, .inl x1] M (fun r' M' => r' = some r ∧ M' = M) := by
  refine c_ofP h qX5_next_ok (Nat.le_of_ble_eq_true rfl) (fun z hz Q hR h => ?_)
  unfold fX5_next at h
  show Aw z 0 [some (.inr 71), some (.inl x1), none] [] M
  obtain ⟨h7, h⟩ := gd_elim h
  refine a_run (md qX5_next_ok) hz 4 [] (pc' := 4) (lv' := [some (.inr 71), some (.inl x1), some (.inl (x1 + (1 : Int)))]) (st' := []) (M' := M) (P := (inR (x1 + (1 : Int))) ∧ True) rfl ⟨h7, trivial⟩ ?_
  refine a_mask [true, true, true] ?_
  refine mX5_next_L4 hz hR (fun v2 h => ?_) 1000 (x1 + (1 : Int)) h
  · obtain ⟨⟨h3, h4⟩, h⟩ := gd_elim h
    refine ite_elim h (fun hc h => ?_) (fun hc h => ?_)
    · refine a_run (md qX5_next_ok) hz 9 [0] (pc' := 36) (lv' := [some (.inr 71), some (.inl x1), some (.inl v2)]) (st' := []) (M' := M) (P := (0 ≤ v2 ∧ v2 < 16) ∧ (0 ≤ x1 ∧ x1 < 16) ∧ (¬ ¬ (M 86 v2.toNat) = (M 86 x1.toNat)) ∧ True) rfl ⟨h3, h4, fun h9 => h9 hc, trivial⟩ ?_
      refine a_run (md qX5_next_ok) hz 2 [] (pc' := 42) (lv' := [some (.inr 71), some (.inl x1), some (.inl v2)]) (st' := [.inl v2]) (M' := M) (P := True) rfl trivial ?_
      exact a_ri (md qX5_next_ok) hz hR rfl (Or.inl rfl) h
    · refine a_run (md qX5_next_ok) hz 9 [1] (pc' := 40) (lv' := [some (.inr 71), some (.inl x1), some (.inl v2)]) (st' := []) (M' := M) (P := (0 ≤ v2 ∧ v2 < 16) ∧ (0 ≤ x1 ∧ x1 < 16) ∧ (¬ (M 86 v2.toNat) = (M 86 x1.toNat)) ∧ True) rfl ⟨h3, h4, hc, trivial⟩ ?_
      refine a_run (md qX5_next_ok) hz 1 [] (pc' := 42) (lv' := [some (.inr 71), some (.inl x1), some (.inl v2)]) (st' := [.inl (-6 : Int)]) (M' := M) (P := True) rfl trivial ?_
      exact a_ri (md qX5_next_ok) hz hR rfl (Or.inl rfl) h
def fX5_leastAt_L5 (x1 : Int) (M : Mm) : Nat → Int → Int → Option (Int)
  | 0, _, _ => none
  | n + 1, v1, v2 => gd ((0 ≤ x1 ∧ x1 < 16)) (if (M 85 x1.toNat) ≤ v2 then some v1 else jn (fun (v3 : Int) (w4 : Int) => gd ((inR (v3 + (1 : Int)))) (fX5_leastAt_L5 x1 M n w4 (v3 + (1 : Int)))) (fun (K5 : Int → Int → Option (Int)) => jn (fun (v7 : Int) (v8 : Int) => K5 v8 v7) (fun (K9 : Int → Int → Option (Int)) => gd ((inR ((20 : Int) * x1)) ∧ (inR (((20 : Int) * x1) + v2)) ∧ (0 ≤ (((20 : Int) * x1) + v2) ∧ (((20 : Int) * x1) + v2) < 320)) (bnd (M 83 (((20 : Int) * x1) + v2).toNat) (fun (t10 : Int) => if t10 < 0 then K9 v1 v2 else jn (fun (v11 : Int) => K5 v11 v11) (fun (K12 : Int → Option (Int)) => if v1 < 0 then K12 v2 else gd ((inR ((20 : Int) * x1)) ∧ (inR (((20 : Int) * x1) + v1)) ∧ (0 ≤ (((20 : Int) * x1) + v1) ∧ (((20 : Int) * x1) + v1) < 320)) (if (M 83 (((20 : Int) * x1) + v1).toNat) ≤ t10 then K9 v1 v2 else K12 v2)))))))
def fX5_leastAt (M : Mm) (x1 : Int) : Option (Int) := fX5_leastAt_L5 x1 M 1000 (-6 : Int) (0 : Int)
set_option maxRecDepth 100000 in
theorem mX5_leastAt_L5 {z : Zx} (hz : Cx qX5_leastAt z) {Q : Option Int → Mm → Prop} (hR : Rt Q z) {x1 : Int} {M : Mm} : ∀ (n : Nat) (v1 : Int) (v2 : Int), OK (fX5_leastAt_L5 x1 M n v1 v2) (fun r2 => Q (some r2) M) → Aw z 5 [some (.inr 71), some (.inl x1), some (.inl v1), some (.inl v2), none] [] M := by
  intro n
  induction n with
  | zero =>
    intro v1 v2 h
    exact (show False from h).elim
  | succ n ih =>
    intro v1 v2 h
    unfold fX5_leastAt_L5 at h
    obtain ⟨h19, h⟩ := gd_elim h
    refine ite_elim h (fun hc h => ?_) (fun hc h => ?_)
    · refine a_run (md qX5_leastAt_ok) hz 6 [1] (pc' := 65) (lv' := [some (.inr 71), some (.inl x1), some (.inl v1), some (.inl v2), none]) (st' := []) (M' := M) (P := (0 ≤ x1 ∧ x1 < 16) ∧ ((M 85 x1.toNat) ≤ v2) ∧ True) rfl ⟨h19, hc, trivial⟩ ?_
      refine a_run (md qX5_leastAt_ok) hz 1 [] (pc' := 66) (lv' := [some (.inr 71), some (.inl x1), some (.inl v1), some (.inl v2), none]) (st' := [.inl v1]) (M' := M) (P := True) rfl trivial ?_
      exact a_ri (md qX5_leastAt_ok) hz hR rfl (Or.inl rfl) h
    · refine a_run (md qX5_leastAt_ok) hz 6 [0] (pc' := 15) (lv' := [some (.inr 71), some (.inl x1), some (.inl v1), some (.inl v2), none]) (st' := []) (M' := M) (P := (0 ≤ x1 ∧ x1 < 16) ∧ (¬ ((M 85 x1.toNat) ≤ v2)) ∧ True) rfl ⟨h19, hc, trivial⟩ ?_
      refine jn_elim h (fun (K5 : Int → Int → Option (Int)) => ∀ (v3 : Int), ∀ (w4 : Int), OK (K5 v3 w4) (fun r2 => Q (some r2) M) → Aw z 58 [some (.inr 71), some (.inl x1), none, some (.inl v3), none] [.inl w4] M) (fun v3 w4 h => ?_) (fun K5 hK5 h => ?_)
      · obtain ⟨h6, h⟩ := gd_elim h
        refine a_run (md qX5_leastAt_ok) hz 3 [] (pc' := 5) (lv' := [some (.inr 71), some (.inl x1), some (.inl w4), some (.inl (v3 + (1 : Int))), none]) (st' := []) (M' := M) (P := (inR (v3 + (1 : Int))) ∧ True) rfl ⟨h6, trivial⟩ ?_
        refine a_mask [true, true, true, true, false] ?_
        exact ih w4 (v3 + (1 : Int)) h
      · refine jn_elim h (fun (K9 : Int → Int → Option (Int)) => ∀ (v7 : Int), ∀ (v8 : Int), OK (K9 v7 v8) (fun r2 => Q (some r2) M) → Aw z 57 [some (.inr 71), some (.inl x1), some (.inl v7), some (.inl v8), none] [] M) (fun v7 v8 h => ?_) (fun K9 hK9 h => ?_)
        · refine a_run (md qX5_leastAt_ok) hz 1 [] (pc' := 58) (lv' := [some (.inr 71), some (.inl x1), some (.inl v7), some (.inl v8), none]) (st' := [.inl v7]) (M' := M) (P := True) rfl trivial ?_
          refine a_mask [true, true, false, true, false] ?_
          exact hK5 v8 v7 h
        · obtain ⟨⟨h16, h17, h18⟩, h⟩ := gd_elim h
          refine a_run (md qX5_leastAt_ok) hz 9 [] (pc' := 28) (lv' := [some (.inr 71), some (.inl x1), some (.inl v1), some (.inl v2), some (.inl (M 83 (((20 : Int) * x1) + v2).toNat))]) (st' := []) (M' := M) (P := (inR ((20 : Int) * x1)) ∧ (inR (((20 : Int) * x1) + v2)) ∧ (0 ≤ (((20 : Int) * x1) + v2) ∧ (((20 : Int) * x1) + v2) < 320) ∧ True) rfl ⟨h16, h17, h18, trivial⟩ ?_
          refine bnd_elim (G := fun (t10 : Int) => Aw z 28 [some (.inr 71), some (.inl x1), some (.inl v1), some (.inl v2), some (.inl t10)] [] M) h (fun t10 h => ?_)
          refine ite_elim h (fun hc h => ?_) (fun hc h => ?_)
          · refine a_run (md qX5_leastAt_ok) hz 2 [1] (pc' := 57) (lv' := [some (.inr 71), some (.inl x1), some (.inl v1), some (.inl v2), some (.inl t10)]) (st' := []) (M' := M) (P := (t10 < 0) ∧ True) rfl ⟨hc, trivial⟩ ?_
            refine a_mask [true, true, true, true, false] ?_
            exact hK9 v1 v2 h
          · refine a_run (md qX5_leastAt_ok) hz 2 [0] (pc' := 33) (lv' := [some (.inr 71), some (.inl x1), some (.inl v1), some (.inl v2), some (.inl t10)]) (st' := []) (M' := M) (P := (¬ (t10 < 0)) ∧ True) rfl ⟨hc, trivial⟩ ?_
            refine jn_elim h (fun (K12 : Int → Option (Int)) => ∀ (v11 : Int), OK (K12 v11) (fun r2 => Q (some r2) M) → Aw z 53 [some (.inr 71), some (.inl x1), none, some (.inl v11), none] [] M) (fun v11 h => ?_) (fun K12 hK12 h => ?_)
            · refine a_run (md qX5_leastAt_ok) hz 2 [] (pc' := 58) (lv' := [some (.inr 71), some (.inl x1), none, some (.inl v11), none]) (st' := [.inl v11]) (M' := M) (P := True) rfl trivial ?_
              refine a_mask [true, true, false, true, false] ?_
              exact hK5 v11 v11 h
            · refine ite_elim h (fun hc h => ?_) (fun hc h => ?_)
              · refine a_run (md qX5_leastAt_ok) hz 2 [1] (pc' := 53) (lv' := [some (.inr 71), some (.inl x1), some (.inl v1), some (.inl v2), some (.inl t10)]) (st' := []) (M' := M) (P := (v1 < 0) ∧ True) rfl ⟨hc, trivial⟩ ?_
                refine a_mask [true, true, false, true, false] ?_
                exact hK12 v2 h
              · refine a_run (md qX5_leastAt_ok) hz 2 [0] (pc' := 37) (lv' := [some (.inr 71), some (.inl x1), some (.inl v1), some (.inl v2), some (.inl t10)]) (st' := []) (M' := M) (P := (¬ (v1 < 0)) ∧ True) rfl ⟨hc, trivial⟩ ?_
                obtain ⟨⟨h13, h14, h15⟩, h⟩ := gd_elim h
                refine ite_elim h (fun hc h => ?_) (fun hc h => ?_)
                · refine a_run (md qX5_leastAt_ok) hz 10 [1] (pc' := 57) (lv' := [some (.inr 71), some (.inl x1), some (.inl v1), some (.inl v2), some (.inl t10)]) (st' := []) (M' := M) (P := (inR ((20 : Int) * x1)) ∧ (inR (((20 : Int) * x1) + v1)) ∧ (0 ≤ (((20 : Int) * x1) + v1) ∧ (((20 : Int) * x1) + v1) < 320) ∧ ((M 83 (((20 : Int) * x1) + v1).toNat) ≤ t10) ∧ True) rfl ⟨h13, h14, h15, hc, trivial⟩ ?_
                  refine a_mask [true, true, true, true, false] ?_
                  exact hK9 v1 v2 h
                · refine a_run (md qX5_leastAt_ok) hz 10 [0] (pc' := 53) (lv' := [some (.inr 71), some (.inl x1), some (.inl v1), some (.inl v2), some (.inl t10)]) (st' := []) (M' := M) (P := (inR ((20 : Int) * x1)) ∧ (inR (((20 : Int) * x1) + v1)) ∧ (0 ≤ (((20 : Int) * x1) + v1) ∧ (((20 : Int) * x1) + v1) < 320) ∧ (¬ ((M 83 (((20 : Int) * x1) + v1).toNat) ≤ t10)) ∧ True) rfl ⟨h13, h14, h15, hc, trivial⟩ ?_
                  refine a_mask [true, true, false, true, false] ?_
                  exact hK12 v2 h
set_option maxRecDepth 100000 in
theorem mX5_leastAt (g : Gx) {M : Mm} {x1 : Int} {r : Int} (h : fX5_leastAt M x1 = some r) : Ct g qX5_leastAt [.inr 71, .inl x1] M (fun r' M' => r' = some r ∧ M' = M) := by
  refine c_ofP h qX5_leastAt_ok (Nat.le_of_ble_eq_true rfl) (fun z hz Q hR h => ?_)
  unfold fX5_leastAt at h
  show Aw z 0 [some (.inr 71), some (.inl x1), none, none, none] [] M
  refine a_run (md qX5_leastAt_ok) hz 4 [] (pc' := 5) (lv' := [some (.inr 71), some (.inl x1), some (.inl (-6 : Int)), some (.inl (0 : Int)), none]) (st' := []) (M' := M) (P := True) rfl trivial ?_
  refine a_mask [true, true, true, true, false] ?_
  refine mX5_leastAt_L5 hz hR  1000 (-6 : Int) (0 : Int) h
def fX5_layAll_L96  : Nat → Int → Mm → Option (Mm)
  | 0, _, _ => none
  | n + 1, v8, M9 => if v8 < 0 then some M9 else jn (fun (v10 : Int) (M11 : Mm) => gd ((inR (v10 + (-1 : Int)))) (fX5_layAll_L96 n (v10 + (-1 : Int)) M11)) (fun (K12 : Int → Mm → Option (Mm)) => cal (fX5_next M9 v8) (fun (r14 : Int) => gd ((0 ≤ v8 ∧ v8 < 16)) (if (M9 86 v8.toNat) < 0 then K12 v8 M9 else jn (fun (v15 : Int) (w16 : Int) (w17 : Int) (M18 : Mm) => gd ((0 ≤ w17 ∧ w17 < 16)) (bnd (up M18 88 w17.toNat w16) (fun (M20 : Mm) => K12 v15 M20))) (fun (K19 : Int → Int → Int → Mm → Option (Mm)) => if r14 < 0 then cal (fX5_leastAt M9 v8) (fun (r22 : Int) => K19 v8 r22 v8 M9) else gd ((inR ((20 : Int) * r14)) ∧ (0 ≤ r14 ∧ r14 < 16) ∧ (inR (((20 : Int) * r14) + (M9 88 r14.toNat))) ∧ (0 ≤ (((20 : Int) * r14) + (M9 88 r14.toNat)) ∧ (((20 : Int) * r14) + (M9 88 r14.toNat)) < 320)) (K19 v8 (M9 84 (((20 : Int) * r14) + (M9 88 r14.toNat)).toNat) v8 M9)))))
def fX5_layAll_L14 (k89 : Mm → Option (Mm)) : Nat → Int → Int → Mm → Option (Mm)
  | 0, _, _, _ => none
  | n + 1, v3, v4, M5 => if (M5 71 10) ≤ v4 then k89 M5 else jn (fun (v29 : Int) (v30 : Int) (M31 : Mm) => gd ((inR (v30 + (1 : Int)))) (fX5_layAll_L14 k89 n v29 (v30 + (1 : Int)) M31)) (fun (K32 : Int → Int → Mm → Option (Mm)) => cal (fX5_layCandidates M5 v4) (fun (M34 : Mm) => gd ((0 ≤ v4 ∧ v4 < 16)) (bnd (up M34 86 v4.toNat (-6 : Int)) (fun (M35 : Mm) => gd ((0 ≤ v4 ∧ v4 < 16)) (if (M35 85 v4.toNat) ≤ 0 then K32 v3 v4 M35 else jn (fun (v36 : Int) (M37 : Mm) => gd ((inR ((M37 71 20) - (1 : Int))) ∧ (0 ≤ v36 ∧ v36 < 16)) (bnd (up M37 86 v36.toNat ((M37 71 20) - (1 : Int))) (fun (M39 : Mm) => K32 v36 v36 M39))) (fun (K38 : Int → Mm → Option (Mm)) => jn (fun (v42 : Int) (M43 : Mm) => cal (fX5_begin M43 v42) (fun (M45 : Mm) => K38 v42 M45)) (fun (K44 : Int → Mm → Option (Mm)) => gd ((0 ≤ v4 ∧ v4 < 16)) (bnd (up M35 87 v4.toNat v3) (fun (M46 : Mm) => if v3 < 0 then K44 v4 M46 else cal2 (fX5_goOn M46 v4 v3) (fun (r47 : Int) (M48 : Mm) => if r47 = 0 then K44 v4 M48 else K38 v4 M48))))))))))
def fX5_layAll (M : Mm) : Option (Mm) := cal (fX5_layFar M) (fun (M1 : Mm) => bnd (up M1 71 20 (0 : Int)) (fun (M2 : Mm) => fX5_layAll_L14 (fun (M6 : Mm) => gd ((inR ((M6 71 10) - (1 : Int)))) (bnd ((M6 71 10) - (1 : Int)) (fun (t7 : Int) => fX5_layAll_L96 1000 t7 M6))) 1000 (-6 : Int) (0 : Int) M2))
set_option maxRecDepth 100000 in
theorem mX5_layAll_L96 {z : Zx} (hz : Cx qX5_layAll z) {Q : Option Int → Mm → Prop} (hR : Rt Q z) : ∀ (n : Nat) (v8 : Int) (M9 : Mm), OK (fX5_layAll_L96 n v8 M9) (fun r2 => Q none r2) → Aw z 96 [some (.inr 71), none, some (.inl v8), none] [] M9 := by
  intro n
  induction n with
  | zero =>
    intro v8 M9 h
    exact (show False from h).elim
  | succ n ih =>
    intro v8 M9 h
    unfold fX5_layAll_L96 at h
    refine ite_elim h (fun hc h => ?_) (fun hc h => ?_)
    · refine a_run (md qX5_layAll_ok) hz 2 [1] (pc' := 155) (lv' := [some (.inr 71), none, some (.inl v8), none]) (st' := []) (M' := M9) (P := (v8 < 0) ∧ True) rfl ⟨hc, trivial⟩ ?_
      exact a_rv (md qX5_layAll_ok) hz hR rfl rfl h
    · refine a_run (md qX5_layAll_ok) hz 2 [0] (pc' := 100) (lv' := [some (.inr 71), none, some (.inl v8), none]) (st' := []) (M' := M9) (P := (¬ (v8 < 0)) ∧ True) rfl ⟨hc, trivial⟩ ?_
      refine jn_elim h (fun (K12 : Int → Mm → Option (Mm)) => ∀ (v10 : Int), ∀ (M11 : Mm), OK (K12 v10 M11) (fun r2 => Q none r2) → Aw z 149 [some (.inr 71), none, some (.inl v10), none] [] M11) (fun v10 M11 h => ?_) (fun K12 hK12 h => ?_)
      · obtain ⟨h13, h⟩ := gd_elim h
        refine a_run (md qX5_layAll_ok) hz 2 [] (pc' := 96) (lv' := [some (.inr 71), none, some (.inl (v10 + (-1 : Int))), none]) (st' := []) (M' := M11) (P := (inR (v10 + (-1 : Int))) ∧ True) rfl ⟨h13, trivial⟩ ?_
        refine a_mask [true, false, true, false] ?_
        exact ih (v10 + (-1 : Int)) M11 h
      · refine a_run (md qX5_layAll_ok) hz 2 [] (pc' := 102) (lv' := [some (.inr 71), none, some (.inl v8), none]) (st' := [.inl v8, .inr 71]) (M' := M9) (P := True) rfl trivial ?_
        obtain ⟨r14, hr, h⟩ := cal_elim h
        refine a_fV (as := [.inl v8]) (a := 71) (st := []) (mX5_next z.1 hr) (md qX5_layAll_ok) qX5_next_ok hz lkX5_141 rfl 1 0 (by decide +kernel) rfl rfl rfl rfl ?_
        show Aw z 105 [some (.inr 71), none, some (.inl v8), none] [.inl r14] M9
        obtain ⟨h27, h⟩ := gd_elim h
        refine ite_elim h (fun hc h => ?_) (fun hc h => ?_)
        · refine a_run (md qX5_layAll_ok) hz 6 [1] (pc' := 149) (lv' := [some (.inr 71), none, some (.inl v8), some (.inl r14)]) (st' := []) (M' := M9) (P := (0 ≤ v8 ∧ v8 < 16) ∧ ((M9 86 v8.toNat) < 0) ∧ True) rfl ⟨h27, hc, trivial⟩ ?_
          refine a_mask [true, false, true, false] ?_
          exact hK12 v8 M9 h
        · refine a_run (md qX5_layAll_ok) hz 6 [0] (pc' := 115) (lv' := [some (.inr 71), none, some (.inl v8), some (.inl r14)]) (st' := []) (M' := M9) (P := (0 ≤ v8 ∧ v8 < 16) ∧ (¬ ((M9 86 v8.toNat) < 0)) ∧ True) rfl ⟨h27, hc, trivial⟩ ?_
          refine jn_elim h (fun (K19 : Int → Int → Int → Mm → Option (Mm)) => ∀ (v15 : Int), ∀ (w16 : Int), ∀ (w17 : Int), ∀ (M18 : Mm), OK (K19 v15 w16 w17 M18) (fun r2 => Q none r2) → Aw z 148 [some (.inr 71), none, some (.inl v15), none] [.inl w16, .inl w17, .inr 88] M18) (fun v15 w16 w17 M18 h => ?_) (fun K19 hK19 h => ?_)
          · obtain ⟨h21, h⟩ := gd_elim h
            refine a_run (md qX5_layAll_ok) hz 1 [] (pc' := 149) (lv' := [some (.inr 71), none, some (.inl v15), none]) (st' := []) (M' := (up M18 88 w17.toNat w16)) (P := (0 ≤ w17 ∧ w17 < 16) ∧ True) rfl ⟨h21, trivial⟩ ?_
            refine bnd_elim (G := fun (M20 : Mm) => Aw z 149 [some (.inr 71), none, some (.inl v15), none] [] M20) h (fun M20 h => ?_)
            refine a_mask [true, false, true, false] ?_
            exact hK12 v15 M20 h
          · refine ite_elim h (fun hc h => ?_) (fun hc h => ?_)
            · refine a_run (md qX5_layAll_ok) hz 5 [1] (pc' := 143) (lv' := [some (.inr 71), none, some (.inl v8), some (.inl r14)]) (st' := [.inl v8, .inr 88]) (M' := M9) (P := (r14 < 0) ∧ True) rfl ⟨hc, trivial⟩ ?_
              refine a_run (md qX5_layAll_ok) hz 2 [] (pc' := 145) (lv' := [some (.inr 71), none, some (.inl v8), some (.inl r14)]) (st' := [.inl v8, .inr 71, .inl v8, .inr 88]) (M' := M9) (P := True) rfl trivial ?_
              obtain ⟨r22, hr, h⟩ := cal_elim h
              refine a_fV (as := [.inl v8]) (a := 71) (st := [.inl v8, .inr 88]) (mX5_leastAt z.1 hr) (md qX5_layAll_ok) qX5_leastAt_ok hz lkX5_144 rfl 1 2 (by decide +kernel) rfl rfl rfl rfl ?_
              show Aw z 148 [some (.inr 71), none, some (.inl v8), some (.inl r14)] [.inl r22, .inl v8, .inr 88] M9
              refine a_mask [true, false, true, false] ?_
              exact hK19 v8 r22 v8 M9 h
            · refine a_run (md qX5_layAll_ok) hz 5 [0] (pc' := 124) (lv' := [some (.inr 71), none, some (.inl v8), some (.inl r14)]) (st' := [.inl v8, .inr 88]) (M' := M9) (P := (¬ (r14 < 0)) ∧ True) rfl ⟨hc, trivial⟩ ?_
              obtain ⟨⟨h23, h24, h25, h26⟩, h⟩ := gd_elim h
              refine a_run (md qX5_layAll_ok) hz 12 [] (pc' := 148) (lv' := [some (.inr 71), none, some (.inl v8), some (.inl r14)]) (st' := [.inl (M9 84 (((20 : Int) * r14) + (M9 88 r14.toNat)).toNat), .inl v8, .inr 88]) (M' := M9) (P := (inR ((20 : Int) * r14)) ∧ (0 ≤ r14 ∧ r14 < 16) ∧ (inR (((20 : Int) * r14) + (M9 88 r14.toNat))) ∧ (0 ≤ (((20 : Int) * r14) + (M9 88 r14.toNat)) ∧ (((20 : Int) * r14) + (M9 88 r14.toNat)) < 320) ∧ True) rfl ⟨h23, h24, h25, h26, trivial⟩ ?_
              refine a_mask [true, false, true, false] ?_
              exact hK19 v8 (M9 84 (((20 : Int) * r14) + (M9 88 r14.toNat)).toNat) v8 M9 h
set_option maxRecDepth 100000 in
theorem mX5_layAll_L14 {z : Zx} (hz : Cx qX5_layAll z) {Q : Option Int → Mm → Prop} (hR : Rt Q z) {k89 : Mm → Option (Mm)} (hk89 : ∀ (M6 : Mm), OK (k89 M6) (fun r2 => Q none r2) → Aw z 89 [some (.inr 71), none, none, none] [] M6) : ∀ (n : Nat) (v3 : Int) (v4 : Int) (M5 : Mm), OK (fX5_layAll_L14 k89 n v3 v4 M5) (fun r2 => Q none r2) → Aw z 14 [some (.inr 71), some (.inl v3), some (.inl v4), none] [] M5 := by
  intro n
  induction n with
  | zero =>
    intro v3 v4 M5 h
    exact (show False from h).elim
  | succ n ih =>
    intro v3 v4 M5 h
    unfold fX5_layAll_L14 at h
    refine ite_elim h (fun hc h => ?_) (fun hc h => ?_)
    · refine a_run (md qX5_layAll_ok) hz 4 [1] (pc' := 89) (lv' := [some (.inr 71), some (.inl v3), some (.inl v4), none]) (st' := []) (M' := M5) (P := ((M5 71 10) ≤ v4) ∧ True) rfl ⟨hc, trivial⟩ ?_
      refine a_mask [true, false, false, false] ?_
      exact hk89 M5 h
    · refine a_run (md qX5_layAll_ok) hz 4 [0] (pc' := 22) (lv' := [some (.inr 71), some (.inl v3), some (.inl v4), none]) (st' := []) (M' := M5) (P := (¬ ((M5 71 10) ≤ v4)) ∧ True) rfl ⟨hc, trivial⟩ ?_
      refine jn_elim h (fun (K32 : Int → Int → Mm → Option (Mm)) => ∀ (v29 : Int), ∀ (v30 : Int), ∀ (M31 : Mm), OK (K32 v29 v30 M31) (fun r2 => Q none r2) → Aw z 83 [some (.inr 71), some (.inl v29), some (.inl v30), none] [] M31) (fun v29 v30 M31 h => ?_) (fun K32 hK32 h => ?_)
      · obtain ⟨h33, h⟩ := gd_elim h
        refine a_run (md qX5_layAll_ok) hz 2 [] (pc' := 14) (lv' := [some (.inr 71), some (.inl v29), some (.inl (v30 + (1 : Int))), none]) (st' := []) (M' := M31) (P := (inR (v30 + (1 : Int))) ∧ True) rfl ⟨h33, trivial⟩ ?_
        refine a_mask [true, true, true, false] ?_
        exact ih v29 (v30 + (1 : Int)) M31 h
      · refine a_run (md qX5_layAll_ok) hz 2 [] (pc' := 24) (lv' := [some (.inr 71), some (.inl v3), some (.inl v4), none]) (st' := [.inl v4, .inr 71]) (M' := M5) (P := True) rfl trivial ?_
        obtain ⟨M34, hr, h⟩ := cal_elim h
        refine a_fV (as := [.inl v4]) (a := 71) (st := []) (mX5_layCandidates z.1 hr) (md qX5_layAll_ok) qX5_layCandidates_ok hz lkX5_130 rfl 1 0 (by decide +kernel) rfl rfl rfl rfl ?_
        show Aw z 27 [some (.inr 71), some (.inl v3), some (.inl v4), none] [] M34
        obtain ⟨h51, h⟩ := gd_elim h
        refine a_run (md qX5_layAll_ok) hz 5 [] (pc' := 35) (lv' := [some (.inr 71), some (.inl v3), some (.inl v4), none]) (st' := []) (M' := (up M34 86 v4.toNat (-6 : Int))) (P := (0 ≤ v4 ∧ v4 < 16) ∧ True) rfl ⟨h51, trivial⟩ ?_
        refine bnd_elim (G := fun (M35 : Mm) => Aw z 35 [some (.inr 71), some (.inl v3), some (.inl v4), none] [] M35) h (fun M35 h => ?_)
        obtain ⟨h50, h⟩ := gd_elim h
        refine ite_elim h (fun hc h => ?_) (fun hc h => ?_)
        · refine a_run (md qX5_layAll_ok) hz 5 [1] (pc' := 83) (lv' := [some (.inr 71), some (.inl v3), some (.inl v4), none]) (st' := []) (M' := M35) (P := (0 ≤ v4 ∧ v4 < 16) ∧ ((M35 85 v4.toNat) ≤ 0) ∧ True) rfl ⟨h50, hc, trivial⟩ ?_
          refine a_mask [true, true, true, false] ?_
          exact hK32 v3 v4 M35 h
        · refine a_run (md qX5_layAll_ok) hz 5 [0] (pc' := 44) (lv' := [some (.inr 71), some (.inl v3), some (.inl v4), none]) (st' := []) (M' := M35) (P := (0 ≤ v4 ∧ v4 < 16) ∧ (¬ ((M35 85 v4.toNat) ≤ 0)) ∧ True) rfl ⟨h50, hc, trivial⟩ ?_
          refine jn_elim h (fun (K38 : Int → Mm → Option (Mm)) => ∀ (v36 : Int), ∀ (M37 : Mm), OK (K38 v36 M37) (fun r2 => Q none r2) → Aw z 69 [some (.inr 71), none, some (.inl v36), none] [] M37) (fun v36 M37 h => ?_) (fun K38 hK38 h => ?_)
          · obtain ⟨⟨h40, h41⟩, h⟩ := gd_elim h
            refine a_run (md qX5_layAll_ok) hz 8 [] (pc' := 81) (lv' := [some (.inr 71), none, some (.inl v36), none]) (st' := []) (M' := (up M37 86 v36.toNat ((M37 71 20) - (1 : Int)))) (P := (inR ((M37 71 20) - (1 : Int))) ∧ (0 ≤ v36 ∧ v36 < 16) ∧ True) rfl ⟨h40, h41, trivial⟩ ?_
            refine bnd_elim (G := fun (M39 : Mm) => Aw z 81 [some (.inr 71), none, some (.inl v36), none] [] M39) h (fun M39 h => ?_)
            refine a_run (md qX5_layAll_ok) hz 2 [] (pc' := 83) (lv' := [some (.inr 71), some (.inl v36), some (.inl v36), none]) (st' := []) (M' := M39) (P := True) rfl trivial ?_
            refine a_mask [true, true, true, false] ?_
            exact hK32 v36 v36 M39 h
          · refine jn_elim h (fun (K44 : Int → Mm → Option (Mm)) => ∀ (v42 : Int), ∀ (M43 : Mm), OK (K44 v42 M43) (fun r2 => Q none r2) → Aw z 64 [some (.inr 71), none, some (.inl v42), none] [] M43) (fun v42 M43 h => ?_) (fun K44 hK44 h => ?_)
            · refine a_run (md qX5_layAll_ok) hz 2 [] (pc' := 66) (lv' := [some (.inr 71), none, some (.inl v42), none]) (st' := [.inl v42, .inr 71]) (M' := M43) (P := True) rfl trivial ?_
              obtain ⟨M45, hr, h⟩ := cal_elim h
              refine a_fV (as := [.inl v42]) (a := 71) (st := []) (mX5_begin z.1 hr) (md qX5_layAll_ok) qX5_begin_ok hz lkX5_138 rfl 1 0 (by decide +kernel) rfl rfl rfl rfl ?_
              show Aw z 69 [some (.inr 71), none, some (.inl v42), none] [] M45
              refine a_mask [true, false, true, false] ?_
              exact hK38 v42 M45 h
            · obtain ⟨h49, h⟩ := gd_elim h
              refine a_run (md qX5_layAll_ok) hz 5 [] (pc' := 51) (lv' := [some (.inr 71), some (.inl v3), some (.inl v4), none]) (st' := []) (M' := (up M35 87 v4.toNat v3)) (P := (0 ≤ v4 ∧ v4 < 16) ∧ True) rfl ⟨h49, trivial⟩ ?_
              refine bnd_elim (G := fun (M46 : Mm) => Aw z 51 [some (.inr 71), some (.inl v3), some (.inl v4), none] [] M46) h (fun M46 h => ?_)
              refine ite_elim h (fun hc h => ?_) (fun hc h => ?_)
              · refine a_run (md qX5_layAll_ok) hz 2 [1] (pc' := 64) (lv' := [some (.inr 71), some (.inl v3), some (.inl v4), none]) (st' := []) (M' := M46) (P := (v3 < 0) ∧ True) rfl ⟨hc, trivial⟩ ?_
                refine a_mask [true, false, true, false] ?_
                exact hK44 v4 M46 h
              · refine a_run (md qX5_layAll_ok) hz 2 [0] (pc' := 55) (lv' := [some (.inr 71), some (.inl v3), some (.inl v4), none]) (st' := []) (M' := M46) (P := (¬ (v3 < 0)) ∧ True) rfl ⟨hc, trivial⟩ ?_
                refine a_run (md qX5_layAll_ok) hz 3 [] (pc' := 58) (lv' := [some (.inr 71), some (.inl v3), some (.inl v4), none]) (st' := [.inl v3, .inl v4, .inr 71]) (M' := M46) (P := True) rfl trivial ?_
                obtain ⟨r47, M48, hr, h⟩ := cal2_elim h
                refine a_fV (as := [.inl v4, .inl v3]) (a := 71) (st := []) (mX5_goOn z.1 hr) (md qX5_layAll_ok) qX5_goOn_ok hz lkX5_134 rfl 2 0 (by decide +kernel) rfl rfl rfl rfl ?_
                show Aw z 61 [some (.inr 71), some (.inl v3), some (.inl v4), none] [.inl r47] M48
                refine ite_elim h (fun hc h => ?_) (fun hc h => ?_)
                · refine a_run (md qX5_layAll_ok) hz 1 [0] (pc' := 64) (lv' := [some (.inr 71), some (.inl v3), some (.inl v4), none]) (st' := []) (M' := M48) (P := (¬ ¬ r47 = 0) ∧ True) rfl ⟨fun h9 => h9 hc, trivial⟩ ?_
                  refine a_mask [true, false, true, false] ?_
                  exact hK44 v4 M48 h
                · refine a_run (md qX5_layAll_ok) hz 1 [1] (pc' := 69) (lv' := [some (.inr 71), some (.inl v3), some (.inl v4), none]) (st' := []) (M' := M48) (P := (¬ r47 = 0) ∧ True) rfl ⟨hc, trivial⟩ ?_
                  refine a_mask [true, false, true, false] ?_
                  exact hK38 v4 M48 h
set_option maxRecDepth 100000 in
theorem mX5_layAll (g : Gx) {M : Mm} {M2 : Mm} (h : fX5_layAll M = some M2) : Ct g qX5_layAll [.inr 71] M (fun r' M' => r' = none ∧ M' = M2) := by
  refine c_ofV h qX5_layAll_ok (Nat.le_of_ble_eq_true rfl) (fun z hz Q hR h => ?_)
  unfold fX5_layAll at h
  show Aw z 0 [some (.inr 71), none, none, none] [] M
  refine a_run (md qX5_layAll_ok) hz 1 [] (pc' := 1) (lv' := [some (.inr 71), none, none, none]) (st' := [.inr 71]) (M' := M) (P := True) rfl trivial ?_
  obtain ⟨M1, hr, h⟩ := cal_elim h
  refine a_fV (as := []) (a := 71) (st := []) (mX5_layFar z.1 hr) (md qX5_layAll_ok) qX5_layFar_ok hz lkX5_109 rfl 0 0 (by decide +kernel) rfl rfl rfl rfl ?_
  show Aw z 4 [some (.inr 71), none, none, none] [] M1
  refine a_run (md qX5_layAll_ok) hz 3 [] (pc' := 9) (lv' := [some (.inr 71), none, none, none]) (st' := []) (M' := (up M1 71 20 (0 : Int))) (P := True) rfl trivial ?_
  refine bnd_elim (G := fun (M2 : Mm) => Aw z 9 [some (.inr 71), none, none, none] [] M2) h (fun M2 h => ?_)
  refine a_run (md qX5_layAll_ok) hz 4 [] (pc' := 14) (lv' := [some (.inr 71), some (.inl (-6 : Int)), some (.inl (0 : Int)), none]) (st' := []) (M' := M2) (P := True) rfl trivial ?_
  refine a_mask [true, true, true, false] ?_
  refine mX5_layAll_L14 hz hR (fun M6 h => ?_) 1000 (-6 : Int) (0 : Int) M2 h
  · obtain ⟨h28, h⟩ := gd_elim h
    refine a_run (md qX5_layAll_ok) hz 5 [] (pc' := 96) (lv' := [some (.inr 71), none, some (.inl ((M6 71 10) - (1 : Int))), none]) (st' := []) (M' := M6) (P := (inR ((M6 71 10) - (1 : Int))) ∧ True) rfl ⟨h28, trivial⟩ ?_
    refine bnd_elim (G := fun (t7 : Int) => Aw z 96 [some (.inr 71), none, some (.inl t7), none] [] M6) h (fun t7 h => ?_)
    refine a_mask [true, false, true, false] ?_
    refine mX5_layAll_L96 hz hR  1000 t7 M6 h
def fX5_isFix (M : Mm) (x1 : Int) : Option (Int) := gd ((inR ((M 71 10) - (1 : Int)))) (cal (fX5_in M x1 (0 : Int) ((M 71 10) - (1 : Int))) (fun (r1 : Int) => gd ((r1 = 0 ∨ r1 = 1)) (some r1)))
set_option maxRecDepth 100000 in
theorem mX5_isFix (g : Gx) {M : Mm} {x1 : Int} {r : Int} (h : fX5_isFix M x1 = some r) : Ct g qX5_isFix [.inr 71, .inl x1] M (fun r' M' => r' = some r ∧ M' = M) := by
  refine c_ofP h qX5_isFix_ok (Nat.le_of_ble_eq_true rfl) (fun z hz Q hR h => ?_)
  unfold fX5_isFix at h
  show Aw z 0 [some (.inr 71), some (.inl x1)] [] M
  obtain ⟨h3, h⟩ := gd_elim h
  refine a_run (md qX5_isFix_ok) hz 6 [] (pc' := 8) (lv' := [some (.inr 71), some (.inl x1)]) (st' := [.inl ((M 71 10) - (1 : Int)), .inl (0 : Int), .inl x1]) (M' := M) (P := (inR ((M 71 10) - (1 : Int))) ∧ True) rfl ⟨h3, trivial⟩ ?_
  obtain ⟨r1, hr, h⟩ := cal_elim h
  refine a_fS (as := [.inl x1, .inl (0 : Int), .inl ((M 71 10) - (1 : Int))]) (st := []) (mX5_in z.1 hr) (md qX5_isFix_ok) qX5_in_ok hz lkX5_76 rfl 3 0 (by decide +kernel) rfl rfl ?_
  show Aw z 11 [some (.inr 71), some (.inl x1)] [.inl r1] M
  obtain ⟨h2, h⟩ := gd_elim h
  exact a_ri (md qX5_isFix_ok) hz hR rfl (Or.inr ⟨rfl, h2⟩) h
def fX5_candidate (M : Mm) (x1 : Int) (x2 : Int) (x3 : Int) : Option (Int × Mm) := cal (fX5_isFix M x1) (fun (r1 : Int) => if r1 = 0 then some ((-1 : Int), M) else cal (fX5_in M x3 (0 : Int) (3 : Int)) (fun (r2 : Int) => if r2 = 0 then some ((-2 : Int), M) else cal (fX5_layAll M) (fun (M3 : Mm) => if x2 = (-1 : Int) then gd ((0 ≤ x1 ∧ x1 < 16)) (some ((M3 85 x1.toNat), M3)) else gd ((0 ≤ x1 ∧ x1 < 16) ∧ (inR ((M3 85 x1.toNat) - (1 : Int)))) (cal (fX5_in M3 x2 (0 : Int) ((M3 85 x1.toNat) - (1 : Int))) (fun (r4 : Int) => if r4 = 0 then some ((-6 : Int), M3) else gd ((inR ((20 : Int) * x1)) ∧ (inR (((20 : Int) * x1) + x2))) (bnd (((20 : Int) * x1) + x2) (fun (t5 : Int) => if x3 = 0 then gd ((0 ≤ t5 ∧ t5 < 320)) (some ((M3 81 t5.toNat), M3)) else if x3 = (1 : Int) then gd ((0 ≤ t5 ∧ t5 < 320)) (some ((M3 82 t5.toNat), M3)) else if x3 = (2 : Int) then gd ((0 ≤ t5 ∧ t5 < 320)) (some ((M3 83 t5.toNat), M3)) else gd ((0 ≤ t5 ∧ t5 < 320)) (some ((M3 84 t5.toNat), M3)))))))))
set_option maxRecDepth 100000 in
theorem mX5_candidate (g : Gx) {M : Mm} {x1 : Int} {x2 : Int} {x3 : Int} {r : Int} {M2 : Mm} (h : fX5_candidate M x1 x2 x3 = some (r, M2)) : Ct g qX5_candidate [.inr 71, .inl x1, .inl x2, .inl x3] M (fun r' M' => r' = some r ∧ M' = M2) := by
  refine c_ofI h qX5_candidate_ok (Nat.le_of_ble_eq_true rfl) (fun z hz Q hR h => ?_)
  unfold fX5_candidate at h
  show Aw z 0 [some (.inr 71), some (.inl x1), some (.inl x2), some (.inl x3), none] [] M
  refine a_run (md qX5_candidate_ok) hz 2 [] (pc' := 2) (lv' := [some (.inr 71), some (.inl x1), some (.inl x2), some (.inl x3), none]) (st' := [.inl x1, .inr 71]) (M' := M) (P := True) rfl trivial ?_
  obtain ⟨r1, hr, h⟩ := cal_elim h
  refine a_fV (as := [.inl x1]) (a := 71) (st := []) (mX5_isFix z.1 hr) (md qX5_candidate_ok) qX5_isFix_ok hz lkX5_147 rfl 1 0 (by decide +kernel) rfl rfl rfl rfl ?_
  show Aw z 5 [some (.inr 71), some (.inl x1), some (.inl x2), some (.inl x3), none] [.inl r1] M
  refine ite_elim h (fun hc h => ?_) (fun hc h => ?_)
  · refine a_run (md qX5_candidate_ok) hz 1 [0] (pc' := 8) (lv' := [some (.inr 71), some (.inl x1), some (.inl x2), some (.inl x3), none]) (st' := []) (M' := M) (P := (¬ ¬ r1 = 0) ∧ True) rfl ⟨fun h9 => h9 hc, trivial⟩ ?_
    refine a_run (md qX5_candidate_ok) hz 1 [] (pc' := 9) (lv' := [some (.inr 71), some (.inl x1), some (.inl x2), some (.inl x3), none]) (st' := [.inl (-1 : Int)]) (M' := M) (P := True) rfl trivial ?_
    exact a_ri (md qX5_candidate_ok) hz hR rfl (Or.inl rfl) h
  · refine a_run (md qX5_candidate_ok) hz 1 [1] (pc' := 10) (lv' := [some (.inr 71), some (.inl x1), some (.inl x2), some (.inl x3), none]) (st' := []) (M' := M) (P := (¬ r1 = 0) ∧ True) rfl ⟨hc, trivial⟩ ?_
    refine a_run (md qX5_candidate_ok) hz 3 [] (pc' := 13) (lv' := [some (.inr 71), some (.inl x1), some (.inl x2), some (.inl x3), none]) (st' := [.inl (3 : Int), .inl (0 : Int), .inl x3]) (M' := M) (P := True) rfl trivial ?_
    obtain ⟨r2, hr, h⟩ := cal_elim h
    refine a_fS (as := [.inl x3, .inl (0 : Int), .inl (3 : Int)]) (st := []) (mX5_in z.1 hr) (md qX5_candidate_ok) qX5_in_ok hz lkX5_76 rfl 3 0 (by decide +kernel) rfl rfl ?_
    show Aw z 16 [some (.inr 71), some (.inl x1), some (.inl x2), some (.inl x3), none] [.inl r2] M
    refine ite_elim h (fun hc h => ?_) (fun hc h => ?_)
    · refine a_run (md qX5_candidate_ok) hz 1 [0] (pc' := 19) (lv' := [some (.inr 71), some (.inl x1), some (.inl x2), some (.inl x3), none]) (st' := []) (M' := M) (P := (¬ ¬ r2 = 0) ∧ True) rfl ⟨fun h9 => h9 hc, trivial⟩ ?_
      refine a_run (md qX5_candidate_ok) hz 1 [] (pc' := 21) (lv' := [some (.inr 71), some (.inl x1), some (.inl x2), some (.inl x3), none]) (st' := [.inl (-2 : Int)]) (M' := M) (P := True) rfl trivial ?_
      exact a_ri (md qX5_candidate_ok) hz hR rfl (Or.inl rfl) h
    · refine a_run (md qX5_candidate_ok) hz 1 [1] (pc' := 22) (lv' := [some (.inr 71), some (.inl x1), some (.inl x2), some (.inl x3), none]) (st' := []) (M' := M) (P := (¬ r2 = 0) ∧ True) rfl ⟨hc, trivial⟩ ?_
      refine a_run (md qX5_candidate_ok) hz 1 [] (pc' := 23) (lv' := [some (.inr 71), some (.inl x1), some (.inl x2), some (.inl x3), none]) (st' := [.inr 71]) (M' := M) (P := True) rfl trivial ?_
      obtain ⟨M3, hr, h⟩ := cal_elim h
      refine a_fV (as := []) (a := 71) (st := []) (mX5_layAll z.1 hr) (md qX5_candidate_ok) qX5_layAll_ok hz lkX5_150 rfl 0 0 (by decide +kernel) rfl rfl rfl rfl ?_
      show Aw z 26 [some (.inr 71), some (.inl x1), some (.inl x2), some (.inl x3), none] [] M3
      refine ite_elim h (fun hc h => ?_) (fun hc h => ?_)
      · refine a_run (md qX5_candidate_ok) hz 3 [0] (pc' := 31) (lv' := [some (.inr 71), some (.inl x1), some (.inl x2), some (.inl x3), none]) (st' := []) (M' := M3) (P := (¬ ¬ x2 = (-1 : Int)) ∧ True) rfl ⟨fun h9 => h9 hc, trivial⟩ ?_
        obtain ⟨h14, h⟩ := gd_elim h
        refine a_run (md qX5_candidate_ok) hz 4 [] (pc' := 37) (lv' := [some (.inr 71), some (.inl x1), some (.inl x2), some (.inl x3), none]) (st' := [.inl (M3 85 x1.toNat)]) (M' := M3) (P := (0 ≤ x1 ∧ x1 < 16) ∧ True) rfl ⟨h14, trivial⟩ ?_
        exact a_ri (md qX5_candidate_ok) hz hR rfl (Or.inl rfl) h
      · refine a_run (md qX5_candidate_ok) hz 3 [1] (pc' := 38) (lv' := [some (.inr 71), some (.inl x1), some (.inl x2), some (.inl x3), none]) (st' := []) (M' := M3) (P := (¬ x2 = (-1 : Int)) ∧ True) rfl ⟨hc, trivial⟩ ?_
        obtain ⟨⟨h12, h13⟩, h⟩ := gd_elim h
        refine a_run (md qX5_candidate_ok) hz 8 [] (pc' := 48) (lv' := [some (.inr 71), some (.inl x1), some (.inl x2), some (.inl x3), none]) (st' := [.inl ((M3 85 x1.toNat) - (1 : Int)), .inl (0 : Int), .inl x2]) (M' := M3) (P := (0 ≤ x1 ∧ x1 < 16) ∧ (inR ((M3 85 x1.toNat) - (1 : Int))) ∧ True) rfl ⟨h12, h13, trivial⟩ ?_
        obtain ⟨r4, hr, h⟩ := cal_elim h
        refine a_fS (as := [.inl x2, .inl (0 : Int), .inl ((M3 85 x1.toNat) - (1 : Int))]) (st := []) (mX5_in z.1 hr) (md qX5_candidate_ok) qX5_in_ok hz lkX5_76 rfl 3 0 (by decide +kernel) rfl rfl ?_
        show Aw z 51 [some (.inr 71), some (.inl x1), some (.inl x2), some (.inl x3), none] [.inl r4] M3
        refine ite_elim h (fun hc h => ?_) (fun hc h => ?_)
        · refine a_run (md qX5_candidate_ok) hz 1 [0] (pc' := 54) (lv' := [some (.inr 71), some (.inl x1), some (.inl x2), some (.inl x3), none]) (st' := []) (M' := M3) (P := (¬ ¬ r4 = 0) ∧ True) rfl ⟨fun h9 => h9 hc, trivial⟩ ?_
          refine a_run (md qX5_candidate_ok) hz 1 [] (pc' := 56) (lv' := [some (.inr 71), some (.inl x1), some (.inl x2), some (.inl x3), none]) (st' := [.inl (-6 : Int)]) (M' := M3) (P := True) rfl trivial ?_
          exact a_ri (md qX5_candidate_ok) hz hR rfl (Or.inl rfl) h
        · refine a_run (md qX5_candidate_ok) hz 1 [1] (pc' := 57) (lv' := [some (.inr 71), some (.inl x1), some (.inl x2), some (.inl x3), none]) (st' := []) (M' := M3) (P := (¬ r4 = 0) ∧ True) rfl ⟨hc, trivial⟩ ?_
          obtain ⟨⟨h10, h11⟩, h⟩ := gd_elim h
          refine a_run (md qX5_candidate_ok) hz 6 [] (pc' := 65) (lv' := [some (.inr 71), some (.inl x1), some (.inl x2), some (.inl x3), some (.inl (((20 : Int) * x1) + x2))]) (st' := []) (M' := M3) (P := (inR ((20 : Int) * x1)) ∧ (inR (((20 : Int) * x1) + x2)) ∧ True) rfl ⟨h10, h11, trivial⟩ ?_
          refine bnd_elim (G := fun (t5 : Int) => Aw z 65 [some (.inr 71), some (.inl x1), some (.inl x2), some (.inl x3), some (.inl t5)] [] M3) h (fun t5 h => ?_)
          refine ite_elim h (fun hc h => ?_) (fun hc h => ?_)
          · refine a_run (md qX5_candidate_ok) hz 2 [0] (pc' := 69) (lv' := [some (.inr 71), some (.inl x1), some (.inl x2), some (.inl x3), some (.inl t5)]) (st' := []) (M' := M3) (P := (¬ ¬ x3 = 0) ∧ True) rfl ⟨fun h9 => h9 hc, trivial⟩ ?_
            obtain ⟨h9, h⟩ := gd_elim h
            refine a_run (md qX5_candidate_ok) hz 5 [] (pc' := 116) (lv' := [some (.inr 71), some (.inl x1), some (.inl x2), some (.inl x3), some (.inl t5)]) (st' := [.inl (M3 81 t5.toNat)]) (M' := M3) (P := (0 ≤ t5 ∧ t5 < 320) ∧ True) rfl ⟨h9, trivial⟩ ?_
            exact a_ri (md qX5_candidate_ok) hz hR rfl (Or.inl rfl) h
          · refine a_run (md qX5_candidate_ok) hz 2 [1] (pc' := 79) (lv' := [some (.inr 71), some (.inl x1), some (.inl x2), some (.inl x3), some (.inl t5)]) (st' := []) (M' := M3) (P := (¬ x3 = 0) ∧ True) rfl ⟨hc, trivial⟩ ?_
            refine ite_elim h (fun hc h => ?_) (fun hc h => ?_)
            · refine a_run (md qX5_candidate_ok) hz 3 [0] (pc' := 84) (lv' := [some (.inr 71), some (.inl x1), some (.inl x2), some (.inl x3), some (.inl t5)]) (st' := []) (M' := M3) (P := (¬ ¬ x3 = (1 : Int)) ∧ True) rfl ⟨fun h9 => h9 hc, trivial⟩ ?_
              obtain ⟨h8, h⟩ := gd_elim h
              refine a_run (md qX5_candidate_ok) hz 5 [] (pc' := 116) (lv' := [some (.inr 71), some (.inl x1), some (.inl x2), some (.inl x3), some (.inl t5)]) (st' := [.inl (M3 82 t5.toNat)]) (M' := M3) (P := (0 ≤ t5 ∧ t5 < 320) ∧ True) rfl ⟨h8, trivial⟩ ?_
              exact a_ri (md qX5_candidate_ok) hz hR rfl (Or.inl rfl) h
            · refine a_run (md qX5_candidate_ok) hz 3 [1] (pc' := 94) (lv' := [some (.inr 71), some (.inl x1), some (.inl x2), some (.inl x3), some (.inl t5)]) (st' := []) (M' := M3) (P := (¬ x3 = (1 : Int)) ∧ True) rfl ⟨hc, trivial⟩ ?_
              refine ite_elim h (fun hc h => ?_) (fun hc h => ?_)
              · refine a_run (md qX5_candidate_ok) hz 3 [0] (pc' := 99) (lv' := [some (.inr 71), some (.inl x1), some (.inl x2), some (.inl x3), some (.inl t5)]) (st' := []) (M' := M3) (P := (¬ ¬ x3 = (2 : Int)) ∧ True) rfl ⟨fun h9 => h9 hc, trivial⟩ ?_
                obtain ⟨h7, h⟩ := gd_elim h
                refine a_run (md qX5_candidate_ok) hz 5 [] (pc' := 116) (lv' := [some (.inr 71), some (.inl x1), some (.inl x2), some (.inl x3), some (.inl t5)]) (st' := [.inl (M3 83 t5.toNat)]) (M' := M3) (P := (0 ≤ t5 ∧ t5 < 320) ∧ True) rfl ⟨h7, trivial⟩ ?_
                exact a_ri (md qX5_candidate_ok) hz hR rfl (Or.inl rfl) h
              · refine a_run (md qX5_candidate_ok) hz 3 [1] (pc' := 109) (lv' := [some (.inr 71), some (.inl x1), some (.inl x2), some (.inl x3), some (.inl t5)]) (st' := []) (M' := M3) (P := (¬ x3 = (2 : Int)) ∧ True) rfl ⟨hc, trivial⟩ ?_
                obtain ⟨h6, h⟩ := gd_elim h
                refine a_run (md qX5_candidate_ok) hz 4 [] (pc' := 116) (lv' := [some (.inr 71), some (.inl x1), some (.inl x2), some (.inl x3), some (.inl t5)]) (st' := [.inl (M3 84 t5.toNat)]) (M' := M3) (P := (0 ≤ t5 ∧ t5 < 320) ∧ True) rfl ⟨h6, trivial⟩ ?_
                exact a_ri (md qX5_candidate_ok) hz hR rfl (Or.inl rfl) h
def fX5_best (M : Mm) (x1 : Int) : Option (Int × Mm) := cal (fX5_isFix M x1) (fun (r1 : Int) => if r1 = 0 then some ((-1 : Int), M) else cal (fX5_layAll M) (fun (M2 : Mm) => gd ((0 ≤ x1 ∧ x1 < 16)) (if 0 ≤ (M2 86 x1.toNat) then gd ((inR ((20 : Int) * x1)) ∧ (0 ≤ x1 ∧ x1 < 16) ∧ (inR (((20 : Int) * x1) + (M2 88 x1.toNat))) ∧ (0 ≤ (((20 : Int) * x1) + (M2 88 x1.toNat)) ∧ (((20 : Int) * x1) + (M2 88 x1.toNat)) < 320)) (some ((M2 81 (((20 : Int) * x1) + (M2 88 x1.toNat)).toNat), M2)) else some ((-6 : Int), M2))))
set_option maxRecDepth 100000 in
theorem mX5_best (g : Gx) {M : Mm} {x1 : Int} {r : Int} {M2 : Mm} (h : fX5_best M x1 = some (r, M2)) : Ct g qX5_best [.inr 71, .inl x1] M (fun r' M' => r' = some r ∧ M' = M2) := by
  refine c_ofI h qX5_best_ok (Nat.le_of_ble_eq_true rfl) (fun z hz Q hR h => ?_)
  unfold fX5_best at h
  show Aw z 0 [some (.inr 71), some (.inl x1)] [] M
  refine a_run (md qX5_best_ok) hz 2 [] (pc' := 2) (lv' := [some (.inr 71), some (.inl x1)]) (st' := [.inl x1, .inr 71]) (M' := M) (P := True) rfl trivial ?_
  obtain ⟨r1, hr, h⟩ := cal_elim h
  refine a_fV (as := [.inl x1]) (a := 71) (st := []) (mX5_isFix z.1 hr) (md qX5_best_ok) qX5_isFix_ok hz lkX5_147 rfl 1 0 (by decide +kernel) rfl rfl rfl rfl ?_
  show Aw z 5 [some (.inr 71), some (.inl x1)] [.inl r1] M
  refine ite_elim h (fun hc h => ?_) (fun hc h => ?_)
  · refine a_run (md qX5_best_ok) hz 1 [0] (pc' := 8) (lv' := [some (.inr 71), some (.inl x1)]) (st' := []) (M' := M) (P := (¬ ¬ r1 = 0) ∧ True) rfl ⟨fun h9 => h9 hc, trivial⟩ ?_
    refine a_run (md qX5_best_ok) hz 1 [] (pc' := 9) (lv' := [some (.inr 71), some (.inl x1)]) (st' := [.inl (-1 : Int)]) (M' := M) (P := True) rfl trivial ?_
    exact a_ri (md qX5_best_ok) hz hR rfl (Or.inl rfl) h
  · refine a_run (md qX5_best_ok) hz 1 [1] (pc' := 10) (lv' := [some (.inr 71), some (.inl x1)]) (st' := []) (M' := M) (P := (¬ r1 = 0) ∧ True) rfl ⟨hc, trivial⟩ ?_
    refine a_run (md qX5_best_ok) hz 1 [] (pc' := 11) (lv' := [some (.inr 71), some (.inl x1)]) (st' := [.inr 71]) (M' := M) (P := True) rfl trivial ?_
    obtain ⟨M2, hr, h⟩ := cal_elim h
    refine a_fV (as := []) (a := 71) (st := []) (mX5_layAll z.1 hr) (md qX5_best_ok) qX5_layAll_ok hz lkX5_150 rfl 0 0 (by decide +kernel) rfl rfl rfl rfl ?_
    show Aw z 14 [some (.inr 71), some (.inl x1)] [] M2
    obtain ⟨h7, h⟩ := gd_elim h
    refine ite_elim h (fun hc h => ?_) (fun hc h => ?_)
    · refine a_run (md qX5_best_ok) hz 5 [1] (pc' := 28) (lv' := [some (.inr 71), some (.inl x1)]) (st' := []) (M' := M2) (P := (0 ≤ x1 ∧ x1 < 16) ∧ (0 ≤ (M2 86 x1.toNat)) ∧ True) rfl ⟨h7, hc, trivial⟩ ?_
      obtain ⟨⟨h3, h4, h5, h6⟩, h⟩ := gd_elim h
      refine a_run (md qX5_best_ok) hz 11 [] (pc' := 44) (lv' := [some (.inr 71), some (.inl x1)]) (st' := [.inl (M2 81 (((20 : Int) * x1) + (M2 88 x1.toNat)).toNat)]) (M' := M2) (P := (inR ((20 : Int) * x1)) ∧ (0 ≤ x1 ∧ x1 < 16) ∧ (inR (((20 : Int) * x1) + (M2 88 x1.toNat))) ∧ (0 ≤ (((20 : Int) * x1) + (M2 88 x1.toNat)) ∧ (((20 : Int) * x1) + (M2 88 x1.toNat)) < 320) ∧ True) rfl ⟨h3, h4, h5, h6, trivial⟩ ?_
      exact a_ri (md qX5_best_ok) hz hR rfl (Or.inl rfl) h
    · refine a_run (md qX5_best_ok) hz 5 [0] (pc' := 23) (lv' := [some (.inr 71), some (.inl x1)]) (st' := []) (M' := M2) (P := (0 ≤ x1 ∧ x1 < 16) ∧ (¬ (0 ≤ (M2 86 x1.toNat))) ∧ True) rfl ⟨h7, hc, trivial⟩ ?_
      refine a_run (md qX5_best_ok) hz 2 [] (pc' := 44) (lv' := [some (.inr 71), some (.inl x1)]) (st' := [.inl (-6 : Int)]) (M' := M2) (P := True) rfl trivial ?_
      exact a_ri (md qX5_best_ok) hz hR rfl (Or.inl rfl) h
def fX5_origin_L6 (x1 : Int) (x2 : Int) (x3 : Int) (M : Mm) : Nat → Int → Int → Option (Int)
  | 0, _, _ => none
  | n + 1, v1, v2 => if v2 ≤ x1 then some v1 else gd ((inR ((20 : Int) * v2)) ∧ (inR (((20 : Int) * v2) + v1)) ∧ (0 ≤ (((20 : Int) * v2) + v1) ∧ (((20 : Int) * v2) + v1) < 320)) (bnd (M 84 (((20 : Int) * v2) + v1).toNat) (fun (t3 : Int) => gd ((0 ≤ v2 ∧ v2 < 16)) (fX5_origin_L6 x1 x2 x3 M n t3 (M 87 v2.toNat))))
def fX5_origin (M : Mm) (x1 : Int) (x2 : Int) (x3 : Int) : Option (Int) := fX5_origin_L6 x1 x2 x3 M 1000 x3 x2
set_option maxRecDepth 100000 in
theorem mX5_origin_L6 {z : Zx} (hz : Cx qX5_origin z) {Q : Option Int → Mm → Prop} (hR : Rt Q z) {x1 : Int} {x2 : Int} {x3 : Int} {M : Mm} : ∀ (n : Nat) (v1 : Int) (v2 : Int), OK (fX5_origin_L6 x1 x2 x3 M n v1 v2) (fun r2 => Q (some r2) M) → Aw z 6 [some (.inr 71), some (.inl x1), none, none, some (.inl v1), some (.inl v2)] [] M := by
  intro n
  induction n with
  | zero =>
    intro v1 v2 h
    exact (show False from h).elim
  | succ n ih =>
    intro v1 v2 h
    unfold fX5_origin_L6 at h
    refine ite_elim h (fun hc h => ?_) (fun hc h => ?_)
    · refine a_run (md qX5_origin_ok) hz 3 [1] (pc' := 39) (lv' := [some (.inr 71), some (.inl x1), none, none, some (.inl v1), some (.inl v2)]) (st' := []) (M' := M) (P := (v2 ≤ x1) ∧ True) rfl ⟨hc, trivial⟩ ?_
      refine a_run (md qX5_origin_ok) hz 1 [] (pc' := 41) (lv' := [some (.inr 71), some (.inl x1), none, none, some (.inl v1), some (.inl v2)]) (st' := [.inl v1]) (M' := M) (P := True) rfl trivial ?_
      exact a_ri (md qX5_origin_ok) hz hR rfl (Or.inl rfl) h
    · refine a_run (md qX5_origin_ok) hz 3 [0] (pc' := 12) (lv' := [some (.inr 71), some (.inl x1), none, none, some (.inl v1), some (.inl v2)]) (st' := []) (M' := M) (P := (¬ (v2 ≤ x1)) ∧ True) rfl ⟨hc, trivial⟩ ?_
      obtain ⟨⟨h5, h6, h7⟩, h⟩ := gd_elim h
      refine a_run (md qX5_origin_ok) hz 9 [] (pc' := 27) (lv' := [some (.inr 71), some (.inl x1), none, none, some (.inl (M 84 (((20 : Int) * v2) + v1).toNat)), some (.inl v2)]) (st' := []) (M' := M) (P := (inR ((20 : Int) * v2)) ∧ (inR (((20 : Int) * v2) + v1)) ∧ (0 ≤ (((20 : Int) * v2) + v1) ∧ (((20 : Int) * v2) + v1) < 320) ∧ True) rfl ⟨h5, h6, h7, trivial⟩ ?_
      refine bnd_elim (G := fun (t3 : Int) => Aw z 27 [some (.inr 71), some (.inl x1), none, none, some (.inl t3), some (.inl v2)] [] M) h (fun t3 h => ?_)
      obtain ⟨h4, h⟩ := gd_elim h
      refine a_run (md qX5_origin_ok) hz 6 [] (pc' := 6) (lv' := [some (.inr 71), some (.inl x1), none, none, some (.inl t3), some (.inl (M 87 v2.toNat))]) (st' := []) (M' := M) (P := (0 ≤ v2 ∧ v2 < 16) ∧ True) rfl ⟨h4, trivial⟩ ?_
      refine a_mask [true, true, false, false, true, true] ?_
      exact ih t3 (M 87 v2.toNat) h
set_option maxRecDepth 100000 in
theorem mX5_origin (g : Gx) {M : Mm} {x1 : Int} {x2 : Int} {x3 : Int} {r : Int} (h : fX5_origin M x1 x2 x3 = some r) : Ct g qX5_origin [.inr 71, .inl x1, .inl x2, .inl x3] M (fun r' M' => r' = some r ∧ M' = M) := by
  refine c_ofP h qX5_origin_ok (Nat.le_of_ble_eq_true rfl) (fun z hz Q hR h => ?_)
  unfold fX5_origin at h
  show Aw z 0 [some (.inr 71), some (.inl x1), some (.inl x2), some (.inl x3), none, none] [] M
  refine a_run (md qX5_origin_ok) hz 4 [] (pc' := 6) (lv' := [some (.inr 71), some (.inl x1), some (.inl x2), some (.inl x3), some (.inl x3), some (.inl x2)]) (st' := []) (M' := M) (P := True) rfl trivial ?_
  refine a_mask [true, true, false, false, true, true] ?_
  refine mX5_origin_L6 hz hR  1000 x3 x2 h
def fX5_isDecided_L53 (x1 : Int) (M : Mm) : Nat → Int → Int → Int → Option (Int)
  | 0, _, _, _ => none
  | n + 1, v3, v4, v5 => gd ((0 ≤ v3 ∧ v3 < 16)) (if (M 85 v3.toNat) ≤ v5 then some (1 : Int) else jn (fun (v6 : Int) (v7 : Int) (v8 : Int) => gd ((inR (v8 + (1 : Int)))) (fX5_isDecided_L53 x1 M n v6 v7 (v8 + (1 : Int)))) (fun (K9 : Int → Int → Int → Option (Int)) => gd ((inR ((20 : Int) * v3)) ∧ (inR (((20 : Int) * v3) + v5)) ∧ (0 ≤ (((20 : Int) * v3) + v5) ∧ (((20 : Int) * v3) + v5) < 320)) (if (M 83 (((20 : Int) * v3) + v5).toNat) < 0 then K9 v3 v4 v5 else jn (fun (v11 : Int) (v12 : Int) (v13 : Int) => K9 v11 v13 v12) (fun (K14 : Int → Int → Int → Option (Int)) => cal (fX5_origin M x1 v3 v5) (fun (r15 : Int) => if v4 < 0 then K14 v3 v5 r15 else if r15 = v4 then K14 v3 v5 r15 else some (0 : Int))))))
def fX5_isDecided_L30 (x1 : Int) (M : Mm) (k47 : Int → Option (Int)) : Nat → Int → Option (Int)
  | 0, _ => none
  | n + 1, v1 => cal (fX5_next M v1) (fun (r20 : Int) => if r20 < 0 then k47 v1 else cal (fX5_next M v1) (fun (r21 : Int) => fX5_isDecided_L30 x1 M k47 n r21))
def fX5_isDecided (M : Mm) (x1 : Int) : Option (Int) := gd ((0 ≤ x1 ∧ x1 < 16)) (if 0 ≤ (M 86 x1.toNat) then gd ((0 ≤ x1 ∧ x1 < 16) ∧ (inR ((M 71 20) - (1 : Int)))) (if ((M 71 20) - (1 : Int)) ≤ (M 86 x1.toNat) then fX5_isDecided_L30 x1 M (fun (v2 : Int) => fX5_isDecided_L53 x1 M 1000 v2 (-6 : Int) (0 : Int)) 1000 x1 else some (1 : Int)) else some (0 : Int))
set_option maxRecDepth 100000 in
theorem mX5_isDecided_L53 {z : Zx} (hz : Cx qX5_isDecided z) {Q : Option Int → Mm → Prop} (hR : Rt Q z) {x1 : Int} {M : Mm} : ∀ (n : Nat) (v3 : Int) (v4 : Int) (v5 : Int), OK (fX5_isDecided_L53 x1 M n v3 v4 v5) (fun r2 => Q (some r2) M) → Aw z 53 [some (.inr 71), some (.inl x1), some (.inl v3), some (.inl v4), some (.inl v5), none] [] M := by
  intro n
  induction n with
  | zero =>
    intro v3 v4 v5 h
    exact (show False from h).elim
  | succ n ih =>
    intro v3 v4 v5 h
    unfold fX5_isDecided_L53 at h
    obtain ⟨h19, h⟩ := gd_elim h
    refine ite_elim h (fun hc h => ?_) (fun hc h => ?_)
    · refine a_run (md qX5_isDecided_ok) hz 6 [1] (pc' := 110) (lv' := [some (.inr 71), some (.inl x1), some (.inl v3), some (.inl v4), some (.inl v5), none]) (st' := []) (M' := M) (P := (0 ≤ v3 ∧ v3 < 16) ∧ ((M 85 v3.toNat) ≤ v5) ∧ True) rfl ⟨h19, hc, trivial⟩ ?_
      refine a_run (md qX5_isDecided_ok) hz 1 [] (pc' := 111) (lv' := [some (.inr 71), some (.inl x1), some (.inl v3), some (.inl v4), some (.inl v5), none]) (st' := [.inl (1 : Int)]) (M' := M) (P := True) rfl trivial ?_
      exact a_ri (md qX5_isDecided_ok) hz hR rfl (Or.inr ⟨rfl, by decide⟩) h
    · refine a_run (md qX5_isDecided_ok) hz 6 [0] (pc' := 64) (lv' := [some (.inr 71), some (.inl x1), some (.inl v3), some (.inl v4), some (.inl v5), none]) (st' := []) (M' := M) (P := (0 ≤ v3 ∧ v3 < 16) ∧ (¬ ((M 85 v3.toNat) ≤ v5)) ∧ True) rfl ⟨h19, hc, trivial⟩ ?_
      refine jn_elim h (fun (K9 : Int → Int → Int → Option (Int)) => ∀ (v6 : Int), ∀ (v7 : Int), ∀ (v8 : Int), OK (K9 v6 v7 v8) (fun r2 => Q (some r2) M) → Aw z 104 [some (.inr 71), some (.inl x1), some (.inl v6), some (.inl v7), some (.inl v8), none] [] M) (fun v6 v7 v8 h => ?_) (fun K9 hK9 h => ?_)
      · obtain ⟨h10, h⟩ := gd_elim h
        refine a_run (md qX5_isDecided_ok) hz 2 [] (pc' := 53) (lv' := [some (.inr 71), some (.inl x1), some (.inl v6), some (.inl v7), some (.inl (v8 + (1 : Int))), none]) (st' := []) (M' := M) (P := (inR (v8 + (1 : Int))) ∧ True) rfl ⟨h10, trivial⟩ ?_
        refine a_mask [true, true, true, true, true, false] ?_
        exact ih v6 v7 (v8 + (1 : Int)) h
      · obtain ⟨⟨h16, h17, h18⟩, h⟩ := gd_elim h
        refine ite_elim h (fun hc h => ?_) (fun hc h => ?_)
        · refine a_run (md qX5_isDecided_ok) hz 9 [1] (pc' := 104) (lv' := [some (.inr 71), some (.inl x1), some (.inl v3), some (.inl v4), some (.inl v5), none]) (st' := []) (M' := M) (P := (inR ((20 : Int) * v3)) ∧ (inR (((20 : Int) * v3) + v5)) ∧ (0 ≤ (((20 : Int) * v3) + v5) ∧ (((20 : Int) * v3) + v5) < 320) ∧ ((M 83 (((20 : Int) * v3) + v5).toNat) < 0) ∧ True) rfl ⟨h16, h17, h18, hc, trivial⟩ ?_
          refine a_mask [true, true, true, true, true, false] ?_
          exact hK9 v3 v4 v5 h
        · refine a_run (md qX5_isDecided_ok) hz 9 [0] (pc' := 79) (lv' := [some (.inr 71), some (.inl x1), some (.inl v3), some (.inl v4), some (.inl v5), none]) (st' := []) (M' := M) (P := (inR ((20 : Int) * v3)) ∧ (inR (((20 : Int) * v3) + v5)) ∧ (0 ≤ (((20 : Int) * v3) + v5) ∧ (((20 : Int) * v3) + v5) < 320) ∧ (¬ ((M 83 (((20 : Int) * v3) + v5).toNat) < 0)) ∧ True) rfl ⟨h16, h17, h18, hc, trivial⟩ ?_
          refine jn_elim h (fun (K14 : Int → Int → Int → Option (Int)) => ∀ (v11 : Int), ∀ (v12 : Int), ∀ (v13 : Int), OK (K14 v11 v12 v13) (fun r2 => Q (some r2) M) → Aw z 101 [some (.inr 71), some (.inl x1), some (.inl v11), none, some (.inl v12), some (.inl v13)] [] M) (fun v11 v12 v13 h => ?_) (fun K14 hK14 h => ?_)
          · refine a_run (md qX5_isDecided_ok) hz 2 [] (pc' := 104) (lv' := [some (.inr 71), some (.inl x1), some (.inl v11), some (.inl v13), some (.inl v12), some (.inl v13)]) (st' := []) (M' := M) (P := True) rfl trivial ?_
            refine a_mask [true, true, true, true, true, false] ?_
            exact hK9 v11 v13 v12 h
          · refine a_run (md qX5_isDecided_ok) hz 4 [] (pc' := 84) (lv' := [some (.inr 71), some (.inl x1), some (.inl v3), some (.inl v4), some (.inl v5), none]) (st' := [.inl v5, .inl v3, .inl x1, .inr 71]) (M' := M) (P := True) rfl trivial ?_
            obtain ⟨r15, hr, h⟩ := cal_elim h
            refine a_fV (as := [.inl x1, .inl v3, .inl v5]) (a := 71) (st := []) (mX5_origin z.1 hr) (md qX5_isDecided_ok) qX5_origin_ok hz lkX5_153 rfl 3 0 (by decide +kernel) rfl rfl rfl rfl ?_
            show Aw z 87 [some (.inr 71), some (.inl x1), some (.inl v3), some (.inl v4), some (.inl v5), none] [.inl r15] M
            refine ite_elim h (fun hc h => ?_) (fun hc h => ?_)
            · refine a_run (md qX5_isDecided_ok) hz 3 [1] (pc' := 101) (lv' := [some (.inr 71), some (.inl x1), some (.inl v3), some (.inl v4), some (.inl v5), some (.inl r15)]) (st' := []) (M' := M) (P := (v4 < 0) ∧ True) rfl ⟨hc, trivial⟩ ?_
              refine a_mask [true, true, true, false, true, true] ?_
              exact hK14 v3 v5 r15 h
            · refine a_run (md qX5_isDecided_ok) hz 3 [0] (pc' := 93) (lv' := [some (.inr 71), some (.inl x1), some (.inl v3), some (.inl v4), some (.inl v5), some (.inl r15)]) (st' := []) (M' := M) (P := (¬ (v4 < 0)) ∧ True) rfl ⟨hc, trivial⟩ ?_
              refine ite_elim h (fun hc h => ?_) (fun hc h => ?_)
              · refine a_run (md qX5_isDecided_ok) hz 3 [1] (pc' := 101) (lv' := [some (.inr 71), some (.inl x1), some (.inl v3), some (.inl v4), some (.inl v5), some (.inl r15)]) (st' := []) (M' := M) (P := (r15 = v4) ∧ True) rfl ⟨hc, trivial⟩ ?_
                refine a_mask [true, true, true, false, true, true] ?_
                exact hK14 v3 v5 r15 h
              · refine a_run (md qX5_isDecided_ok) hz 3 [0] (pc' := 99) (lv' := [some (.inr 71), some (.inl x1), some (.inl v3), some (.inl v4), some (.inl v5), some (.inl r15)]) (st' := []) (M' := M) (P := (¬ (r15 = v4)) ∧ True) rfl ⟨hc, trivial⟩ ?_
                refine a_run (md qX5_isDecided_ok) hz 1 [] (pc' := 100) (lv' := [some (.inr 71), some (.inl x1), some (.inl v3), some (.inl v4), some (.inl v5), some (.inl r15)]) (st' := [.inl (0 : Int)]) (M' := M) (P := True) rfl trivial ?_
                exact a_ri (md qX5_isDecided_ok) hz hR rfl (Or.inr ⟨rfl, by decide⟩) h
set_option maxRecDepth 100000 in
theorem mX5_isDecided_L30 {z : Zx} (hz : Cx qX5_isDecided z) {Q : Option Int → Mm → Prop} (hR : Rt Q z) {x1 : Int} {M : Mm} {k47 : Int → Option (Int)} (hk47 : ∀ (v2 : Int), OK (k47 v2) (fun r2 => Q (some r2) M) → Aw z 47 [some (.inr 71), some (.inl x1), some (.inl v2), none, none, none] [] M) : ∀ (n : Nat) (v1 : Int), OK (fX5_isDecided_L30 x1 M k47 n v1) (fun r2 => Q (some r2) M) → Aw z 30 [some (.inr 71), some (.inl x1), some (.inl v1), none, none, none] [] M := by
  intro n
  induction n with
  | zero =>
    intro v1 h
    exact (show False from h).elim
  | succ n ih =>
    intro v1 h
    unfold fX5_isDecided_L30 at h
    refine a_run (md qX5_isDecided_ok) hz 2 [] (pc' := 32) (lv' := [some (.inr 71), some (.inl x1), some (.inl v1), none, none, none]) (st' := [.inl v1, .inr 71]) (M' := M) (P := True) rfl trivial ?_
    obtain ⟨r20, hr, h⟩ := cal_elim h
    refine a_fV (as := [.inl v1]) (a := 71) (st := []) (mX5_next z.1 hr) (md qX5_isDecided_ok) qX5_next_ok hz lkX5_141 rfl 1 0 (by decide +kernel) rfl rfl rfl rfl ?_
    show Aw z 35 [some (.inr 71), some (.inl x1), some (.inl v1), none, none, none] [.inl r20] M
    refine ite_elim h (fun hc h => ?_) (fun hc h => ?_)
    · refine a_run (md qX5_isDecided_ok) hz 1 [1] (pc' := 47) (lv' := [some (.inr 71), some (.inl x1), some (.inl v1), none, none, none]) (st' := []) (M' := M) (P := (r20 < 0) ∧ True) rfl ⟨hc, trivial⟩ ?_
      refine a_mask [true, true, true, false, false, false] ?_
      exact hk47 v1 h
    · refine a_run (md qX5_isDecided_ok) hz 1 [0] (pc' := 38) (lv' := [some (.inr 71), some (.inl x1), some (.inl v1), none, none, none]) (st' := []) (M' := M) (P := (¬ (r20 < 0)) ∧ True) rfl ⟨hc, trivial⟩ ?_
      refine a_run (md qX5_isDecided_ok) hz 2 [] (pc' := 40) (lv' := [some (.inr 71), some (.inl x1), some (.inl v1), none, none, none]) (st' := [.inl v1, .inr 71]) (M' := M) (P := True) rfl trivial ?_
      obtain ⟨r21, hr, h⟩ := cal_elim h
      refine a_fV (as := [.inl v1]) (a := 71) (st := []) (mX5_next z.1 hr) (md qX5_isDecided_ok) qX5_next_ok hz lkX5_141 rfl 1 0 (by decide +kernel) rfl rfl rfl rfl ?_
      show Aw z 43 [some (.inr 71), some (.inl x1), some (.inl v1), none, none, none] [.inl r21] M
      refine a_run (md qX5_isDecided_ok) hz 2 [] (pc' := 30) (lv' := [some (.inr 71), some (.inl x1), some (.inl r21), none, none, none]) (st' := []) (M' := M) (P := True) rfl trivial ?_
      refine a_mask [true, true, true, false, false, false] ?_
      exact ih r21 h
set_option maxRecDepth 100000 in
theorem mX5_isDecided (g : Gx) {M : Mm} {x1 : Int} {r : Int} (h : fX5_isDecided M x1 = some r) : Ct g qX5_isDecided [.inr 71, .inl x1] M (fun r' M' => r' = some r ∧ M' = M) := by
  refine c_ofP h qX5_isDecided_ok (Nat.le_of_ble_eq_true rfl) (fun z hz Q hR h => ?_)
  unfold fX5_isDecided at h
  show Aw z 0 [some (.inr 71), some (.inl x1), none, none, none, none] [] M
  obtain ⟨h24, h⟩ := gd_elim h
  refine ite_elim h (fun hc h => ?_) (fun hc h => ?_)
  · refine a_run (md qX5_isDecided_ok) hz 5 [1] (pc' := 11) (lv' := [some (.inr 71), some (.inl x1), none, none, none, none]) (st' := []) (M' := M) (P := (0 ≤ x1 ∧ x1 < 16) ∧ (0 ≤ (M 86 x1.toNat)) ∧ True) rfl ⟨h24, hc, trivial⟩ ?_
    obtain ⟨⟨h22, h23⟩, h⟩ := gd_elim h
    refine ite_elim h (fun hc h => ?_) (fun hc h => ?_)
    · refine a_run (md qX5_isDecided_ok) hz 9 [1] (pc' := 28) (lv' := [some (.inr 71), some (.inl x1), none, none, none, none]) (st' := []) (M' := M) (P := (0 ≤ x1 ∧ x1 < 16) ∧ (inR ((M 71 20) - (1 : Int))) ∧ (((M 71 20) - (1 : Int)) ≤ (M 86 x1.toNat)) ∧ True) rfl ⟨h22, h23, hc, trivial⟩ ?_
      refine a_run (md qX5_isDecided_ok) hz 2 [] (pc' := 30) (lv' := [some (.inr 71), some (.inl x1), some (.inl x1), none, none, none]) (st' := []) (M' := M) (P := True) rfl trivial ?_
      refine a_mask [true, true, true, false, false, false] ?_
      refine mX5_isDecided_L30 hz hR (fun v2 h => ?_) 1000 x1 h
      · refine a_run (md qX5_isDecided_ok) hz 4 [] (pc' := 53) (lv' := [some (.inr 71), some (.inl x1), some (.inl v2), some (.inl (-6 : Int)), some (.inl (0 : Int)), none]) (st' := []) (M' := M) (P := True) rfl trivial ?_
        refine a_mask [true, true, true, true, true, false] ?_
        refine mX5_isDecided_L53 hz hR  1000 v2 (-6 : Int) (0 : Int) h
    · refine a_run (md qX5_isDecided_ok) hz 9 [0] (pc' := 26) (lv' := [some (.inr 71), some (.inl x1), none, none, none, none]) (st' := []) (M' := M) (P := (0 ≤ x1 ∧ x1 < 16) ∧ (inR ((M 71 20) - (1 : Int))) ∧ (¬ (((M 71 20) - (1 : Int)) ≤ (M 86 x1.toNat))) ∧ True) rfl ⟨h22, h23, hc, trivial⟩ ?_
      refine a_run (md qX5_isDecided_ok) hz 1 [] (pc' := 27) (lv' := [some (.inr 71), some (.inl x1), none, none, none, none]) (st' := [.inl (1 : Int)]) (M' := M) (P := True) rfl trivial ?_
      exact a_ri (md qX5_isDecided_ok) hz hR rfl (Or.inr ⟨rfl, by decide⟩) h
  · refine a_run (md qX5_isDecided_ok) hz 5 [0] (pc' := 9) (lv' := [some (.inr 71), some (.inl x1), none, none, none, none]) (st' := []) (M' := M) (P := (0 ≤ x1 ∧ x1 < 16) ∧ (¬ (0 ≤ (M 86 x1.toNat))) ∧ True) rfl ⟨h24, hc, trivial⟩ ?_
    refine a_run (md qX5_isDecided_ok) hz 1 [] (pc' := 10) (lv' := [some (.inr 71), some (.inl x1), none, none, none, none]) (st' := [.inl (0 : Int)]) (M' := M) (P := True) rfl trivial ?_
    exact a_ri (md qX5_isDecided_ok) hz hR rfl (Or.inr ⟨rfl, by decide⟩) h
def fX5_decided (M : Mm) (x1 : Int) : Option (Int × Mm) := cal (fX5_isFix M x1) (fun (r1 : Int) => if r1 = 0 then some ((-1 : Int), M) else cal (fX5_layAll M) (fun (M2 : Mm) => cal (fX5_isDecided M2 x1) (fun (r3 : Int) => if r3 = 0 then some ((-6 : Int), M2) else gd ((inR ((20 : Int) * x1)) ∧ (0 ≤ x1 ∧ x1 < 16) ∧ (inR (((20 : Int) * x1) + (M2 88 x1.toNat))) ∧ (0 ≤ (((20 : Int) * x1) + (M2 88 x1.toNat)) ∧ (((20 : Int) * x1) + (M2 88 x1.toNat)) < 320)) (some ((M2 81 (((20 : Int) * x1) + (M2 88 x1.toNat)).toNat), M2)))))
set_option maxRecDepth 100000 in
theorem mX5_decided (g : Gx) {M : Mm} {x1 : Int} {r : Int} {M2 : Mm} (h : fX5_decided M x1 = some (r, M2)) : Ct g qX5_decided [.inr 71, .inl x1] M (fun r' M' => r' = some r ∧ M' = M2) := by
  refine c_ofI h qX5_decided_ok (Nat.le_of_ble_eq_true rfl) (fun z hz Q hR h => ?_)
  unfold fX5_decided at h
  show Aw z 0 [some (.inr 71), some (.inl x1)] [] M
  refine a_run (md qX5_decided_ok) hz 2 [] (pc' := 2) (lv' := [some (.inr 71), some (.inl x1)]) (st' := [.inl x1, .inr 71]) (M' := M) (P := True) rfl trivial ?_
  obtain ⟨r1, hr, h⟩ := cal_elim h
  refine a_fV (as := [.inl x1]) (a := 71) (st := []) (mX5_isFix z.1 hr) (md qX5_decided_ok) qX5_isFix_ok hz lkX5_147 rfl 1 0 (by decide +kernel) rfl rfl rfl rfl ?_
  show Aw z 5 [some (.inr 71), some (.inl x1)] [.inl r1] M
  refine ite_elim h (fun hc h => ?_) (fun hc h => ?_)
  · refine a_run (md qX5_decided_ok) hz 1 [0] (pc' := 8) (lv' := [some (.inr 71), some (.inl x1)]) (st' := []) (M' := M) (P := (¬ ¬ r1 = 0) ∧ True) rfl ⟨fun h9 => h9 hc, trivial⟩ ?_
    refine a_run (md qX5_decided_ok) hz 1 [] (pc' := 9) (lv' := [some (.inr 71), some (.inl x1)]) (st' := [.inl (-1 : Int)]) (M' := M) (P := True) rfl trivial ?_
    exact a_ri (md qX5_decided_ok) hz hR rfl (Or.inl rfl) h
  · refine a_run (md qX5_decided_ok) hz 1 [1] (pc' := 10) (lv' := [some (.inr 71), some (.inl x1)]) (st' := []) (M' := M) (P := (¬ r1 = 0) ∧ True) rfl ⟨hc, trivial⟩ ?_
    refine a_run (md qX5_decided_ok) hz 1 [] (pc' := 11) (lv' := [some (.inr 71), some (.inl x1)]) (st' := [.inr 71]) (M' := M) (P := True) rfl trivial ?_
    obtain ⟨M2, hr, h⟩ := cal_elim h
    refine a_fV (as := []) (a := 71) (st := []) (mX5_layAll z.1 hr) (md qX5_decided_ok) qX5_layAll_ok hz lkX5_150 rfl 0 0 (by decide +kernel) rfl rfl rfl rfl ?_
    show Aw z 14 [some (.inr 71), some (.inl x1)] [] M2
    refine a_run (md qX5_decided_ok) hz 2 [] (pc' := 16) (lv' := [some (.inr 71), some (.inl x1)]) (st' := [.inl x1, .inr 71]) (M' := M2) (P := True) rfl trivial ?_
    obtain ⟨r3, hr, h⟩ := cal_elim h
    refine a_fV (as := [.inl x1]) (a := 71) (st := []) (mX5_isDecided z.1 hr) (md qX5_decided_ok) qX5_isDecided_ok hz lkX5_156 rfl 1 0 (by decide +kernel) rfl rfl rfl rfl ?_
    show Aw z 19 [some (.inr 71), some (.inl x1)] [.inl r3] M2
    refine ite_elim h (fun hc h => ?_) (fun hc h => ?_)
    · refine a_run (md qX5_decided_ok) hz 1 [1] (pc' := 41) (lv' := [some (.inr 71), some (.inl x1)]) (st' := []) (M' := M2) (P := (r3 = 0) ∧ True) rfl ⟨hc, trivial⟩ ?_
      refine a_run (md qX5_decided_ok) hz 1 [] (pc' := 43) (lv' := [some (.inr 71), some (.inl x1)]) (st' := [.inl (-6 : Int)]) (M' := M2) (P := True) rfl trivial ?_
      exact a_ri (md qX5_decided_ok) hz hR rfl (Or.inl rfl) h
    · refine a_run (md qX5_decided_ok) hz 1 [0] (pc' := 22) (lv' := [some (.inr 71), some (.inl x1)]) (st' := []) (M' := M2) (P := (¬ (r3 = 0)) ∧ True) rfl ⟨hc, trivial⟩ ?_
      obtain ⟨⟨h4, h5, h6, h7⟩, h⟩ := gd_elim h
      refine a_run (md qX5_decided_ok) hz 12 [] (pc' := 43) (lv' := [some (.inr 71), some (.inl x1)]) (st' := [.inl (M2 81 (((20 : Int) * x1) + (M2 88 x1.toNat)).toNat)]) (M' := M2) (P := (inR ((20 : Int) * x1)) ∧ (0 ≤ x1 ∧ x1 < 16) ∧ (inR (((20 : Int) * x1) + (M2 88 x1.toNat))) ∧ (0 ≤ (((20 : Int) * x1) + (M2 88 x1.toNat)) ∧ (((20 : Int) * x1) + (M2 88 x1.toNat)) < 320) ∧ True) rfl ⟨h4, h5, h6, h7, trivial⟩ ?_
      exact a_ri (md qX5_decided_ok) hz hR rfl (Or.inl rfl) h
def fX5_piece (M : Mm) (x1 : Int) : Option (Int × Mm) := cal (fX5_isFix M x1) (fun (r1 : Int) => if r1 = 0 then some ((-1 : Int), M) else cal (fX5_layAll M) (fun (M2 : Mm) => gd ((0 ≤ x1 ∧ x1 < 16)) (some ((M2 86 x1.toNat), M2))))
set_option maxRecDepth 100000 in
theorem mX5_piece (g : Gx) {M : Mm} {x1 : Int} {r : Int} {M2 : Mm} (h : fX5_piece M x1 = some (r, M2)) : Ct g qX5_piece [.inr 71, .inl x1] M (fun r' M' => r' = some r ∧ M' = M2) := by
  refine c_ofI h qX5_piece_ok (Nat.le_of_ble_eq_true rfl) (fun z hz Q hR h => ?_)
  unfold fX5_piece at h
  show Aw z 0 [some (.inr 71), some (.inl x1)] [] M
  refine a_run (md qX5_piece_ok) hz 2 [] (pc' := 2) (lv' := [some (.inr 71), some (.inl x1)]) (st' := [.inl x1, .inr 71]) (M' := M) (P := True) rfl trivial ?_
  obtain ⟨r1, hr, h⟩ := cal_elim h
  refine a_fV (as := [.inl x1]) (a := 71) (st := []) (mX5_isFix z.1 hr) (md qX5_piece_ok) qX5_isFix_ok hz lkX5_147 rfl 1 0 (by decide +kernel) rfl rfl rfl rfl ?_
  show Aw z 5 [some (.inr 71), some (.inl x1)] [.inl r1] M
  refine ite_elim h (fun hc h => ?_) (fun hc h => ?_)
  · refine a_run (md qX5_piece_ok) hz 1 [0] (pc' := 8) (lv' := [some (.inr 71), some (.inl x1)]) (st' := []) (M' := M) (P := (¬ ¬ r1 = 0) ∧ True) rfl ⟨fun h9 => h9 hc, trivial⟩ ?_
    refine a_run (md qX5_piece_ok) hz 1 [] (pc' := 9) (lv' := [some (.inr 71), some (.inl x1)]) (st' := [.inl (-1 : Int)]) (M' := M) (P := True) rfl trivial ?_
    exact a_ri (md qX5_piece_ok) hz hR rfl (Or.inl rfl) h
  · refine a_run (md qX5_piece_ok) hz 1 [1] (pc' := 10) (lv' := [some (.inr 71), some (.inl x1)]) (st' := []) (M' := M) (P := (¬ r1 = 0) ∧ True) rfl ⟨hc, trivial⟩ ?_
    refine a_run (md qX5_piece_ok) hz 1 [] (pc' := 11) (lv' := [some (.inr 71), some (.inl x1)]) (st' := [.inr 71]) (M' := M) (P := True) rfl trivial ?_
    obtain ⟨M2, hr, h⟩ := cal_elim h
    refine a_fV (as := []) (a := 71) (st := []) (mX5_layAll z.1 hr) (md qX5_piece_ok) qX5_layAll_ok hz lkX5_150 rfl 0 0 (by decide +kernel) rfl rfl rfl rfl ?_
    show Aw z 14 [some (.inr 71), some (.inl x1)] [] M2
    obtain ⟨h3, h⟩ := gd_elim h
    refine a_run (md qX5_piece_ok) hz 4 [] (pc' := 20) (lv' := [some (.inr 71), some (.inl x1)]) (st' := [.inl (M2 86 x1.toNat)]) (M' := M2) (P := (0 ≤ x1 ∧ x1 < 16) ∧ True) rfl ⟨h3, trivial⟩ ?_
    exact a_ri (md qX5_piece_ok) hz hR rfl (Or.inl rfl) h
def fX5_stepOf (M : Mm) (x1 : Int) : Option (Int) := jn (some (-6 : Int)) (fun (K1 : Option (Int)) => gd ((0 ≤ x1 ∧ x1 < 16)) (if (M 86 x1.toNat) < 0 then K1 else gd ((0 ≤ x1 ∧ x1 < 16)) (if 0 ≤ (M 87 x1.toNat) then gd ((0 ≤ x1 ∧ x1 < 16) ∧ (inR ((20 : Int) * (M 87 x1.toNat))) ∧ (0 ≤ x1 ∧ x1 < 16) ∧ (0 ≤ (M 87 x1.toNat) ∧ (M 87 x1.toNat) < 16) ∧ (inR (((20 : Int) * (M 87 x1.toNat)) + (M 88 (M 87 x1.toNat).toNat))) ∧ (0 ≤ (((20 : Int) * (M 87 x1.toNat)) + (M 88 (M 87 x1.toNat).toNat)) ∧ (((20 : Int) * (M 87 x1.toNat)) + (M 88 (M 87 x1.toNat).toNat)) < 320) ∧ (inR ((20 : Int) * x1)) ∧ (0 ≤ x1 ∧ x1 < 16) ∧ (inR (((20 : Int) * x1) + (M 88 x1.toNat))) ∧ (0 ≤ (((20 : Int) * x1) + (M 88 x1.toNat)) ∧ (((20 : Int) * x1) + (M 88 x1.toNat)) < 320)) (cal (fX5_wayOf M (M 81 (((20 : Int) * (M 87 x1.toNat)) + (M 88 (M 87 x1.toNat).toNat)).toNat) (M 81 (((20 : Int) * x1) + (M 88 x1.toNat)).toNat)) (fun (r2 : Int) => some r2)) else K1)))
set_option maxRecDepth 100000 in
theorem mX5_stepOf (g : Gx) {M : Mm} {x1 : Int} {r : Int} (h : fX5_stepOf M x1 = some r) : Ct g qX5_stepOf [.inr 71, .inl x1] M (fun r' M' => r' = some r ∧ M' = M) := by
  refine c_ofP h qX5_stepOf_ok (Nat.le_of_ble_eq_true rfl) (fun z hz Q hR h => ?_)
  unfold fX5_stepOf at h
  show Aw z 0 [some (.inr 71), some (.inl x1)] [] M
  refine jn_elim h (fun (K1 : Option (Int)) => OK (K1) (fun r2 => Q (some r2) M) → Aw z 18 [none, none] [] M) (fun h => ?_) (fun K1 hK1 h => ?_)
  · refine a_run (md qX5_stepOf_ok) hz 2 [] (pc' := 69) (lv' := [none, none]) (st' := [.inl (-6 : Int)]) (M' := M) (P := True) rfl trivial ?_
    exact a_ri (md qX5_stepOf_ok) hz hR rfl (Or.inl rfl) h
  · obtain ⟨h14, h⟩ := gd_elim h
    refine ite_elim h (fun hc h => ?_) (fun hc h => ?_)
    · refine a_run (md qX5_stepOf_ok) hz 5 [1] (pc' := 18) (lv' := [some (.inr 71), some (.inl x1)]) (st' := []) (M' := M) (P := (0 ≤ x1 ∧ x1 < 16) ∧ ((M 86 x1.toNat) < 0) ∧ True) rfl ⟨h14, hc, trivial⟩ ?_
      refine a_mask [false, false] ?_
      exact hK1  h
    · refine a_run (md qX5_stepOf_ok) hz 5 [0] (pc' := 9) (lv' := [some (.inr 71), some (.inl x1)]) (st' := []) (M' := M) (P := (0 ≤ x1 ∧ x1 < 16) ∧ (¬ ((M 86 x1.toNat) < 0)) ∧ True) rfl ⟨h14, hc, trivial⟩ ?_
      obtain ⟨h13, h⟩ := gd_elim h
      refine ite_elim h (fun hc h => ?_) (fun hc h => ?_)
      · refine a_run (md qX5_stepOf_ok) hz 5 [1] (pc' := 23) (lv' := [some (.inr 71), some (.inl x1)]) (st' := []) (M' := M) (P := (0 ≤ x1 ∧ x1 < 16) ∧ (0 ≤ (M 87 x1.toNat)) ∧ True) rfl ⟨h13, hc, trivial⟩ ?_
        obtain ⟨⟨h3, h4, h5, h6, h7, h8, h9, h10, h11, h12⟩, h⟩ := gd_elim h
        refine a_run (md qX5_stepOf_ok) hz 29 [] (pc' := 66) (lv' := [some (.inr 71), some (.inl x1)]) (st' := [.inl (M 81 (((20 : Int) * x1) + (M 88 x1.toNat)).toNat), .inl (M 81 (((20 : Int) * (M 87 x1.toNat)) + (M 88 (M 87 x1.toNat).toNat)).toNat), .inr 71]) (M' := M) (P := (0 ≤ x1 ∧ x1 < 16) ∧ (inR ((20 : Int) * (M 87 x1.toNat))) ∧ (0 ≤ x1 ∧ x1 < 16) ∧ (0 ≤ (M 87 x1.toNat) ∧ (M 87 x1.toNat) < 16) ∧ (inR (((20 : Int) * (M 87 x1.toNat)) + (M 88 (M 87 x1.toNat).toNat))) ∧ (0 ≤ (((20 : Int) * (M 87 x1.toNat)) + (M 88 (M 87 x1.toNat).toNat)) ∧ (((20 : Int) * (M 87 x1.toNat)) + (M 88 (M 87 x1.toNat).toNat)) < 320) ∧ (inR ((20 : Int) * x1)) ∧ (0 ≤ x1 ∧ x1 < 16) ∧ (inR (((20 : Int) * x1) + (M 88 x1.toNat))) ∧ (0 ≤ (((20 : Int) * x1) + (M 88 x1.toNat)) ∧ (((20 : Int) * x1) + (M 88 x1.toNat)) < 320) ∧ True) rfl ⟨h3, h4, h5, h6, h7, h8, h9, h10, h11, h12, trivial⟩ ?_
        obtain ⟨r2, hr, h⟩ := cal_elim h
        refine a_fV (as := [.inl (M 81 (((20 : Int) * (M 87 x1.toNat)) + (M 88 (M 87 x1.toNat).toNat)).toNat), .inl (M 81 (((20 : Int) * x1) + (M 88 x1.toNat)).toNat)]) (a := 71) (st := []) (mX5_wayOf z.1 hr) (md qX5_stepOf_ok) qX5_wayOf_ok hz lkX5_121 rfl 2 0 (by decide +kernel) rfl rfl rfl rfl ?_
        show Aw z 69 [some (.inr 71), some (.inl x1)] [.inl r2] M
        exact a_ri (md qX5_stepOf_ok) hz hR rfl (Or.inl rfl) h
      · refine a_run (md qX5_stepOf_ok) hz 5 [0] (pc' := 18) (lv' := [some (.inr 71), some (.inl x1)]) (st' := []) (M' := M) (P := (0 ≤ x1 ∧ x1 < 16) ∧ (¬ (0 ≤ (M 87 x1.toNat))) ∧ True) rfl ⟨h13, hc, trivial⟩ ?_
        refine a_mask [false, false] ?_
        exact hK1  h
def fX5_step (M : Mm) (x1 : Int) : Option (Int × Mm) := cal (fX5_isFix M x1) (fun (r1 : Int) => if r1 = 0 then some ((-1 : Int), M) else cal (fX5_layAll M) (fun (M2 : Mm) => cal (fX5_stepOf M2 x1) (fun (r3 : Int) => some (r3, M2))))
set_option maxRecDepth 100000 in
theorem mX5_step (g : Gx) {M : Mm} {x1 : Int} {r : Int} {M2 : Mm} (h : fX5_step M x1 = some (r, M2)) : Ct g qX5_step [.inr 71, .inl x1] M (fun r' M' => r' = some r ∧ M' = M2) := by
  refine c_ofI h qX5_step_ok (Nat.le_of_ble_eq_true rfl) (fun z hz Q hR h => ?_)
  unfold fX5_step at h
  show Aw z 0 [some (.inr 71), some (.inl x1)] [] M
  refine a_run (md qX5_step_ok) hz 2 [] (pc' := 2) (lv' := [some (.inr 71), some (.inl x1)]) (st' := [.inl x1, .inr 71]) (M' := M) (P := True) rfl trivial ?_
  obtain ⟨r1, hr, h⟩ := cal_elim h
  refine a_fV (as := [.inl x1]) (a := 71) (st := []) (mX5_isFix z.1 hr) (md qX5_step_ok) qX5_isFix_ok hz lkX5_147 rfl 1 0 (by decide +kernel) rfl rfl rfl rfl ?_
  show Aw z 5 [some (.inr 71), some (.inl x1)] [.inl r1] M
  refine ite_elim h (fun hc h => ?_) (fun hc h => ?_)
  · refine a_run (md qX5_step_ok) hz 1 [0] (pc' := 8) (lv' := [some (.inr 71), some (.inl x1)]) (st' := []) (M' := M) (P := (¬ ¬ r1 = 0) ∧ True) rfl ⟨fun h9 => h9 hc, trivial⟩ ?_
    refine a_run (md qX5_step_ok) hz 1 [] (pc' := 9) (lv' := [some (.inr 71), some (.inl x1)]) (st' := [.inl (-1 : Int)]) (M' := M) (P := True) rfl trivial ?_
    exact a_ri (md qX5_step_ok) hz hR rfl (Or.inl rfl) h
  · refine a_run (md qX5_step_ok) hz 1 [1] (pc' := 10) (lv' := [some (.inr 71), some (.inl x1)]) (st' := []) (M' := M) (P := (¬ r1 = 0) ∧ True) rfl ⟨hc, trivial⟩ ?_
    refine a_run (md qX5_step_ok) hz 1 [] (pc' := 11) (lv' := [some (.inr 71), some (.inl x1)]) (st' := [.inr 71]) (M' := M) (P := True) rfl trivial ?_
    obtain ⟨M2, hr, h⟩ := cal_elim h
    refine a_fV (as := []) (a := 71) (st := []) (mX5_layAll z.1 hr) (md qX5_step_ok) qX5_layAll_ok hz lkX5_150 rfl 0 0 (by decide +kernel) rfl rfl rfl rfl ?_
    show Aw z 14 [some (.inr 71), some (.inl x1)] [] M2
    refine a_run (md qX5_step_ok) hz 2 [] (pc' := 16) (lv' := [some (.inr 71), some (.inl x1)]) (st' := [.inl x1, .inr 71]) (M' := M2) (P := True) rfl trivial ?_
    obtain ⟨r3, hr, h⟩ := cal_elim h
    refine a_fV (as := [.inl x1]) (a := 71) (st := []) (mX5_stepOf z.1 hr) (md qX5_step_ok) qX5_stepOf_ok hz lkX5_159 rfl 1 0 (by decide +kernel) rfl rfl rfl rfl ?_
    show Aw z 19 [some (.inr 71), some (.inl x1)] [.inl r3] M2
    exact a_ri (md qX5_step_ok) hz hR rfl (Or.inl rfl) h
def fX5_onward_L6 (x1 : Int) (x2 : Int) (M : Mm) : Nat → Int → Int → Option (Int)
  | 0, _, _ => none
  | n + 1, v1, v2 => if (M 71 6) ≤ v2 then some v1 else jn (fun (v3 : Int) (v4 : Int) (w5 : Int) => jn (fun (v7 : Int) (v8 : Int) => gd ((inR (v8 + (1 : Int)))) (fX5_onward_L6 x1 x2 M n v7 (v8 + (1 : Int)))) (fun (K9 : Int → Int → Option (Int)) => if w5 < 0 then K9 v3 v4 else cal (fX5_length M v4) (fun (r11 : Int) => gd ((inR ((12 : Int) * w5)) ∧ (inR (((12 : Int) * w5) + x2)) ∧ (0 ≤ (((12 : Int) * w5) + x2) ∧ (((12 : Int) * w5) + x2) < 144) ∧ (inR (r11 + (M 80 (((12 : Int) * w5) + x2).toNat))) ∧ (inR ((12 : Int) * x1)) ∧ (inR (((12 : Int) * x1) + x2)) ∧ (0 ≤ (((12 : Int) * x1) + x2) ∧ (((12 : Int) * x1) + x2) < 144)) (if (r11 + (M 80 (((12 : Int) * w5) + x2).toNat)) = (M 80 (((12 : Int) * x1) + x2).toNat) then jn (fun (v12 : Int) (w13 : Int) => K9 w13 v12) (fun (K14 : Int → Int → Option (Int)) => jn (fun (v15 : Int) (v16 : Int) => K14 v15 v16) (fun (K17 : Int → Int → Option (Int)) => if v3 < 0 then K17 v4 w5 else if v3 ≤ w5 then K14 v4 v3 else K17 v4 w5)) else K9 v3 v4)))) (fun (K6 : Int → Int → Int → Option (Int)) => gd ((0 ≤ v2 ∧ v2 < 20)) (if (M 74 v2.toNat) = x1 then gd ((0 ≤ v2 ∧ v2 < 20)) (K6 v1 v2 (M 75 v2.toNat)) else jn (fun (v25 : Int) (v26 : Int) => K6 v25 v26 (-6 : Int)) (fun (K27 : Int → Int → Option (Int)) => gd ((0 ≤ v2 ∧ v2 < 20)) (if (M 75 v2.toNat) = x1 then gd ((0 ≤ v2 ∧ v2 < 20)) (if (M 76 v2.toNat) = 0 then gd ((0 ≤ v2 ∧ v2 < 20)) (K6 v1 v2 (M 74 v2.toNat)) else K27 v1 v2) else K27 v1 v2))))
def fX5_onward (M : Mm) (x1 : Int) (x2 : Int) : Option (Int) := fX5_onward_L6 x1 x2 M 1000 (-6 : Int) (0 : Int)
set_option maxRecDepth 100000 in
theorem mX5_onward_L6 {z : Zx} (hz : Cx qX5_onward z) {Q : Option Int → Mm → Prop} (hR : Rt Q z) {x1 : Int} {x2 : Int} {M : Mm} : ∀ (n : Nat) (v1 : Int) (v2 : Int), OK (fX5_onward_L6 x1 x2 M n v1 v2) (fun r2 => Q (some r2) M) → Aw z 6 [some (.inr 71), some (.inl x1), some (.inl x2), some (.inl v1), some (.inl v2), none] [] M := by
  intro n
  induction n with
  | zero =>
    intro v1 v2 h
    exact (show False from h).elim
  | succ n ih =>
    intro v1 v2 h
    unfold fX5_onward_L6 at h
    refine ite_elim h (fun hc h => ?_) (fun hc h => ?_)
    · refine a_run (md qX5_onward_ok) hz 4 [1] (pc' := 132) (lv' := [some (.inr 71), some (.inl x1), some (.inl x2), some (.inl v1), some (.inl v2), none]) (st' := []) (M' := M) (P := ((M 71 6) ≤ v2) ∧ True) rfl ⟨hc, trivial⟩ ?_
      refine a_run (md qX5_onward_ok) hz 1 [] (pc' := 133) (lv' := [some (.inr 71), some (.inl x1), some (.inl x2), some (.inl v1), some (.inl v2), none]) (st' := [.inl v1]) (M' := M) (P := True) rfl trivial ?_
      exact a_ri (md qX5_onward_ok) hz hR rfl (Or.inl rfl) h
    · refine a_run (md qX5_onward_ok) hz 4 [0] (pc' := 15) (lv' := [some (.inr 71), some (.inl x1), some (.inl x2), some (.inl v1), some (.inl v2), none]) (st' := []) (M' := M) (P := (¬ ((M 71 6) ≤ v2)) ∧ True) rfl ⟨hc, trivial⟩ ?_
      refine jn_elim h (fun (K6 : Int → Int → Int → Option (Int)) => ∀ (v3 : Int), ∀ (v4 : Int), ∀ (w5 : Int), OK (K6 v3 v4 w5) (fun r2 => Q (some r2) M) → Aw z 69 [some (.inr 71), some (.inl x1), some (.inl x2), some (.inl v3), some (.inl v4), none] [.inl w5] M) (fun v3 v4 w5 h => ?_) (fun K6 hK6 h => ?_)
      · refine jn_elim h (fun (K9 : Int → Int → Option (Int)) => ∀ (v7 : Int), ∀ (v8 : Int), OK (K9 v7 v8) (fun r2 => Q (some r2) M) → Aw z 126 [some (.inr 71), some (.inl x1), some (.inl x2), some (.inl v7), some (.inl v8), none] [] M) (fun v7 v8 h => ?_) (fun K9 hK9 h => ?_)
        · obtain ⟨h10, h⟩ := gd_elim h
          refine a_run (md qX5_onward_ok) hz 2 [] (pc' := 6) (lv' := [some (.inr 71), some (.inl x1), some (.inl x2), some (.inl v7), some (.inl (v8 + (1 : Int))), none]) (st' := []) (M' := M) (P := (inR (v8 + (1 : Int))) ∧ True) rfl ⟨h10, trivial⟩ ?_
          refine a_mask [true, true, true, true, true, false] ?_
          exact ih v7 (v8 + (1 : Int)) h
        · refine ite_elim h (fun hc h => ?_) (fun hc h => ?_)
          · refine a_run (md qX5_onward_ok) hz 3 [1] (pc' := 126) (lv' := [some (.inr 71), some (.inl x1), some (.inl x2), some (.inl v3), some (.inl v4), some (.inl w5)]) (st' := []) (M' := M) (P := (w5 < 0) ∧ True) rfl ⟨hc, trivial⟩ ?_
            refine a_mask [true, true, true, true, true, false] ?_
            exact hK9 v3 v4 h
          · refine a_run (md qX5_onward_ok) hz 3 [0] (pc' := 76) (lv' := [some (.inr 71), some (.inl x1), some (.inl x2), some (.inl v3), some (.inl v4), some (.inl w5)]) (st' := []) (M' := M) (P := (¬ (w5 < 0)) ∧ True) rfl ⟨hc, trivial⟩ ?_
            refine a_run (md qX5_onward_ok) hz 2 [] (pc' := 79) (lv' := [some (.inr 71), some (.inl x1), some (.inl x2), some (.inl v3), some (.inl v4), some (.inl w5)]) (st' := [.inl v4, .inr 71]) (M' := M) (P := True) rfl trivial ?_
            obtain ⟨r11, hr, h⟩ := cal_elim h
            refine a_fV (as := [.inl v4]) (a := 71) (st := []) (mX5_length z.1 hr) (md qX5_onward_ok) qX5_length_ok hz lkX5_98 rfl 1 0 (by decide +kernel) rfl rfl rfl rfl ?_
            show Aw z 82 [some (.inr 71), some (.inl x1), some (.inl x2), some (.inl v3), some (.inl v4), some (.inl w5)] [.inl r11] M
            obtain ⟨⟨h18, h19, h20, h21, h22, h23, h24⟩, h⟩ := gd_elim h
            refine ite_elim h (fun hc h => ?_) (fun hc h => ?_)
            · refine a_run (md qX5_onward_ok) hz 18 [0] (pc' := 109) (lv' := [some (.inr 71), some (.inl x1), some (.inl x2), some (.inl v3), some (.inl v4), some (.inl w5)]) (st' := []) (M' := M) (P := (inR ((12 : Int) * w5)) ∧ (inR (((12 : Int) * w5) + x2)) ∧ (0 ≤ (((12 : Int) * w5) + x2) ∧ (((12 : Int) * w5) + x2) < 144) ∧ (inR (r11 + (M 80 (((12 : Int) * w5) + x2).toNat))) ∧ (inR ((12 : Int) * x1)) ∧ (inR (((12 : Int) * x1) + x2)) ∧ (0 ≤ (((12 : Int) * x1) + x2) ∧ (((12 : Int) * x1) + x2) < 144) ∧ (¬ ¬ (r11 + (M 80 (((12 : Int) * w5) + x2).toNat)) = (M 80 (((12 : Int) * x1) + x2).toNat)) ∧ True) rfl ⟨h18, h19, h20, h21, h22, h23, h24, fun h9 => h9 hc, trivial⟩ ?_
              refine jn_elim h (fun (K14 : Int → Int → Option (Int)) => ∀ (v12 : Int), ∀ (w13 : Int), OK (K14 v12 w13) (fun r2 => Q (some r2) M) → Aw z 125 [some (.inr 71), some (.inl x1), some (.inl x2), none, some (.inl v12), none] [.inl w13] M) (fun v12 w13 h => ?_) (fun K14 hK14 h => ?_)
              · refine a_run (md qX5_onward_ok) hz 1 [] (pc' := 126) (lv' := [some (.inr 71), some (.inl x1), some (.inl x2), some (.inl w13), some (.inl v12), none]) (st' := []) (M' := M) (P := True) rfl trivial ?_
                refine a_mask [true, true, true, true, true, false] ?_
                exact hK9 w13 v12 h
              · refine jn_elim h (fun (K17 : Int → Int → Option (Int)) => ∀ (v15 : Int), ∀ (v16 : Int), OK (K17 v15 v16) (fun r2 => Q (some r2) M) → Aw z 119 [some (.inr 71), some (.inl x1), some (.inl x2), none, some (.inl v15), some (.inl v16)] [] M) (fun v15 v16 h => ?_) (fun K17 hK17 h => ?_)
                · refine a_run (md qX5_onward_ok) hz 2 [] (pc' := 125) (lv' := [some (.inr 71), some (.inl x1), some (.inl x2), none, some (.inl v15), some (.inl v16)]) (st' := [.inl v16]) (M' := M) (P := True) rfl trivial ?_
                  refine a_mask [true, true, true, false, true, false] ?_
                  exact hK14 v15 v16 h
                · refine ite_elim h (fun hc h => ?_) (fun hc h => ?_)
                  · refine a_run (md qX5_onward_ok) hz 2 [1] (pc' := 119) (lv' := [some (.inr 71), some (.inl x1), some (.inl x2), some (.inl v3), some (.inl v4), some (.inl w5)]) (st' := []) (M' := M) (P := (v3 < 0) ∧ True) rfl ⟨hc, trivial⟩ ?_
                    refine a_mask [true, true, true, false, true, true] ?_
                    exact hK17 v4 w5 h
                  · refine a_run (md qX5_onward_ok) hz 2 [0] (pc' := 113) (lv' := [some (.inr 71), some (.inl x1), some (.inl x2), some (.inl v3), some (.inl v4), some (.inl w5)]) (st' := []) (M' := M) (P := (¬ (v3 < 0)) ∧ True) rfl ⟨hc, trivial⟩ ?_
                    refine ite_elim h (fun hc h => ?_) (fun hc h => ?_)
                    · refine a_run (md qX5_onward_ok) hz 3 [1] (pc' := 124) (lv' := [some (.inr 71), some (.inl x1), some (.inl x2), some (.inl v3), some (.inl v4), some (.inl w5)]) (st' := []) (M' := M) (P := (v3 ≤ w5) ∧ True) rfl ⟨hc, trivial⟩ ?_
                      refine a_run (md qX5_onward_ok) hz 1 [] (pc' := 125) (lv' := [some (.inr 71), some (.inl x1), some (.inl x2), some (.inl v3), some (.inl v4), some (.inl w5)]) (st' := [.inl v3]) (M' := M) (P := True) rfl trivial ?_
                      refine a_mask [true, true, true, false, true, false] ?_
                      exact hK14 v4 v3 h
                    · refine a_run (md qX5_onward_ok) hz 3 [0] (pc' := 119) (lv' := [some (.inr 71), some (.inl x1), some (.inl x2), some (.inl v3), some (.inl v4), some (.inl w5)]) (st' := []) (M' := M) (P := (¬ (v3 ≤ w5)) ∧ True) rfl ⟨hc, trivial⟩ ?_
                      refine a_mask [true, true, true, false, true, true] ?_
                      exact hK17 v4 w5 h
            · refine a_run (md qX5_onward_ok) hz 18 [1] (pc' := 126) (lv' := [some (.inr 71), some (.inl x1), some (.inl x2), some (.inl v3), some (.inl v4), some (.inl w5)]) (st' := []) (M' := M) (P := (inR ((12 : Int) * w5)) ∧ (inR (((12 : Int) * w5) + x2)) ∧ (0 ≤ (((12 : Int) * w5) + x2) ∧ (((12 : Int) * w5) + x2) < 144) ∧ (inR (r11 + (M 80 (((12 : Int) * w5) + x2).toNat))) ∧ (inR ((12 : Int) * x1)) ∧ (inR (((12 : Int) * x1) + x2)) ∧ (0 ≤ (((12 : Int) * x1) + x2) ∧ (((12 : Int) * x1) + x2) < 144) ∧ (¬ (r11 + (M 80 (((12 : Int) * w5) + x2).toNat)) = (M 80 (((12 : Int) * x1) + x2).toNat)) ∧ True) rfl ⟨h18, h19, h20, h21, h22, h23, h24, hc, trivial⟩ ?_
              refine a_mask [true, true, true, true, true, false] ?_
              exact hK9 v3 v4 h
      · obtain ⟨h32, h⟩ := gd_elim h
        refine ite_elim h (fun hc h => ?_) (fun hc h => ?_)
        · refine a_run (md qX5_onward_ok) hz 6 [0] (pc' := 26) (lv' := [some (.inr 71), some (.inl x1), some (.inl x2), some (.inl v1), some (.inl v2), none]) (st' := []) (M' := M) (P := (0 ≤ v2 ∧ v2 < 20) ∧ (¬ ¬ (M 74 v2.toNat) = x1) ∧ True) rfl ⟨h32, fun h9 => h9 hc, trivial⟩ ?_
          obtain ⟨h31, h⟩ := gd_elim h
          refine a_run (md qX5_onward_ok) hz 5 [] (pc' := 69) (lv' := [some (.inr 71), some (.inl x1), some (.inl x2), some (.inl v1), some (.inl v2), none]) (st' := [.inl (M 75 v2.toNat)]) (M' := M) (P := (0 ≤ v2 ∧ v2 < 20) ∧ True) rfl ⟨h31, trivial⟩ ?_
          refine a_mask [true, true, true, true, true, false] ?_
          exact hK6 v1 v2 (M 75 v2.toNat) h
        · refine a_run (md qX5_onward_ok) hz 6 [1] (pc' := 36) (lv' := [some (.inr 71), some (.inl x1), some (.inl x2), some (.inl v1), some (.inl v2), none]) (st' := []) (M' := M) (P := (0 ≤ v2 ∧ v2 < 20) ∧ (¬ (M 74 v2.toNat) = x1) ∧ True) rfl ⟨h32, hc, trivial⟩ ?_
          refine jn_elim h (fun (K27 : Int → Int → Option (Int)) => ∀ (v25 : Int), ∀ (v26 : Int), OK (K27 v25 v26) (fun r2 => Q (some r2) M) → Aw z 67 [some (.inr 71), some (.inl x1), some (.inl x2), some (.inl v25), some (.inl v26), none] [] M) (fun v25 v26 h => ?_) (fun K27 hK27 h => ?_)
          · refine a_run (md qX5_onward_ok) hz 1 [] (pc' := 69) (lv' := [some (.inr 71), some (.inl x1), some (.inl x2), some (.inl v25), some (.inl v26), none]) (st' := [.inl (-6 : Int)]) (M' := M) (P := True) rfl trivial ?_
            refine a_mask [true, true, true, true, true, false] ?_
            exact hK6 v25 v26 (-6 : Int) h
          · obtain ⟨h30, h⟩ := gd_elim h
            refine ite_elim h (fun hc h => ?_) (fun hc h => ?_)
            · refine a_run (md qX5_onward_ok) hz 6 [0] (pc' := 47) (lv' := [some (.inr 71), some (.inl x1), some (.inl x2), some (.inl v1), some (.inl v2), none]) (st' := []) (M' := M) (P := (0 ≤ v2 ∧ v2 < 20) ∧ (¬ ¬ (M 75 v2.toNat) = x1) ∧ True) rfl ⟨h30, fun h9 => h9 hc, trivial⟩ ?_
              obtain ⟨h29, h⟩ := gd_elim h
              refine ite_elim h (fun hc h => ?_) (fun hc h => ?_)
              · refine a_run (md qX5_onward_ok) hz 5 [0] (pc' := 57) (lv' := [some (.inr 71), some (.inl x1), some (.inl x2), some (.inl v1), some (.inl v2), none]) (st' := []) (M' := M) (P := (0 ≤ v2 ∧ v2 < 20) ∧ (¬ ¬ (M 76 v2.toNat) = 0) ∧ True) rfl ⟨h29, fun h9 => h9 hc, trivial⟩ ?_
                obtain ⟨h28, h⟩ := gd_elim h
                refine a_run (md qX5_onward_ok) hz 5 [] (pc' := 69) (lv' := [some (.inr 71), some (.inl x1), some (.inl x2), some (.inl v1), some (.inl v2), none]) (st' := [.inl (M 74 v2.toNat)]) (M' := M) (P := (0 ≤ v2 ∧ v2 < 20) ∧ True) rfl ⟨h28, trivial⟩ ?_
                refine a_mask [true, true, true, true, true, false] ?_
                exact hK6 v1 v2 (M 74 v2.toNat) h
              · refine a_run (md qX5_onward_ok) hz 5 [1] (pc' := 67) (lv' := [some (.inr 71), some (.inl x1), some (.inl x2), some (.inl v1), some (.inl v2), none]) (st' := []) (M' := M) (P := (0 ≤ v2 ∧ v2 < 20) ∧ (¬ (M 76 v2.toNat) = 0) ∧ True) rfl ⟨h29, hc, trivial⟩ ?_
                refine a_mask [true, true, true, true, true, false] ?_
                exact hK27 v1 v2 h
            · refine a_run (md qX5_onward_ok) hz 6 [1] (pc' := 67) (lv' := [some (.inr 71), some (.inl x1), some (.inl x2), some (.inl v1), some (.inl v2), none]) (st' := []) (M' := M) (P := (0 ≤ v2 ∧ v2 < 20) ∧ (¬ (M 75 v2.toNat) = x1) ∧ True) rfl ⟨h30, hc, trivial⟩ ?_
              refine a_mask [true, true, true, true, true, false] ?_
              exact hK27 v1 v2 h
set_option maxRecDepth 100000 in
theorem mX5_onward (g : Gx) {M : Mm} {x1 : Int} {x2 : Int} {r : Int} (h : fX5_onward M x1 x2 = some r) : Ct g qX5_onward [.inr 71, .inl x1, .inl x2] M (fun r' M' => r' = some r ∧ M' = M) := by
  refine c_ofP h qX5_onward_ok (Nat.le_of_ble_eq_true rfl) (fun z hz Q hR h => ?_)
  unfold fX5_onward at h
  show Aw z 0 [some (.inr 71), some (.inl x1), some (.inl x2), none, none, none] [] M
  refine a_run (md qX5_onward_ok) hz 4 [] (pc' := 6) (lv' := [some (.inr 71), some (.inl x1), some (.inl x2), some (.inl (-6 : Int)), some (.inl (0 : Int)), none]) (st' := []) (M' := M) (P := True) rfl trivial ?_
  refine a_mask [true, true, true, true, true, false] ?_
  refine mX5_onward_L6 hz hR  1000 (-6 : Int) (0 : Int) h
def fX5_through_L155 (x1 : Int) (x2 : Int) : Nat → Int → Int → Int → Mm → Option (Int × Mm)
  | 0, _, _, _, _ => none
  | n + 1, v16, v17, v18, M19 => if x2 ≤ v18 then some (v16, M19) else if v16 = v17 then some ((-6 : Int), M19) else cal (fX5_onward M19 v16 v17) (fun (r20 : Int) => gd ((inR (v18 + (1 : Int)))) (fX5_through_L155 x1 x2 n r20 v17 (v18 + (1 : Int)) M19))
def fX5_through (M : Mm) (x1 : Int) (x2 : Int) : Option (Int × Mm) := cal (fX5_isFix M x1) (fun (r1 : Int) => if r1 = 0 then some ((-1 : Int), M) else cal (fX5_layAll M) (fun (M2 : Mm) => cal (fX5_stepOf M2 x1) (fun (r3 : Int) => if 0 ≤ r3 then gd ((0 ≤ x1 ∧ x1 < 16) ∧ (inR ((20 : Int) * (M2 87 x1.toNat))) ∧ (0 ≤ x1 ∧ x1 < 16) ∧ (0 ≤ (M2 87 x1.toNat) ∧ (M2 87 x1.toNat) < 16) ∧ (inR (((20 : Int) * (M2 87 x1.toNat)) + (M2 88 (M2 87 x1.toNat).toNat))) ∧ (0 ≤ (((20 : Int) * (M2 87 x1.toNat)) + (M2 88 (M2 87 x1.toNat).toNat)) ∧ (((20 : Int) * (M2 87 x1.toNat)) + (M2 88 (M2 87 x1.toNat).toNat)) < 320)) (bnd (M2 81 (((20 : Int) * (M2 87 x1.toNat)) + (M2 88 (M2 87 x1.toNat).toNat)).toNat) (fun (t4 : Int) => gd ((inR ((20 : Int) * x1)) ∧ (0 ≤ x1 ∧ x1 < 16) ∧ (inR (((20 : Int) * x1) + (M2 88 x1.toNat))) ∧ (0 ≤ (((20 : Int) * x1) + (M2 88 x1.toNat)) ∧ (((20 : Int) * x1) + (M2 88 x1.toNat)) < 320)) (bnd (M2 81 (((20 : Int) * x1) + (M2 88 x1.toNat)).toNat) (fun (t5 : Int) => cal (fX5_leastOut M2 t4 t5) (fun (r6 : Int) => if r6 = 0 then some ((-6 : Int), M2) else if 0 ≤ x2 then jn (fun (v7 : Int) (v8 : Int) (w9 : Int) (M10 : Mm) => jn (fun (v12 : Int) (w13 : Int) (M14 : Mm) => fX5_through_L155 x1 x2 1000 v12 w13 (0 : Int) M14) (fun (K15 : Int → Int → Mm → Option (Int × Mm)) => if (v8.tmod (2 : Int)) = 0 then gd ((0 ≤ (v7.tdiv (100 : Int)) ∧ (v7.tdiv (100 : Int)) < 20)) (K15 w9 (M10 75 (v7.tdiv (100 : Int)).toNat) M10) else gd ((0 ≤ (v7.tdiv (100 : Int)) ∧ (v7.tdiv (100 : Int)) < 20)) (K15 w9 (M10 74 (v7.tdiv (100 : Int)).toNat) M10))) (fun (K11 : Int → Int → Int → Mm → Option (Int × Mm)) => if (3 : Int) ≤ r6 then gd ((0 ≤ (t4.tdiv (100 : Int)) ∧ (t4.tdiv (100 : Int)) < 20)) (K11 t5 r6 (M2 75 (t4.tdiv (100 : Int)).toNat) M2) else gd ((0 ≤ (t4.tdiv (100 : Int)) ∧ (t4.tdiv (100 : Int)) < 20)) (K11 t5 r6 (M2 74 (t4.tdiv (100 : Int)).toNat) M2)) else some ((-6 : Int), M2)))))) else some ((-6 : Int), M2))))
set_option maxRecDepth 100000 in
theorem mX5_through_L155 {z : Zx} (hz : Cx qX5_through z) {Q : Option Int → Mm → Prop} (hR : Rt Q z) {x1 : Int} {x2 : Int} : ∀ (n : Nat) (v16 : Int) (v17 : Int) (v18 : Int) (M19 : Mm), OK (fX5_through_L155 x1 x2 n v16 v17 v18 M19) (fun r2 => Q (some r2.1) r2.2) → Aw z 155 [some (.inr 71), none, some (.inl x2), none, none, none, some (.inl v16), some (.inl v17), some (.inl v18)] [] M19 := by
  intro n
  induction n with
  | zero =>
    intro v16 v17 v18 M19 h
    exact (show False from h).elim
  | succ n ih =>
    intro v16 v17 v18 M19 h
    unfold fX5_through_L155 at h
    refine ite_elim h (fun hc h => ?_) (fun hc h => ?_)
    · refine a_run (md qX5_through_ok) hz 3 [1] (pc' := 187) (lv' := [some (.inr 71), none, some (.inl x2), none, none, none, some (.inl v16), some (.inl v17), some (.inl v18)]) (st' := []) (M' := M19) (P := (x2 ≤ v18) ∧ True) rfl ⟨hc, trivial⟩ ?_
      refine a_run (md qX5_through_ok) hz 1 [] (pc' := 189) (lv' := [some (.inr 71), none, some (.inl x2), none, none, none, some (.inl v16), some (.inl v17), some (.inl v18)]) (st' := [.inl v16]) (M' := M19) (P := True) rfl trivial ?_
      exact a_ri (md qX5_through_ok) hz hR rfl (Or.inl rfl) h
    · refine a_run (md qX5_through_ok) hz 3 [0] (pc' := 161) (lv' := [some (.inr 71), none, some (.inl x2), none, none, none, some (.inl v16), some (.inl v17), some (.inl v18)]) (st' := []) (M' := M19) (P := (¬ (x2 ≤ v18)) ∧ True) rfl ⟨hc, trivial⟩ ?_
      refine ite_elim h (fun hc h => ?_) (fun hc h => ?_)
      · refine a_run (md qX5_through_ok) hz 3 [0] (pc' := 168) (lv' := [some (.inr 71), none, some (.inl x2), none, none, none, some (.inl v16), some (.inl v17), some (.inl v18)]) (st' := []) (M' := M19) (P := (¬ ¬ v16 = v17) ∧ True) rfl ⟨fun h9 => h9 hc, trivial⟩ ?_
        refine a_run (md qX5_through_ok) hz 1 [] (pc' := 170) (lv' := [some (.inr 71), none, some (.inl x2), none, none, none, some (.inl v16), some (.inl v17), some (.inl v18)]) (st' := [.inl (-6 : Int)]) (M' := M19) (P := True) rfl trivial ?_
        exact a_ri (md qX5_through_ok) hz hR rfl (Or.inl rfl) h
      · refine a_run (md qX5_through_ok) hz 3 [1] (pc' := 171) (lv' := [some (.inr 71), none, some (.inl x2), none, none, none, some (.inl v16), some (.inl v17), some (.inl v18)]) (st' := []) (M' := M19) (P := (¬ v16 = v17) ∧ True) rfl ⟨hc, trivial⟩ ?_
        refine a_run (md qX5_through_ok) hz 3 [] (pc' := 176) (lv' := [some (.inr 71), none, some (.inl x2), none, none, none, some (.inl v16), some (.inl v17), some (.inl v18)]) (st' := [.inl v17, .inl v16, .inr 71]) (M' := M19) (P := True) rfl trivial ?_
        obtain ⟨r20, hr, h⟩ := cal_elim h
        refine a_fV (as := [.inl v16, .inl v17]) (a := 71) (st := []) (mX5_onward z.1 hr) (md qX5_through_ok) qX5_onward_ok hz lkX5_162 rfl 2 0 (by decide +kernel) rfl rfl rfl rfl ?_
        show Aw z 179 [some (.inr 71), none, some (.inl x2), none, none, none, some (.inl v16), some (.inl v17), some (.inl v18)] [.inl r20] M19
        obtain ⟨h21, h⟩ := gd_elim h
        refine a_run (md qX5_through_ok) hz 3 [] (pc' := 155) (lv' := [some (.inr 71), none, some (.inl x2), none, none, none, some (.inl r20), some (.inl v17), some (.inl (v18 + (1 : Int)))]) (st' := []) (M' := M19) (P := (inR (v18 + (1 : Int))) ∧ True) rfl ⟨h21, trivial⟩ ?_
        refine a_mask [true, false, true, false, false, false, true, true, true] ?_
        exact ih r20 v17 (v18 + (1 : Int)) M19 h
set_option maxRecDepth 100000 in
theorem mX5_through (g : Gx) {M : Mm} {x1 : Int} {x2 : Int} {r : Int} {M2 : Mm} (h : fX5_through M x1 x2 = some (r, M2)) : Ct g qX5_through [.inr 71, .inl x1, .inl x2] M (fun r' M' => r' = some r ∧ M' = M2) := by
  refine c_ofI h qX5_through_ok (Nat.le_of_ble_eq_true rfl) (fun z hz Q hR h => ?_)
  unfold fX5_through at h
  show Aw z 0 [some (.inr 71), some (.inl x1), some (.inl x2), none, none, none, none, none, none] [] M
  refine a_run (md qX5_through_ok) hz 2 [] (pc' := 2) (lv' := [some (.inr 71), some (.inl x1), some (.inl x2), none, none, none, none, none, none]) (st' := [.inl x1, .inr 71]) (M' := M) (P := True) rfl trivial ?_
  obtain ⟨r1, hr, h⟩ := cal_elim h
  refine a_fV (as := [.inl x1]) (a := 71) (st := []) (mX5_isFix z.1 hr) (md qX5_through_ok) qX5_isFix_ok hz lkX5_147 rfl 1 0 (by decide +kernel) rfl rfl rfl rfl ?_
  show Aw z 5 [some (.inr 71), some (.inl x1), some (.inl x2), none, none, none, none, none, none] [.inl r1] M
  refine ite_elim h (fun hc h => ?_) (fun hc h => ?_)
  · refine a_run (md qX5_through_ok) hz 1 [0] (pc' := 8) (lv' := [some (.inr 71), some (.inl x1), some (.inl x2), none, none, none, none, none, none]) (st' := []) (M' := M) (P := (¬ ¬ r1 = 0) ∧ True) rfl ⟨fun h9 => h9 hc, trivial⟩ ?_
    refine a_run (md qX5_through_ok) hz 1 [] (pc' := 9) (lv' := [some (.inr 71), some (.inl x1), some (.inl x2), none, none, none, none, none, none]) (st' := [.inl (-1 : Int)]) (M' := M) (P := True) rfl trivial ?_
    exact a_ri (md qX5_through_ok) hz hR rfl (Or.inl rfl) h
  · refine a_run (md qX5_through_ok) hz 1 [1] (pc' := 10) (lv' := [some (.inr 71), some (.inl x1), some (.inl x2), none, none, none, none, none, none]) (st' := []) (M' := M) (P := (¬ r1 = 0) ∧ True) rfl ⟨hc, trivial⟩ ?_
    refine a_run (md qX5_through_ok) hz 1 [] (pc' := 11) (lv' := [some (.inr 71), some (.inl x1), some (.inl x2), none, none, none, none, none, none]) (st' := [.inr 71]) (M' := M) (P := True) rfl trivial ?_
    obtain ⟨M2, hr, h⟩ := cal_elim h
    refine a_fV (as := []) (a := 71) (st := []) (mX5_layAll z.1 hr) (md qX5_through_ok) qX5_layAll_ok hz lkX5_150 rfl 0 0 (by decide +kernel) rfl rfl rfl rfl ?_
    show Aw z 14 [some (.inr 71), some (.inl x1), some (.inl x2), none, none, none, none, none, none] [] M2
    refine a_run (md qX5_through_ok) hz 2 [] (pc' := 16) (lv' := [some (.inr 71), some (.inl x1), some (.inl x2), none, none, none, none, none, none]) (st' := [.inl x1, .inr 71]) (M' := M2) (P := True) rfl trivial ?_
    obtain ⟨r3, hr, h⟩ := cal_elim h
    refine a_fV (as := [.inl x1]) (a := 71) (st := []) (mX5_stepOf z.1 hr) (md qX5_through_ok) qX5_stepOf_ok hz lkX5_159 rfl 1 0 (by decide +kernel) rfl rfl rfl rfl ?_
    show Aw z 19 [some (.inr 71), some (.inl x1), some (.inl x2), none, none, none, none, none, none] [.inl r3] M2
    refine ite_elim h (fun hc h => ?_) (fun hc h => ?_)
    · refine a_run (md qX5_through_ok) hz 1 [1] (pc' := 25) (lv' := [some (.inr 71), some (.inl x1), some (.inl x2), none, none, none, none, none, none]) (st' := []) (M' := M2) (P := (0 ≤ r3) ∧ True) rfl ⟨hc, trivial⟩ ?_
      obtain ⟨⟨h30, h31, h32, h33, h34, h35⟩, h⟩ := gd_elim h
      refine a_run (md qX5_through_ok) hz 18 [] (pc' := 52) (lv' := [some (.inr 71), some (.inl x1), some (.inl x2), some (.inl (M2 81 (((20 : Int) * (M2 87 x1.toNat)) + (M2 88 (M2 87 x1.toNat).toNat)).toNat)), none, none, none, none, none]) (st' := []) (M' := M2) (P := (0 ≤ x1 ∧ x1 < 16) ∧ (inR ((20 : Int) * (M2 87 x1.toNat))) ∧ (0 ≤ x1 ∧ x1 < 16) ∧ (0 ≤ (M2 87 x1.toNat) ∧ (M2 87 x1.toNat) < 16) ∧ (inR (((20 : Int) * (M2 87 x1.toNat)) + (M2 88 (M2 87 x1.toNat).toNat))) ∧ (0 ≤ (((20 : Int) * (M2 87 x1.toNat)) + (M2 88 (M2 87 x1.toNat).toNat)) ∧ (((20 : Int) * (M2 87 x1.toNat)) + (M2 88 (M2 87 x1.toNat).toNat)) < 320) ∧ True) rfl ⟨h30, h31, h32, h33, h34, h35, trivial⟩ ?_
      refine bnd_elim (G := fun (t4 : Int) => Aw z 52 [some (.inr 71), some (.inl x1), some (.inl x2), some (.inl t4), none, none, none, none, none] [] M2) h (fun t4 h => ?_)
      obtain ⟨⟨h26, h27, h28, h29⟩, h⟩ := gd_elim h
      refine a_run (md qX5_through_ok) hz 12 [] (pc' := 70) (lv' := [some (.inr 71), some (.inl x1), some (.inl x2), some (.inl t4), some (.inl (M2 81 (((20 : Int) * x1) + (M2 88 x1.toNat)).toNat)), none, none, none, none]) (st' := []) (M' := M2) (P := (inR ((20 : Int) * x1)) ∧ (0 ≤ x1 ∧ x1 < 16) ∧ (inR (((20 : Int) * x1) + (M2 88 x1.toNat))) ∧ (0 ≤ (((20 : Int) * x1) + (M2 88 x1.toNat)) ∧ (((20 : Int) * x1) + (M2 88 x1.toNat)) < 320) ∧ True) rfl ⟨h26, h27, h28, h29, trivial⟩ ?_
      refine bnd_elim (G := fun (t5 : Int) => Aw z 70 [some (.inr 71), some (.inl x1), some (.inl x2), some (.inl t4), some (.inl t5), none, none, none, none] [] M2) h (fun t5 h => ?_)
      refine a_run (md qX5_through_ok) hz 3 [] (pc' := 74) (lv' := [some (.inr 71), some (.inl x1), some (.inl x2), some (.inl t4), some (.inl t5), none, none, none, none]) (st' := [.inl t5, .inl t4, .inr 71]) (M' := M2) (P := True) rfl trivial ?_
      obtain ⟨r6, hr, h⟩ := cal_elim h
      refine a_fV (as := [.inl t4, .inl t5]) (a := 71) (st := []) (mX5_leastOut z.1 hr) (md qX5_through_ok) qX5_leastOut_ok hz lkX5_115 rfl 2 0 (by decide +kernel) rfl rfl rfl rfl ?_
      show Aw z 77 [some (.inr 71), some (.inl x1), some (.inl x2), some (.inl t4), some (.inl t5), none, none, none, none] [.inl r6] M2
      refine ite_elim h (fun hc h => ?_) (fun hc h => ?_)
      · refine a_run (md qX5_through_ok) hz 3 [1] (pc' := 88) (lv' := [some (.inr 71), some (.inl x1), some (.inl x2), some (.inl t4), some (.inl t5), some (.inl r6), none, none, none]) (st' := []) (M' := M2) (P := (r6 = 0) ∧ True) rfl ⟨hc, trivial⟩ ?_
        refine a_run (md qX5_through_ok) hz 1 [] (pc' := 90) (lv' := [some (.inr 71), some (.inl x1), some (.inl x2), some (.inl t4), some (.inl t5), some (.inl r6), none, none, none]) (st' := [.inl (-6 : Int)]) (M' := M2) (P := True) rfl trivial ?_
        exact a_ri (md qX5_through_ok) hz hR rfl (Or.inl rfl) h
      · refine a_run (md qX5_through_ok) hz 3 [0] (pc' := 84) (lv' := [some (.inr 71), some (.inl x1), some (.inl x2), some (.inl t4), some (.inl t5), some (.inl r6), none, none, none]) (st' := []) (M' := M2) (P := (¬ (r6 = 0)) ∧ True) rfl ⟨hc, trivial⟩ ?_
        refine ite_elim h (fun hc h => ?_) (fun hc h => ?_)
        · refine a_run (md qX5_through_ok) hz 2 [1] (pc' := 91) (lv' := [some (.inr 71), some (.inl x1), some (.inl x2), some (.inl t4), some (.inl t5), some (.inl r6), none, none, none]) (st' := []) (M' := M2) (P := (0 ≤ x2) ∧ True) rfl ⟨hc, trivial⟩ ?_
          refine jn_elim h (fun (K11 : Int → Int → Int → Mm → Option (Int × Mm)) => ∀ (v7 : Int), ∀ (v8 : Int), ∀ (w9 : Int), ∀ (M10 : Mm), OK (K11 v7 v8 w9 M10) (fun r2 => Q (some r2.1) r2.2) → Aw z 118 [some (.inr 71), none, some (.inl x2), none, some (.inl v7), some (.inl v8), none, none, none] [.inl w9] M10) (fun v7 v8 w9 M10 h => ?_) (fun K11 hK11 h => ?_)
          · refine jn_elim h (fun (K15 : Int → Int → Mm → Option (Int × Mm)) => ∀ (v12 : Int), ∀ (w13 : Int), ∀ (M14 : Mm), OK (K15 v12 w13 M14) (fun r2 => Q (some r2.1) r2.2) → Aw z 150 [some (.inr 71), none, some (.inl x2), none, none, none, some (.inl v12), none, none] [.inl w13] M14) (fun v12 w13 M14 h => ?_) (fun K15 hK15 h => ?_)
            · refine a_run (md qX5_through_ok) hz 3 [] (pc' := 155) (lv' := [some (.inr 71), none, some (.inl x2), none, none, none, some (.inl v12), some (.inl w13), some (.inl (0 : Int))]) (st' := []) (M' := M14) (P := True) rfl trivial ?_
              refine a_mask [true, false, true, false, false, false, true, true, true] ?_
              refine mX5_through_L155 hz hR  1000 v12 w13 (0 : Int) M14 h
            · refine ite_elim h (fun hc h => ?_) (fun hc h => ?_)
              · refine a_run (md qX5_through_ok) hz 5 [0] (pc' := 127) (lv' := [some (.inr 71), none, some (.inl x2), none, some (.inl v7), some (.inl v8), some (.inl w9), none, none]) (st' := []) (M' := M10) (P := (¬ (2 : Int) = 0 ∧ ¬ (2 : Int) = -1) ∧ (¬ ¬ (v8.tmod (2 : Int)) = 0) ∧ True) rfl ⟨by decide, fun h9 => h9 hc, trivial⟩ ?_
                obtain ⟨h23, h⟩ := gd_elim h
                refine a_run (md qX5_through_ok) hz 7 [] (pc' := 150) (lv' := [some (.inr 71), none, some (.inl x2), none, some (.inl v7), some (.inl v8), some (.inl w9), none, none]) (st' := [.inl (M10 75 (v7.tdiv (100 : Int)).toNat)]) (M' := M10) (P := (¬ (100 : Int) = 0 ∧ ¬ (100 : Int) = -1) ∧ (0 ≤ (v7.tdiv (100 : Int)) ∧ (v7.tdiv (100 : Int)) < 20) ∧ True) rfl ⟨by decide, h23, trivial⟩ ?_
                refine a_mask [true, false, true, false, false, false, true, false, false] ?_
                exact hK15 w9 (M10 75 (v7.tdiv (100 : Int)).toNat) M10 h
              · refine a_run (md qX5_through_ok) hz 5 [1] (pc' := 140) (lv' := [some (.inr 71), none, some (.inl x2), none, some (.inl v7), some (.inl v8), some (.inl w9), none, none]) (st' := []) (M' := M10) (P := (¬ (2 : Int) = 0 ∧ ¬ (2 : Int) = -1) ∧ (¬ (v8.tmod (2 : Int)) = 0) ∧ True) rfl ⟨by decide, hc, trivial⟩ ?_
                obtain ⟨h22, h⟩ := gd_elim h
                refine a_run (md qX5_through_ok) hz 6 [] (pc' := 150) (lv' := [some (.inr 71), none, some (.inl x2), none, some (.inl v7), some (.inl v8), some (.inl w9), none, none]) (st' := [.inl (M10 74 (v7.tdiv (100 : Int)).toNat)]) (M' := M10) (P := (¬ (100 : Int) = 0 ∧ ¬ (100 : Int) = -1) ∧ (0 ≤ (v7.tdiv (100 : Int)) ∧ (v7.tdiv (100 : Int)) < 20) ∧ True) rfl ⟨by decide, h22, trivial⟩ ?_
                refine a_mask [true, false, true, false, false, false, true, false, false] ?_
                exact hK15 w9 (M10 74 (v7.tdiv (100 : Int)).toNat) M10 h
          · refine ite_elim h (fun hc h => ?_) (fun hc h => ?_)
            · refine a_run (md qX5_through_ok) hz 3 [1] (pc' := 109) (lv' := [some (.inr 71), some (.inl x1), some (.inl x2), some (.inl t4), some (.inl t5), some (.inl r6), none, none, none]) (st' := []) (M' := M2) (P := ((3 : Int) ≤ r6) ∧ True) rfl ⟨hc, trivial⟩ ?_
              obtain ⟨h24, h⟩ := gd_elim h
              refine a_run (md qX5_through_ok) hz 6 [] (pc' := 118) (lv' := [some (.inr 71), some (.inl x1), some (.inl x2), some (.inl t4), some (.inl t5), some (.inl r6), none, none, none]) (st' := [.inl (M2 75 (t4.tdiv (100 : Int)).toNat)]) (M' := M2) (P := (¬ (100 : Int) = 0 ∧ ¬ (100 : Int) = -1) ∧ (0 ≤ (t4.tdiv (100 : Int)) ∧ (t4.tdiv (100 : Int)) < 20) ∧ True) rfl ⟨by decide, h24, trivial⟩ ?_
              refine a_mask [true, false, true, false, true, true, false, false, false] ?_
              exact hK11 t5 r6 (M2 75 (t4.tdiv (100 : Int)).toNat) M2 h
            · refine a_run (md qX5_through_ok) hz 3 [0] (pc' := 97) (lv' := [some (.inr 71), some (.inl x1), some (.inl x2), some (.inl t4), some (.inl t5), some (.inl r6), none, none, none]) (st' := []) (M' := M2) (P := (¬ ((3 : Int) ≤ r6)) ∧ True) rfl ⟨hc, trivial⟩ ?_
              obtain ⟨h25, h⟩ := gd_elim h
              refine a_run (md qX5_through_ok) hz 7 [] (pc' := 118) (lv' := [some (.inr 71), some (.inl x1), some (.inl x2), some (.inl t4), some (.inl t5), some (.inl r6), none, none, none]) (st' := [.inl (M2 74 (t4.tdiv (100 : Int)).toNat)]) (M' := M2) (P := (¬ (100 : Int) = 0 ∧ ¬ (100 : Int) = -1) ∧ (0 ≤ (t4.tdiv (100 : Int)) ∧ (t4.tdiv (100 : Int)) < 20) ∧ True) rfl ⟨by decide, h25, trivial⟩ ?_
              refine a_mask [true, false, true, false, true, true, false, false, false] ?_
              exact hK11 t5 r6 (M2 74 (t4.tdiv (100 : Int)).toNat) M2 h
        · refine a_run (md qX5_through_ok) hz 2 [0] (pc' := 88) (lv' := [some (.inr 71), some (.inl x1), some (.inl x2), some (.inl t4), some (.inl t5), some (.inl r6), none, none, none]) (st' := []) (M' := M2) (P := (¬ (0 ≤ x2)) ∧ True) rfl ⟨hc, trivial⟩ ?_
          refine a_run (md qX5_through_ok) hz 1 [] (pc' := 90) (lv' := [some (.inr 71), some (.inl x1), some (.inl x2), some (.inl t4), some (.inl t5), some (.inl r6), none, none, none]) (st' := [.inl (-6 : Int)]) (M' := M2) (P := True) rfl trivial ?_
          exact a_ri (md qX5_through_ok) hz hR rfl (Or.inl rfl) h
    · refine a_run (md qX5_through_ok) hz 1 [0] (pc' := 22) (lv' := [some (.inr 71), some (.inl x1), some (.inl x2), none, none, none, none, none, none]) (st' := []) (M' := M2) (P := (¬ (0 ≤ r3)) ∧ True) rfl ⟨hc, trivial⟩ ?_
      refine a_run (md qX5_through_ok) hz 1 [] (pc' := 24) (lv' := [some (.inr 71), some (.inl x1), some (.inl x2), none, none, none, none, none, none]) (st' := [.inl (-6 : Int)]) (M' := M2) (P := True) rfl trivial ?_
      exact a_ri (md qX5_through_ok) hz hR rfl (Or.inl rfl) h
def fX5_total_L20 (x1 : Int) : Nat → Int → Int → Mm → Option (Int × Mm)
  | 0, _, _, _ => none
  | n + 1, v3, v4, M5 => if (M5 71 10) ≤ v4 then some (v3, M5) else jn (fun (v6 : Int) (v7 : Int) (M8 : Mm) => gd ((inR (v7 + (1 : Int)))) (fX5_total_L20 x1 n v6 (v7 + (1 : Int)) M8)) (fun (K9 : Int → Int → Mm → Option (Int × Mm)) => if x1 = 0 then jn (fun (v11 : Int) (w12 : Int) (w13 : Int) (M14 : Mm) => gd ((inR (w13 + w12))) (K9 (w13 + w12) v11 M14)) (fun (K15 : Int → Int → Int → Mm → Option (Int × Mm)) => jn (fun (v17 : Int) (w18 : Int) (M19 : Mm) => K15 v17 (0 : Int) w18 M19) (fun (K20 : Int → Int → Mm → Option (Int × Mm)) => gd ((0 ≤ v4 ∧ v4 < 16)) (if (M5 86 v4.toNat) < 0 then K20 v4 v3 M5 else cal (fX5_next M5 v4) (fun (r21 : Int) => if 0 ≤ r21 then K20 v4 v3 M5 else gd ((inR ((20 : Int) * v4)) ∧ (0 ≤ v4 ∧ v4 < 16) ∧ (inR (((20 : Int) * v4) + (M5 88 v4.toNat))) ∧ (0 ≤ (((20 : Int) * v4) + (M5 88 v4.toNat)) ∧ (((20 : Int) * v4) + (M5 88 v4.toNat)) < 320)) (K15 v4 (M5 83 (((20 : Int) * v4) + (M5 88 v4.toNat)).toNat) v3 M5))))) else if x1 = 1 then K9 (M5 71 20) v4 M5 else if x1 = 2 then jn (fun (v27 : Int) (w28 : Int) (w29 : Int) (M30 : Mm) => gd ((inR (w29 + w28))) (K9 (w29 + w28) v27 M30)) (fun (K31 : Int → Int → Int → Mm → Option (Int × Mm)) => gd ((0 ≤ v4 ∧ v4 < 16)) (if 0 ≤ (M5 86 v4.toNat) then K31 v4 (0 : Int) v3 M5 else K31 v4 (1 : Int) v3 M5)) else if x1 = 3 then jn (fun (v34 : Int) (w35 : Int) (w36 : Int) (M37 : Mm) => gd ((inR (w36 + w35))) (K9 (w36 + w35) v34 M37)) (fun (K38 : Int → Int → Int → Mm → Option (Int × Mm)) => cal (fX5_isDecided M5 v4) (fun (r40 : Int) => if r40 = 0 then K38 v4 (0 : Int) v3 M5 else K38 v4 (1 : Int) v3 M5)) else if x1 = 4 then jn (fun (v41 : Int) (w42 : Int) (w43 : Int) (M44 : Mm) => gd ((inR (w43 + w42))) (K9 (w43 + w42) v41 M44)) (fun (K45 : Int → Int → Int → Mm → Option (Int × Mm)) => cal (fX5_stepOf M5 v4) (fun (r47 : Int) => if r47 < 0 then K45 v4 (0 : Int) v3 M5 else cal (fX5_stepOf M5 v4) (fun (r48 : Int) => K45 v4 r48 v3 M5))) else K9 (M5 71 20) v4 M5)
def fX5_total (M : Mm) (x1 : Int) : Option (Int × Mm) := cal (fX5_in M x1 (0 : Int) (4 : Int)) (fun (r1 : Int) => if r1 = 0 then some ((-2 : Int), M) else cal (fX5_layAll M) (fun (M2 : Mm) => fX5_total_L20 x1 1000 (0 : Int) (0 : Int) M2))
set_option maxRecDepth 100000 in
theorem mX5_total_L20 {z : Zx} (hz : Cx qX5_total z) {Q : Option Int → Mm → Prop} (hR : Rt Q z) {x1 : Int} : ∀ (n : Nat) (v3 : Int) (v4 : Int) (M5 : Mm), OK (fX5_total_L20 x1 n v3 v4 M5) (fun r2 => Q (some r2.1) r2.2) → Aw z 20 [some (.inr 71), some (.inl x1), some (.inl v3), some (.inl v4)] [] M5 := by
  intro n
  induction n with
  | zero =>
    intro v3 v4 M5 h
    exact (show False from h).elim
  | succ n ih =>
    intro v3 v4 M5 h
    unfold fX5_total_L20 at h
    refine ite_elim h (fun hc h => ?_) (fun hc h => ?_)
    · refine a_run (md qX5_total_ok) hz 4 [1] (pc' := 180) (lv' := [some (.inr 71), some (.inl x1), some (.inl v3), some (.inl v4)]) (st' := []) (M' := M5) (P := ((M5 71 10) ≤ v4) ∧ True) rfl ⟨hc, trivial⟩ ?_
      refine a_run (md qX5_total_ok) hz 1 [] (pc' := 181) (lv' := [some (.inr 71), some (.inl x1), some (.inl v3), some (.inl v4)]) (st' := [.inl v3]) (M' := M5) (P := True) rfl trivial ?_
      exact a_ri (md qX5_total_ok) hz hR rfl (Or.inl rfl) h
    · refine a_run (md qX5_total_ok) hz 4 [0] (pc' := 28) (lv' := [some (.inr 71), some (.inl x1), some (.inl v3), some (.inl v4)]) (st' := []) (M' := M5) (P := (¬ ((M5 71 10) ≤ v4)) ∧ True) rfl ⟨hc, trivial⟩ ?_
      refine jn_elim h (fun (K9 : Int → Int → Mm → Option (Int × Mm)) => ∀ (v6 : Int), ∀ (v7 : Int), ∀ (M8 : Mm), OK (K9 v6 v7 M8) (fun r2 => Q (some r2.1) r2.2) → Aw z 174 [some (.inr 71), some (.inl x1), some (.inl v6), some (.inl v7)] [] M8) (fun v6 v7 M8 h => ?_) (fun K9 hK9 h => ?_)
      · obtain ⟨h10, h⟩ := gd_elim h
        refine a_run (md qX5_total_ok) hz 2 [] (pc' := 20) (lv' := [some (.inr 71), some (.inl x1), some (.inl v6), some (.inl (v7 + (1 : Int)))]) (st' := []) (M' := M8) (P := (inR (v7 + (1 : Int))) ∧ True) rfl ⟨h10, trivial⟩ ?_
        refine a_mask [true, true, true, true] ?_
        exact ih v6 (v7 + (1 : Int)) M8 h
      · refine ite_elim h (fun hs0 h => ?_) (fun hs0 h => ?_)
        · refine a_run (md qX5_total_ok) hz 2 [0] (pc' := 64) (lv' := [some (.inr 71), some (.inl x1), some (.inl v3), some (.inl v4)]) (st' := []) (M' := M5) (P := (x1 = (0 : Int) + ((0 : Nat) : Int)) ∧ True) rfl ⟨hs0.trans (by decide), trivial⟩ ?_
          refine jn_elim h (fun (K15 : Int → Int → Int → Mm → Option (Int × Mm)) => ∀ (v11 : Int), ∀ (w12 : Int), ∀ (w13 : Int), ∀ (M14 : Mm), OK (K15 v11 w12 w13 M14) (fun r2 => Q (some r2.1) r2.2) → Aw z 102 [some (.inr 71), some (.inl x1), none, some (.inl v11)] [.inl w12, .inl w13] M14) (fun v11 w12 w13 M14 h => ?_) (fun K15 hK15 h => ?_)
          · obtain ⟨h16, h⟩ := gd_elim h
            refine a_run (md qX5_total_ok) hz 3 [] (pc' := 174) (lv' := [some (.inr 71), some (.inl x1), some (.inl (w13 + w12)), some (.inl v11)]) (st' := []) (M' := M14) (P := (inR (w13 + w12)) ∧ True) rfl ⟨h16, trivial⟩ ?_
            refine a_mask [true, true, true, true] ?_
            exact hK9 (w13 + w12) v11 M14 h
          · refine jn_elim h (fun (K20 : Int → Int → Mm → Option (Int × Mm)) => ∀ (v17 : Int), ∀ (w18 : Int), ∀ (M19 : Mm), OK (K20 v17 w18 M19) (fun r2 => Q (some r2.1) r2.2) → Aw z 101 [some (.inr 71), some (.inl x1), none, some (.inl v17)] [.inl w18] M19) (fun v17 w18 M19 h => ?_) (fun K20 hK20 h => ?_)
            · refine a_run (md qX5_total_ok) hz 1 [] (pc' := 102) (lv' := [some (.inr 71), some (.inl x1), none, some (.inl v17)]) (st' := [.inl (0 : Int), .inl w18]) (M' := M19) (P := True) rfl trivial ?_
              refine a_mask [true, true, false, true] ?_
              exact hK15 v17 (0 : Int) w18 M19 h
            · obtain ⟨h26, h⟩ := gd_elim h
              refine ite_elim h (fun hc h => ?_) (fun hc h => ?_)
              · refine a_run (md qX5_total_ok) hz 6 [1] (pc' := 101) (lv' := [some (.inr 71), some (.inl x1), some (.inl v3), some (.inl v4)]) (st' := [.inl v3]) (M' := M5) (P := (0 ≤ v4 ∧ v4 < 16) ∧ ((M5 86 v4.toNat) < 0) ∧ True) rfl ⟨h26, hc, trivial⟩ ?_
                refine a_mask [true, true, false, true] ?_
                exact hK20 v4 v3 M5 h
              · refine a_run (md qX5_total_ok) hz 6 [0] (pc' := 74) (lv' := [some (.inr 71), some (.inl x1), some (.inl v3), some (.inl v4)]) (st' := [.inl v3]) (M' := M5) (P := (0 ≤ v4 ∧ v4 < 16) ∧ (¬ ((M5 86 v4.toNat) < 0)) ∧ True) rfl ⟨h26, hc, trivial⟩ ?_
                refine a_run (md qX5_total_ok) hz 2 [] (pc' := 76) (lv' := [some (.inr 71), some (.inl x1), some (.inl v3), some (.inl v4)]) (st' := [.inl v4, .inr 71, .inl v3]) (M' := M5) (P := True) rfl trivial ?_
                obtain ⟨r21, hr, h⟩ := cal_elim h
                refine a_fV (as := [.inl v4]) (a := 71) (st := [.inl v3]) (mX5_next z.1 hr) (md qX5_total_ok) qX5_next_ok hz lkX5_141 rfl 1 1 (by decide +kernel) rfl rfl rfl rfl ?_
                show Aw z 79 [some (.inr 71), some (.inl x1), some (.inl v3), some (.inl v4)] [.inl r21, .inl v3] M5
                refine ite_elim h (fun hc h => ?_) (fun hc h => ?_)
                · refine a_run (md qX5_total_ok) hz 1 [1] (pc' := 101) (lv' := [some (.inr 71), some (.inl x1), some (.inl v3), some (.inl v4)]) (st' := [.inl v3]) (M' := M5) (P := (0 ≤ r21) ∧ True) rfl ⟨hc, trivial⟩ ?_
                  refine a_mask [true, true, false, true] ?_
                  exact hK20 v4 v3 M5 h
                · refine a_run (md qX5_total_ok) hz 1 [0] (pc' := 82) (lv' := [some (.inr 71), some (.inl x1), some (.inl v3), some (.inl v4)]) (st' := [.inl v3]) (M' := M5) (P := (¬ (0 ≤ r21)) ∧ True) rfl ⟨hc, trivial⟩ ?_
                  obtain ⟨⟨h22, h23, h24, h25⟩, h⟩ := gd_elim h
                  refine a_run (md qX5_total_ok) hz 12 [] (pc' := 102) (lv' := [some (.inr 71), some (.inl x1), some (.inl v3), some (.inl v4)]) (st' := [.inl (M5 83 (((20 : Int) * v4) + (M5 88 v4.toNat)).toNat), .inl v3]) (M' := M5) (P := (inR ((20 : Int) * v4)) ∧ (0 ≤ v4 ∧ v4 < 16) ∧ (inR (((20 : Int) * v4) + (M5 88 v4.toNat))) ∧ (0 ≤ (((20 : Int) * v4) + (M5 88 v4.toNat)) ∧ (((20 : Int) * v4) + (M5 88 v4.toNat)) < 320) ∧ True) rfl ⟨h22, h23, h24, h25, trivial⟩ ?_
                  refine a_mask [true, true, false, true] ?_
                  exact hK15 v4 (M5 83 (((20 : Int) * v4) + (M5 88 v4.toNat)).toNat) v3 M5 h
        · refine ite_elim h (fun hs1 h => ?_) (fun hs1 h => ?_)
          · refine a_run (md qX5_total_ok) hz 2 [1] (pc' := 169) (lv' := [some (.inr 71), some (.inl x1), some (.inl v3), some (.inl v4)]) (st' := []) (M' := M5) (P := (x1 = (0 : Int) + ((1 : Nat) : Int)) ∧ True) rfl ⟨hs1.trans (by decide), trivial⟩ ?_
            refine a_run (md qX5_total_ok) hz 3 [] (pc' := 174) (lv' := [some (.inr 71), some (.inl x1), some (.inl (M5 71 20)), some (.inl v4)]) (st' := []) (M' := M5) (P := True) rfl trivial ?_
            refine a_mask [true, true, true, true] ?_
            exact hK9 (M5 71 20) v4 M5 h
          · refine ite_elim h (fun hs2 h => ?_) (fun hs2 h => ?_)
            · refine a_run (md qX5_total_ok) hz 2 [2] (pc' := 107) (lv' := [some (.inr 71), some (.inl x1), some (.inl v3), some (.inl v4)]) (st' := []) (M' := M5) (P := (x1 = (0 : Int) + ((2 : Nat) : Int)) ∧ True) rfl ⟨hs2.trans (by decide), trivial⟩ ?_
              refine jn_elim h (fun (K31 : Int → Int → Int → Mm → Option (Int × Mm)) => ∀ (v27 : Int), ∀ (w28 : Int), ∀ (w29 : Int), ∀ (M30 : Mm), OK (K31 v27 w28 w29 M30) (fun r2 => Q (some r2.1) r2.2) → Aw z 122 [some (.inr 71), some (.inl x1), none, some (.inl v27)] [.inl w28, .inl w29] M30) (fun v27 w28 w29 M30 h => ?_) (fun K31 hK31 h => ?_)
              · obtain ⟨h32, h⟩ := gd_elim h
                refine a_run (md qX5_total_ok) hz 3 [] (pc' := 174) (lv' := [some (.inr 71), some (.inl x1), some (.inl (w29 + w28)), some (.inl v27)]) (st' := []) (M' := M30) (P := (inR (w29 + w28)) ∧ True) rfl ⟨h32, trivial⟩ ?_
                refine a_mask [true, true, true, true] ?_
                exact hK9 (w29 + w28) v27 M30 h
              · obtain ⟨h33, h⟩ := gd_elim h
                refine ite_elim h (fun hc h => ?_) (fun hc h => ?_)
                · refine a_run (md qX5_total_ok) hz 6 [1] (pc' := 121) (lv' := [some (.inr 71), some (.inl x1), some (.inl v3), some (.inl v4)]) (st' := [.inl v3]) (M' := M5) (P := (0 ≤ v4 ∧ v4 < 16) ∧ (0 ≤ (M5 86 v4.toNat)) ∧ True) rfl ⟨h33, hc, trivial⟩ ?_
                  refine a_run (md qX5_total_ok) hz 1 [] (pc' := 122) (lv' := [some (.inr 71), some (.inl x1), some (.inl v3), some (.inl v4)]) (st' := [.inl (0 : Int), .inl v3]) (M' := M5) (P := True) rfl trivial ?_
                  refine a_mask [true, true, false, true] ?_
                  exact hK31 v4 (0 : Int) v3 M5 h
                · refine a_run (md qX5_total_ok) hz 6 [0] (pc' := 117) (lv' := [some (.inr 71), some (.inl x1), some (.inl v3), some (.inl v4)]) (st' := [.inl v3]) (M' := M5) (P := (0 ≤ v4 ∧ v4 < 16) ∧ (¬ (0 ≤ (M5 86 v4.toNat))) ∧ True) rfl ⟨h33, hc, trivial⟩ ?_
                  refine a_run (md qX5_total_ok) hz 2 [] (pc' := 122) (lv' := [some (.inr 71), some (.inl x1), some (.inl v3), some (.inl v4)]) (st' := [.inl (1 : Int), .inl v3]) (M' := M5) (P := True) rfl trivial ?_
                  refine a_mask [true, true, false, true] ?_
                  exact hK31 v4 (1 : Int) v3 M5 h
            · refine ite_elim h (fun hs3 h => ?_) (fun hs3 h => ?_)
              · refine a_run (md qX5_total_ok) hz 2 [3] (pc' := 127) (lv' := [some (.inr 71), some (.inl x1), some (.inl v3), some (.inl v4)]) (st' := []) (M' := M5) (P := (x1 = (0 : Int) + ((3 : Nat) : Int)) ∧ True) rfl ⟨hs3.trans (by decide), trivial⟩ ?_
                refine jn_elim h (fun (K38 : Int → Int → Int → Mm → Option (Int × Mm)) => ∀ (v34 : Int), ∀ (w35 : Int), ∀ (w36 : Int), ∀ (M37 : Mm), OK (K38 v34 w35 w36 M37) (fun r2 => Q (some r2.1) r2.2) → Aw z 141 [some (.inr 71), some (.inl x1), none, some (.inl v34)] [.inl w35, .inl w36] M37) (fun v34 w35 w36 M37 h => ?_) (fun K38 hK38 h => ?_)
                · obtain ⟨h39, h⟩ := gd_elim h
                  refine a_run (md qX5_total_ok) hz 3 [] (pc' := 174) (lv' := [some (.inr 71), some (.inl x1), some (.inl (w36 + w35)), some (.inl v34)]) (st' := []) (M' := M37) (P := (inR (w36 + w35)) ∧ True) rfl ⟨h39, trivial⟩ ?_
                  refine a_mask [true, true, true, true] ?_
                  exact hK9 (w36 + w35) v34 M37 h
                · refine a_run (md qX5_total_ok) hz 3 [] (pc' := 130) (lv' := [some (.inr 71), some (.inl x1), some (.inl v3), some (.inl v4)]) (st' := [.inl v4, .inr 71, .inl v3]) (M' := M5) (P := True) rfl trivial ?_
                  obtain ⟨r40, hr, h⟩ := cal_elim h
                  refine a_fV (as := [.inl v4]) (a := 71) (st := [.inl v3]) (mX5_isDecided z.1 hr) (md qX5_total_ok) qX5_isDecided_ok hz lkX5_156 rfl 1 1 (by decide +kernel) rfl rfl rfl rfl ?_
                  show Aw z 133 [some (.inr 71), some (.inl x1), some (.inl v3), some (.inl v4)] [.inl r40, .inl v3] M5
                  refine ite_elim h (fun hc h => ?_) (fun hc h => ?_)
                  · refine a_run (md qX5_total_ok) hz 1 [1] (pc' := 140) (lv' := [some (.inr 71), some (.inl x1), some (.inl v3), some (.inl v4)]) (st' := [.inl v3]) (M' := M5) (P := (r40 = 0) ∧ True) rfl ⟨hc, trivial⟩ ?_
                    refine a_run (md qX5_total_ok) hz 1 [] (pc' := 141) (lv' := [some (.inr 71), some (.inl x1), some (.inl v3), some (.inl v4)]) (st' := [.inl (0 : Int), .inl v3]) (M' := M5) (P := True) rfl trivial ?_
                    refine a_mask [true, true, false, true] ?_
                    exact hK38 v4 (0 : Int) v3 M5 h
                  · refine a_run (md qX5_total_ok) hz 1 [0] (pc' := 136) (lv' := [some (.inr 71), some (.inl x1), some (.inl v3), some (.inl v4)]) (st' := [.inl v3]) (M' := M5) (P := (¬ (r40 = 0)) ∧ True) rfl ⟨hc, trivial⟩ ?_
                    refine a_run (md qX5_total_ok) hz 2 [] (pc' := 141) (lv' := [some (.inr 71), some (.inl x1), some (.inl v3), some (.inl v4)]) (st' := [.inl (1 : Int), .inl v3]) (M' := M5) (P := True) rfl trivial ?_
                    refine a_mask [true, true, false, true] ?_
                    exact hK38 v4 (1 : Int) v3 M5 h
              · refine ite_elim h (fun hs4 h => ?_) (fun hs4 h => ?_)
                · refine a_run (md qX5_total_ok) hz 2 [4] (pc' := 146) (lv' := [some (.inr 71), some (.inl x1), some (.inl v3), some (.inl v4)]) (st' := []) (M' := M5) (P := (x1 = (0 : Int) + ((4 : Nat) : Int)) ∧ True) rfl ⟨hs4.trans (by decide), trivial⟩ ?_
                  refine jn_elim h (fun (K45 : Int → Int → Int → Mm → Option (Int × Mm)) => ∀ (v41 : Int), ∀ (w42 : Int), ∀ (w43 : Int), ∀ (M44 : Mm), OK (K45 v41 w42 w43 M44) (fun r2 => Q (some r2.1) r2.2) → Aw z 164 [some (.inr 71), some (.inl x1), none, some (.inl v41)] [.inl w42, .inl w43] M44) (fun v41 w42 w43 M44 h => ?_) (fun K45 hK45 h => ?_)
                  · obtain ⟨h46, h⟩ := gd_elim h
                    refine a_run (md qX5_total_ok) hz 3 [] (pc' := 174) (lv' := [some (.inr 71), some (.inl x1), some (.inl (w43 + w42)), some (.inl v41)]) (st' := []) (M' := M44) (P := (inR (w43 + w42)) ∧ True) rfl ⟨h46, trivial⟩ ?_
                    refine a_mask [true, true, true, true] ?_
                    exact hK9 (w43 + w42) v41 M44 h
                  · refine a_run (md qX5_total_ok) hz 3 [] (pc' := 149) (lv' := [some (.inr 71), some (.inl x1), some (.inl v3), some (.inl v4)]) (st' := [.inl v4, .inr 71, .inl v3]) (M' := M5) (P := True) rfl trivial ?_
                    obtain ⟨r47, hr, h⟩ := cal_elim h
                    refine a_fV (as := [.inl v4]) (a := 71) (st := [.inl v3]) (mX5_stepOf z.1 hr) (md qX5_total_ok) qX5_stepOf_ok hz lkX5_159 rfl 1 1 (by decide +kernel) rfl rfl rfl rfl ?_
                    show Aw z 152 [some (.inr 71), some (.inl x1), some (.inl v3), some (.inl v4)] [.inl r47, .inl v3] M5
                    refine ite_elim h (fun hc h => ?_) (fun hc h => ?_)
                    · refine a_run (md qX5_total_ok) hz 1 [1] (pc' := 163) (lv' := [some (.inr 71), some (.inl x1), some (.inl v3), some (.inl v4)]) (st' := [.inl v3]) (M' := M5) (P := (r47 < 0) ∧ True) rfl ⟨hc, trivial⟩ ?_
                      refine a_run (md qX5_total_ok) hz 1 [] (pc' := 164) (lv' := [some (.inr 71), some (.inl x1), some (.inl v3), some (.inl v4)]) (st' := [.inl (0 : Int), .inl v3]) (M' := M5) (P := True) rfl trivial ?_
                      refine a_mask [true, true, false, true] ?_
                      exact hK45 v4 (0 : Int) v3 M5 h
                    · refine a_run (md qX5_total_ok) hz 1 [0] (pc' := 155) (lv' := [some (.inr 71), some (.inl x1), some (.inl v3), some (.inl v4)]) (st' := [.inl v3]) (M' := M5) (P := (¬ (r47 < 0)) ∧ True) rfl ⟨hc, trivial⟩ ?_
                      refine a_run (md qX5_total_ok) hz 2 [] (pc' := 157) (lv' := [some (.inr 71), some (.inl x1), some (.inl v3), some (.inl v4)]) (st' := [.inl v4, .inr 71, .inl v3]) (M' := M5) (P := True) rfl trivial ?_
                      obtain ⟨r48, hr, h⟩ := cal_elim h
                      refine a_fV (as := [.inl v4]) (a := 71) (st := [.inl v3]) (mX5_stepOf z.1 hr) (md qX5_total_ok) qX5_stepOf_ok hz lkX5_159 rfl 1 1 (by decide +kernel) rfl rfl rfl rfl ?_
                      show Aw z 160 [some (.inr 71), some (.inl x1), some (.inl v3), some (.inl v4)] [.inl r48, .inl v3] M5
                      refine a_run (md qX5_total_ok) hz 1 [] (pc' := 164) (lv' := [some (.inr 71), some (.inl x1), some (.inl v3), some (.inl v4)]) (st' := [.inl r48, .inl v3]) (M' := M5) (P := True) rfl trivial ?_
                      refine a_mask [true, true, false, true] ?_
                      exact hK45 v4 r48 v3 M5 h
                · refine a_run (md qX5_total_ok) hz 2 [5] (pc' := 169) (lv' := [some (.inr 71), some (.inl x1), some (.inl v3), some (.inl v4)]) (st' := []) (M' := M5) (P := (x1 < (0 : Int) ∨ (4 : Int) < x1) ∧ True) rfl ⟨by omega, trivial⟩ ?_
                  refine a_run (md qX5_total_ok) hz 3 [] (pc' := 174) (lv' := [some (.inr 71), some (.inl x1), some (.inl (M5 71 20)), some (.inl v4)]) (st' := []) (M' := M5) (P := True) rfl trivial ?_
                  refine a_mask [true, true, true, true] ?_
                  exact hK9 (M5 71 20) v4 M5 h
set_option maxRecDepth 100000 in
theorem mX5_total (g : Gx) {M : Mm} {x1 : Int} {r : Int} {M2 : Mm} (h : fX5_total M x1 = some (r, M2)) : Ct g qX5_total [.inr 71, .inl x1] M (fun r' M' => r' = some r ∧ M' = M2) := by
  refine c_ofI h qX5_total_ok (Nat.le_of_ble_eq_true rfl) (fun z hz Q hR h => ?_)
  unfold fX5_total at h
  show Aw z 0 [some (.inr 71), some (.inl x1), none, none] [] M
  refine a_run (md qX5_total_ok) hz 3 [] (pc' := 3) (lv' := [some (.inr 71), some (.inl x1), none, none]) (st' := [.inl (4 : Int), .inl (0 : Int), .inl x1]) (M' := M) (P := True) rfl trivial ?_
  obtain ⟨r1, hr, h⟩ := cal_elim h
  refine a_fS (as := [.inl x1, .inl (0 : Int), .inl (4 : Int)]) (st := []) (mX5_in z.1 hr) (md qX5_total_ok) qX5_in_ok hz lkX5_76 rfl 3 0 (by decide +kernel) rfl rfl ?_
  show Aw z 6 [some (.inr 71), some (.inl x1), none, none] [.inl r1] M
  refine ite_elim h (fun hc h => ?_) (fun hc h => ?_)
  · refine a_run (md qX5_total_ok) hz 1 [0] (pc' := 9) (lv' := [some (.inr 71), some (.inl x1), none, none]) (st' := []) (M' := M) (P := (¬ ¬ r1 = 0) ∧ True) rfl ⟨fun h9 => h9 hc, trivial⟩ ?_
    refine a_run (md qX5_total_ok) hz 1 [] (pc' := 11) (lv' := [some (.inr 71), some (.inl x1), none, none]) (st' := [.inl (-2 : Int)]) (M' := M) (P := True) rfl trivial ?_
    exact a_ri (md qX5_total_ok) hz hR rfl (Or.inl rfl) h
  · refine a_run (md qX5_total_ok) hz 1 [1] (pc' := 12) (lv' := [some (.inr 71), some (.inl x1), none, none]) (st' := []) (M' := M) (P := (¬ r1 = 0) ∧ True) rfl ⟨hc, trivial⟩ ?_
    refine a_run (md qX5_total_ok) hz 1 [] (pc' := 13) (lv' := [some (.inr 71), some (.inl x1), none, none]) (st' := [.inr 71]) (M' := M) (P := True) rfl trivial ?_
    obtain ⟨M2, hr, h⟩ := cal_elim h
    refine a_fV (as := []) (a := 71) (st := []) (mX5_layAll z.1 hr) (md qX5_total_ok) qX5_layAll_ok hz lkX5_150 rfl 0 0 (by decide +kernel) rfl rfl rfl rfl ?_
    show Aw z 16 [some (.inr 71), some (.inl x1), none, none] [] M2
    refine a_run (md qX5_total_ok) hz 4 [] (pc' := 20) (lv' := [some (.inr 71), some (.inl x1), some (.inl (0 : Int)), some (.inl (0 : Int))]) (st' := []) (M' := M2) (P := True) rfl trivial ?_
    refine a_mask [true, true, true, true] ?_
    refine mX5_total_L20 hz hR  1000 (0 : Int) (0 : Int) M2 h
def fX5_image_L178 (x1 : Int) (k206 : Int → Mm → Option (Int × Mm)) : Nat → Int → Int → Mm → Option (Int × Mm)
  | 0, _, _, _ => none
  | n + 1, v17, v18, M19 => if (4 : Int) ≤ v18 then k206 v17 M19 else gd ((inR (v17 + (116 : Int))) ∧ (inR ((v17 + (116 : Int)) + v18)) ∧ (0 ≤ v18 ∧ v18 < 4) ∧ (0 ≤ ((v17 + (116 : Int)) + v18) ∧ ((v17 + (116 : Int)) + v18) < 260)) (bnd (up M19 89 ((v17 + (116 : Int)) + v18).toNat (M19 77 v18.toNat)) (fun (M33 : Mm) => gd ((inR (v18 + (1 : Int)))) (fX5_image_L178 x1 k206 n v17 (v18 + (1 : Int)) M33)))
def fX5_image_L130 (x1 : Int) (k176 : Int → Mm → Option (Int × Mm)) : Nat → Int → Int → Mm → Option (Int × Mm)
  | 0, _, _, _ => none
  | n + 1, v12, v13, M14 => if (16 : Int) ≤ v13 then k176 v12 M14 else gd ((inR (v12 + (84 : Int))) ∧ (inR ((v12 + (84 : Int)) + v13)) ∧ (0 ≤ v13 ∧ v13 < 16) ∧ (0 ≤ ((v12 + (84 : Int)) + v13) ∧ ((v12 + (84 : Int)) + v13) < 260)) (bnd (up M14 89 ((v12 + (84 : Int)) + v13).toNat (M14 78 v13.toNat)) (fun (M39 : Mm) => gd ((inR (v12 + (100 : Int))) ∧ (inR ((v12 + (100 : Int)) + v13)) ∧ (0 ≤ v13 ∧ v13 < 16) ∧ (0 ≤ ((v12 + (100 : Int)) + v13) ∧ ((v12 + (100 : Int)) + v13) < 260)) (bnd (up M39 89 ((v12 + (100 : Int)) + v13).toNat (M39 79 v13.toNat)) (fun (M40 : Mm) => gd ((inR (v13 + (1 : Int)))) (fX5_image_L130 x1 k176 n v12 (v13 + (1 : Int)) M40)))))
def fX5_image_L65 (x1 : Int) (k128 : Int → Mm → Option (Int × Mm)) : Nat → Int → Int → Mm → Option (Int × Mm)
  | 0, _, _, _ => none
  | n + 1, v7, v8, M9 => if (20 : Int) ≤ v8 then k128 v7 M9 else gd ((inR (v7 + (24 : Int))) ∧ (inR ((v7 + (24 : Int)) + v8)) ∧ (0 ≤ v8 ∧ v8 < 20) ∧ (0 ≤ ((v7 + (24 : Int)) + v8) ∧ ((v7 + (24 : Int)) + v8) < 260)) (bnd (up M9 89 ((v7 + (24 : Int)) + v8).toNat (M9 74 v8.toNat)) (fun (M50 : Mm) => gd ((inR (v7 + (44 : Int))) ∧ (inR ((v7 + (44 : Int)) + v8)) ∧ (0 ≤ v8 ∧ v8 < 20) ∧ (0 ≤ ((v7 + (44 : Int)) + v8) ∧ ((v7 + (44 : Int)) + v8) < 260)) (bnd (up M50 89 ((v7 + (44 : Int)) + v8).toNat (M50 75 v8.toNat)) (fun (M51 : Mm) => gd ((inR (v7 + (64 : Int))) ∧ (inR ((v7 + (64 : Int)) + v8)) ∧ (0 ≤ v8 ∧ v8 < 20) ∧ (0 ≤ ((v7 + (64 : Int)) + v8) ∧ ((v7 + (64 : Int)) + v8) < 260)) (bnd (up M51 89 ((v7 + (64 : Int)) + v8).toNat (M51 76 v8.toNat)) (fun (M52 : Mm) => gd ((inR (v8 + (1 : Int)))) (fX5_image_L65 x1 k128 n v7 (v8 + (1 : Int)) M52)))))))
def fX5_image_L20 (x1 : Int) (k63 : Int → Mm → Option (Int × Mm)) : Nat → Int → Int → Mm → Option (Int × Mm)
  | 0, _, _, _ => none
  | n + 1, v2, v3, M4 => if (12 : Int) ≤ v3 then k63 v2 M4 else gd ((inR (v2 + v3)) ∧ (0 ≤ v3 ∧ v3 < 12) ∧ (0 ≤ (v2 + v3) ∧ (v2 + v3) < 260)) (bnd (up M4 89 (v2 + v3).toNat (M4 72 v3.toNat)) (fun (M66 : Mm) => gd ((inR (v2 + (12 : Int))) ∧ (inR ((v2 + (12 : Int)) + v3)) ∧ (0 ≤ v3 ∧ v3 < 12) ∧ (0 ≤ ((v2 + (12 : Int)) + v3) ∧ ((v2 + (12 : Int)) + v3) < 260)) (bnd (up M66 89 ((v2 + (12 : Int)) + v3).toNat (M66 73 v3.toNat)) (fun (M67 : Mm) => gd ((inR (v3 + (1 : Int)))) (fX5_image_L20 x1 k63 n v2 (v3 + (1 : Int)) M67)))))
def fX5_image (M : Mm) (x1 : Int) : Option (Int × Mm) := cal (fX5_in M x1 (0 : Int) (1 : Int)) (fun (r1 : Int) => if r1 = 0 then some ((-2 : Int), M) else gd ((inR ((130 : Int) * x1))) (fX5_image_L20 x1 (fun (v5 : Int) (M6 : Mm) => fX5_image_L65 x1 (fun (v10 : Int) (M11 : Mm) => fX5_image_L130 x1 (fun (v15 : Int) (M16 : Mm) => fX5_image_L178 x1 (fun (v20 : Int) (M21 : Mm) => gd ((inR (v20 + (120 : Int))) ∧ (0 ≤ (v20 + (120 : Int)) ∧ (v20 + (120 : Int)) < 260)) (bnd (up M21 89 (v20 + (120 : Int)).toNat (M21 71 2)) (fun (M22 : Mm) => gd ((inR (v20 + (121 : Int))) ∧ (0 ≤ (v20 + (121 : Int)) ∧ (v20 + (121 : Int)) < 260)) (bnd (up M22 89 (v20 + (121 : Int)).toNat (M22 71 6)) (fun (M23 : Mm) => gd ((inR (v20 + (122 : Int))) ∧ (0 ≤ (v20 + (122 : Int)) ∧ (v20 + (122 : Int)) < 260)) (bnd (up M23 89 (v20 + (122 : Int)).toNat (M23 71 10)) (fun (M24 : Mm) => gd (((0 ≤ x1 ∧ x1 < 2) ∧ ((1 : Int) = 0 ∨ (1 : Int) = 1))) (bnd (up M24 90 x1.toNat (1 : Int)) (fun (M25 : Mm) => some ((1 : Int), M25)))))))))) 1000 v15 (0 : Int) M16) 1000 v10 (0 : Int) M11) 1000 v5 (0 : Int) M6) 1000 ((130 : Int) * x1) (0 : Int) M))
set_option maxRecDepth 100000 in
theorem mX5_image_L178 {z : Zx} (hz : Cx qX5_image z) {Q : Option Int → Mm → Prop} (hR : Rt Q z) {x1 : Int} {k206 : Int → Mm → Option (Int × Mm)} (hk206 : ∀ (v20 : Int), ∀ (M21 : Mm), OK (k206 v20 M21) (fun r2 => Q (some r2.1) r2.2) → Aw z 206 [some (.inr 71), some (.inl x1), some (.inl v20), none] [] M21) : ∀ (n : Nat) (v17 : Int) (v18 : Int) (M19 : Mm), OK (fX5_image_L178 x1 k206 n v17 v18 M19) (fun r2 => Q (some r2.1) r2.2) → Aw z 178 [some (.inr 71), some (.inl x1), some (.inl v17), some (.inl v18)] [] M19 := by
  intro n
  induction n with
  | zero =>
    intro v17 v18 M19 h
    exact (show False from h).elim
  | succ n ih =>
    intro v17 v18 M19 h
    unfold fX5_image_L178 at h
    refine ite_elim h (fun hc h => ?_) (fun hc h => ?_)
    · refine a_run (md qX5_image_ok) hz 3 [1] (pc' := 206) (lv' := [some (.inr 71), some (.inl x1), some (.inl v17), some (.inl v18)]) (st' := []) (M' := M19) (P := ((4 : Int) ≤ v18) ∧ True) rfl ⟨hc, trivial⟩ ?_
      refine a_mask [true, true, true, false] ?_
      exact hk206 v17 M19 h
    · refine a_run (md qX5_image_ok) hz 3 [0] (pc' := 183) (lv' := [some (.inr 71), some (.inl x1), some (.inl v17), some (.inl v18)]) (st' := []) (M' := M19) (P := (¬ ((4 : Int) ≤ v18)) ∧ True) rfl ⟨hc, trivial⟩ ?_
      obtain ⟨⟨h35, h36, h37, h38⟩, h⟩ := gd_elim h
      refine a_run (md qX5_image_ok) hz 12 [] (pc' := 200) (lv' := [some (.inr 71), some (.inl x1), some (.inl v17), some (.inl v18)]) (st' := []) (M' := (up M19 89 ((v17 + (116 : Int)) + v18).toNat (M19 77 v18.toNat))) (P := (inR (v17 + (116 : Int))) ∧ (inR ((v17 + (116 : Int)) + v18)) ∧ (0 ≤ v18 ∧ v18 < 4) ∧ (0 ≤ ((v17 + (116 : Int)) + v18) ∧ ((v17 + (116 : Int)) + v18) < 260) ∧ True) rfl ⟨h35, h36, h37, h38, trivial⟩ ?_
      refine bnd_elim (G := fun (M33 : Mm) => Aw z 200 [some (.inr 71), some (.inl x1), some (.inl v17), some (.inl v18)] [] M33) h (fun M33 h => ?_)
      obtain ⟨h34, h⟩ := gd_elim h
      refine a_run (md qX5_image_ok) hz 2 [] (pc' := 178) (lv' := [some (.inr 71), some (.inl x1), some (.inl v17), some (.inl (v18 + (1 : Int)))]) (st' := []) (M' := M33) (P := (inR (v18 + (1 : Int))) ∧ True) rfl ⟨h34, trivial⟩ ?_
      refine a_mask [true, true, true, true] ?_
      exact ih v17 (v18 + (1 : Int)) M33 h
set_option maxRecDepth 100000 in
theorem mX5_image_L130 {z : Zx} (hz : Cx qX5_image z) {Q : Option Int → Mm → Prop} (hR : Rt Q z) {x1 : Int} {k176 : Int → Mm → Option (Int × Mm)} (hk176 : ∀ (v15 : Int), ∀ (M16 : Mm), OK (k176 v15 M16) (fun r2 => Q (some r2.1) r2.2) → Aw z 176 [some (.inr 71), some (.inl x1), some (.inl v15), none] [] M16) : ∀ (n : Nat) (v12 : Int) (v13 : Int) (M14 : Mm), OK (fX5_image_L130 x1 k176 n v12 v13 M14) (fun r2 => Q (some r2.1) r2.2) → Aw z 130 [some (.inr 71), some (.inl x1), some (.inl v12), some (.inl v13)] [] M14 := by
  intro n
  induction n with
  | zero =>
    intro v12 v13 M14 h
    exact (show False from h).elim
  | succ n ih =>
    intro v12 v13 M14 h
    unfold fX5_image_L130 at h
    refine ite_elim h (fun hc h => ?_) (fun hc h => ?_)
    · refine a_run (md qX5_image_ok) hz 3 [1] (pc' := 176) (lv' := [some (.inr 71), some (.inl x1), some (.inl v12), some (.inl v13)]) (st' := []) (M' := M14) (P := ((16 : Int) ≤ v13) ∧ True) rfl ⟨hc, trivial⟩ ?_
      refine a_mask [true, true, true, false] ?_
      exact hk176 v12 M14 h
    · refine a_run (md qX5_image_ok) hz 3 [0] (pc' := 136) (lv' := [some (.inr 71), some (.inl x1), some (.inl v12), some (.inl v13)]) (st' := []) (M' := M14) (P := (¬ ((16 : Int) ≤ v13)) ∧ True) rfl ⟨hc, trivial⟩ ?_
      obtain ⟨⟨h46, h47, h48, h49⟩, h⟩ := gd_elim h
      refine a_run (md qX5_image_ok) hz 12 [] (pc' := 153) (lv' := [some (.inr 71), some (.inl x1), some (.inl v12), some (.inl v13)]) (st' := []) (M' := (up M14 89 ((v12 + (84 : Int)) + v13).toNat (M14 78 v13.toNat))) (P := (inR (v12 + (84 : Int))) ∧ (inR ((v12 + (84 : Int)) + v13)) ∧ (0 ≤ v13 ∧ v13 < 16) ∧ (0 ≤ ((v12 + (84 : Int)) + v13) ∧ ((v12 + (84 : Int)) + v13) < 260) ∧ True) rfl ⟨h46, h47, h48, h49, trivial⟩ ?_
      refine bnd_elim (G := fun (M39 : Mm) => Aw z 153 [some (.inr 71), some (.inl x1), some (.inl v12), some (.inl v13)] [] M39) h (fun M39 h => ?_)
      obtain ⟨⟨h42, h43, h44, h45⟩, h⟩ := gd_elim h
      refine a_run (md qX5_image_ok) hz 12 [] (pc' := 170) (lv' := [some (.inr 71), some (.inl x1), some (.inl v12), some (.inl v13)]) (st' := []) (M' := (up M39 89 ((v12 + (100 : Int)) + v13).toNat (M39 79 v13.toNat))) (P := (inR (v12 + (100 : Int))) ∧ (inR ((v12 + (100 : Int)) + v13)) ∧ (0 ≤ v13 ∧ v13 < 16) ∧ (0 ≤ ((v12 + (100 : Int)) + v13) ∧ ((v12 + (100 : Int)) + v13) < 260) ∧ True) rfl ⟨h42, h43, h44, h45, trivial⟩ ?_
      refine bnd_elim (G := fun (M40 : Mm) => Aw z 170 [some (.inr 71), some (.inl x1), some (.inl v12), some (.inl v13)] [] M40) h (fun M40 h => ?_)
      obtain ⟨h41, h⟩ := gd_elim h
      refine a_run (md qX5_image_ok) hz 2 [] (pc' := 130) (lv' := [some (.inr 71), some (.inl x1), some (.inl v12), some (.inl (v13 + (1 : Int)))]) (st' := []) (M' := M40) (P := (inR (v13 + (1 : Int))) ∧ True) rfl ⟨h41, trivial⟩ ?_
      refine a_mask [true, true, true, true] ?_
      exact ih v12 (v13 + (1 : Int)) M40 h
set_option maxRecDepth 100000 in
theorem mX5_image_L65 {z : Zx} (hz : Cx qX5_image z) {Q : Option Int → Mm → Prop} (hR : Rt Q z) {x1 : Int} {k128 : Int → Mm → Option (Int × Mm)} (hk128 : ∀ (v10 : Int), ∀ (M11 : Mm), OK (k128 v10 M11) (fun r2 => Q (some r2.1) r2.2) → Aw z 128 [some (.inr 71), some (.inl x1), some (.inl v10), none] [] M11) : ∀ (n : Nat) (v7 : Int) (v8 : Int) (M9 : Mm), OK (fX5_image_L65 x1 k128 n v7 v8 M9) (fun r2 => Q (some r2.1) r2.2) → Aw z 65 [some (.inr 71), some (.inl x1), some (.inl v7), some (.inl v8)] [] M9 := by
  intro n
  induction n with
  | zero =>
    intro v7 v8 M9 h
    exact (show False from h).elim
  | succ n ih =>
    intro v7 v8 M9 h
    unfold fX5_image_L65 at h
    refine ite_elim h (fun hc h => ?_) (fun hc h => ?_)
    · refine a_run (md qX5_image_ok) hz 3 [1] (pc' := 128) (lv' := [some (.inr 71), some (.inl x1), some (.inl v7), some (.inl v8)]) (st' := []) (M' := M9) (P := ((20 : Int) ≤ v8) ∧ True) rfl ⟨hc, trivial⟩ ?_
      refine a_mask [true, true, true, false] ?_
      exact hk128 v7 M9 h
    · refine a_run (md qX5_image_ok) hz 3 [0] (pc' := 71) (lv' := [some (.inr 71), some (.inl x1), some (.inl v7), some (.inl v8)]) (st' := []) (M' := M9) (P := (¬ ((20 : Int) ≤ v8)) ∧ True) rfl ⟨hc, trivial⟩ ?_
      obtain ⟨⟨h62, h63, h64, h65⟩, h⟩ := gd_elim h
      refine a_run (md qX5_image_ok) hz 12 [] (pc' := 88) (lv' := [some (.inr 71), some (.inl x1), some (.inl v7), some (.inl v8)]) (st' := []) (M' := (up M9 89 ((v7 + (24 : Int)) + v8).toNat (M9 74 v8.toNat))) (P := (inR (v7 + (24 : Int))) ∧ (inR ((v7 + (24 : Int)) + v8)) ∧ (0 ≤ v8 ∧ v8 < 20) ∧ (0 ≤ ((v7 + (24 : Int)) + v8) ∧ ((v7 + (24 : Int)) + v8) < 260) ∧ True) rfl ⟨h62, h63, h64, h65, trivial⟩ ?_
      refine bnd_elim (G := fun (M50 : Mm) => Aw z 88 [some (.inr 71), some (.inl x1), some (.inl v7), some (.inl v8)] [] M50) h (fun M50 h => ?_)
      obtain ⟨⟨h58, h59, h60, h61⟩, h⟩ := gd_elim h
      refine a_run (md qX5_image_ok) hz 12 [] (pc' := 105) (lv' := [some (.inr 71), some (.inl x1), some (.inl v7), some (.inl v8)]) (st' := []) (M' := (up M50 89 ((v7 + (44 : Int)) + v8).toNat (M50 75 v8.toNat))) (P := (inR (v7 + (44 : Int))) ∧ (inR ((v7 + (44 : Int)) + v8)) ∧ (0 ≤ v8 ∧ v8 < 20) ∧ (0 ≤ ((v7 + (44 : Int)) + v8) ∧ ((v7 + (44 : Int)) + v8) < 260) ∧ True) rfl ⟨h58, h59, h60, h61, trivial⟩ ?_
      refine bnd_elim (G := fun (M51 : Mm) => Aw z 105 [some (.inr 71), some (.inl x1), some (.inl v7), some (.inl v8)] [] M51) h (fun M51 h => ?_)
      obtain ⟨⟨h54, h55, h56, h57⟩, h⟩ := gd_elim h
      refine a_run (md qX5_image_ok) hz 12 [] (pc' := 122) (lv' := [some (.inr 71), some (.inl x1), some (.inl v7), some (.inl v8)]) (st' := []) (M' := (up M51 89 ((v7 + (64 : Int)) + v8).toNat (M51 76 v8.toNat))) (P := (inR (v7 + (64 : Int))) ∧ (inR ((v7 + (64 : Int)) + v8)) ∧ (0 ≤ v8 ∧ v8 < 20) ∧ (0 ≤ ((v7 + (64 : Int)) + v8) ∧ ((v7 + (64 : Int)) + v8) < 260) ∧ True) rfl ⟨h54, h55, h56, h57, trivial⟩ ?_
      refine bnd_elim (G := fun (M52 : Mm) => Aw z 122 [some (.inr 71), some (.inl x1), some (.inl v7), some (.inl v8)] [] M52) h (fun M52 h => ?_)
      obtain ⟨h53, h⟩ := gd_elim h
      refine a_run (md qX5_image_ok) hz 2 [] (pc' := 65) (lv' := [some (.inr 71), some (.inl x1), some (.inl v7), some (.inl (v8 + (1 : Int)))]) (st' := []) (M' := M52) (P := (inR (v8 + (1 : Int))) ∧ True) rfl ⟨h53, trivial⟩ ?_
      refine a_mask [true, true, true, true] ?_
      exact ih v7 (v8 + (1 : Int)) M52 h
set_option maxRecDepth 100000 in
theorem mX5_image_L20 {z : Zx} (hz : Cx qX5_image z) {Q : Option Int → Mm → Prop} (hR : Rt Q z) {x1 : Int} {k63 : Int → Mm → Option (Int × Mm)} (hk63 : ∀ (v5 : Int), ∀ (M6 : Mm), OK (k63 v5 M6) (fun r2 => Q (some r2.1) r2.2) → Aw z 63 [some (.inr 71), some (.inl x1), some (.inl v5), none] [] M6) : ∀ (n : Nat) (v2 : Int) (v3 : Int) (M4 : Mm), OK (fX5_image_L20 x1 k63 n v2 v3 M4) (fun r2 => Q (some r2.1) r2.2) → Aw z 20 [some (.inr 71), some (.inl x1), some (.inl v2), some (.inl v3)] [] M4 := by
  intro n
  induction n with
  | zero =>
    intro v2 v3 M4 h
    exact (show False from h).elim
  | succ n ih =>
    intro v2 v3 M4 h
    unfold fX5_image_L20 at h
    refine ite_elim h (fun hc h => ?_) (fun hc h => ?_)
    · refine a_run (md qX5_image_ok) hz 3 [1] (pc' := 63) (lv' := [some (.inr 71), some (.inl x1), some (.inl v2), some (.inl v3)]) (st' := []) (M' := M4) (P := ((12 : Int) ≤ v3) ∧ True) rfl ⟨hc, trivial⟩ ?_
      refine a_mask [true, true, true, false] ?_
      exact hk63 v2 M4 h
    · refine a_run (md qX5_image_ok) hz 3 [0] (pc' := 26) (lv' := [some (.inr 71), some (.inl x1), some (.inl v2), some (.inl v3)]) (st' := []) (M' := M4) (P := (¬ ((12 : Int) ≤ v3)) ∧ True) rfl ⟨hc, trivial⟩ ?_
      obtain ⟨⟨h73, h74, h75⟩, h⟩ := gd_elim h
      refine a_run (md qX5_image_ok) hz 10 [] (pc' := 40) (lv' := [some (.inr 71), some (.inl x1), some (.inl v2), some (.inl v3)]) (st' := []) (M' := (up M4 89 (v2 + v3).toNat (M4 72 v3.toNat))) (P := (inR (v2 + v3)) ∧ (0 ≤ v3 ∧ v3 < 12) ∧ (0 ≤ (v2 + v3) ∧ (v2 + v3) < 260) ∧ True) rfl ⟨h73, h74, h75, trivial⟩ ?_
      refine bnd_elim (G := fun (M66 : Mm) => Aw z 40 [some (.inr 71), some (.inl x1), some (.inl v2), some (.inl v3)] [] M66) h (fun M66 h => ?_)
      obtain ⟨⟨h69, h70, h71, h72⟩, h⟩ := gd_elim h
      refine a_run (md qX5_image_ok) hz 12 [] (pc' := 57) (lv' := [some (.inr 71), some (.inl x1), some (.inl v2), some (.inl v3)]) (st' := []) (M' := (up M66 89 ((v2 + (12 : Int)) + v3).toNat (M66 73 v3.toNat))) (P := (inR (v2 + (12 : Int))) ∧ (inR ((v2 + (12 : Int)) + v3)) ∧ (0 ≤ v3 ∧ v3 < 12) ∧ (0 ≤ ((v2 + (12 : Int)) + v3) ∧ ((v2 + (12 : Int)) + v3) < 260) ∧ True) rfl ⟨h69, h70, h71, h72, trivial⟩ ?_
      refine bnd_elim (G := fun (M67 : Mm) => Aw z 57 [some (.inr 71), some (.inl x1), some (.inl v2), some (.inl v3)] [] M67) h (fun M67 h => ?_)
      obtain ⟨h68, h⟩ := gd_elim h
      refine a_run (md qX5_image_ok) hz 2 [] (pc' := 20) (lv' := [some (.inr 71), some (.inl x1), some (.inl v2), some (.inl (v3 + (1 : Int)))]) (st' := []) (M' := M67) (P := (inR (v3 + (1 : Int))) ∧ True) rfl ⟨h68, trivial⟩ ?_
      refine a_mask [true, true, true, true] ?_
      exact ih v2 (v3 + (1 : Int)) M67 h
set_option maxRecDepth 100000 in
theorem mX5_image (g : Gx) {M : Mm} {x1 : Int} {r : Int} {M2 : Mm} (h : fX5_image M x1 = some (r, M2)) : Ct g qX5_image [.inr 71, .inl x1] M (fun r' M' => r' = some r ∧ M' = M2) := by
  refine c_ofI h qX5_image_ok (Nat.le_of_ble_eq_true rfl) (fun z hz Q hR h => ?_)
  unfold fX5_image at h
  show Aw z 0 [some (.inr 71), some (.inl x1), none, none] [] M
  refine a_run (md qX5_image_ok) hz 3 [] (pc' := 3) (lv' := [some (.inr 71), some (.inl x1), none, none]) (st' := [.inl (1 : Int), .inl (0 : Int), .inl x1]) (M' := M) (P := True) rfl trivial ?_
  obtain ⟨r1, hr, h⟩ := cal_elim h
  refine a_fS (as := [.inl x1, .inl (0 : Int), .inl (1 : Int)]) (st := []) (mX5_in z.1 hr) (md qX5_image_ok) qX5_in_ok hz lkX5_76 rfl 3 0 (by decide +kernel) rfl rfl ?_
  show Aw z 6 [some (.inr 71), some (.inl x1), none, none] [.inl r1] M
  refine ite_elim h (fun hc h => ?_) (fun hc h => ?_)
  · refine a_run (md qX5_image_ok) hz 1 [0] (pc' := 9) (lv' := [some (.inr 71), some (.inl x1), none, none]) (st' := []) (M' := M) (P := (¬ ¬ r1 = 0) ∧ True) rfl ⟨fun h9 => h9 hc, trivial⟩ ?_
    refine a_run (md qX5_image_ok) hz 1 [] (pc' := 11) (lv' := [some (.inr 71), some (.inl x1), none, none]) (st' := [.inl (-2 : Int)]) (M' := M) (P := True) rfl trivial ?_
    exact a_ri (md qX5_image_ok) hz hR rfl (Or.inl rfl) h
  · refine a_run (md qX5_image_ok) hz 1 [1] (pc' := 12) (lv' := [some (.inr 71), some (.inl x1), none, none]) (st' := []) (M' := M) (P := (¬ r1 = 0) ∧ True) rfl ⟨hc, trivial⟩ ?_
    obtain ⟨h76, h⟩ := gd_elim h
    refine a_run (md qX5_image_ok) hz 6 [] (pc' := 20) (lv' := [some (.inr 71), some (.inl x1), some (.inl ((130 : Int) * x1)), some (.inl (0 : Int))]) (st' := []) (M' := M) (P := (inR ((130 : Int) * x1)) ∧ True) rfl ⟨h76, trivial⟩ ?_
    refine a_mask [true, true, true, true] ?_
    refine mX5_image_L20 hz hR (fun v5 M6 h => ?_) 1000 ((130 : Int) * x1) (0 : Int) M h
    · refine a_run (md qX5_image_ok) hz 2 [] (pc' := 65) (lv' := [some (.inr 71), some (.inl x1), some (.inl v5), some (.inl (0 : Int))]) (st' := []) (M' := M6) (P := True) rfl trivial ?_
      refine a_mask [true, true, true, true] ?_
      refine mX5_image_L65 hz hR (fun v10 M11 h => ?_) 1000 v5 (0 : Int) M6 h
      · refine a_run (md qX5_image_ok) hz 2 [] (pc' := 130) (lv' := [some (.inr 71), some (.inl x1), some (.inl v10), some (.inl (0 : Int))]) (st' := []) (M' := M11) (P := True) rfl trivial ?_
        refine a_mask [true, true, true, true] ?_
        refine mX5_image_L130 hz hR (fun v15 M16 h => ?_) 1000 v10 (0 : Int) M11 h
        · refine a_run (md qX5_image_ok) hz 2 [] (pc' := 178) (lv' := [some (.inr 71), some (.inl x1), some (.inl v15), some (.inl (0 : Int))]) (st' := []) (M' := M16) (P := True) rfl trivial ?_
          refine a_mask [true, true, true, true] ?_
          refine mX5_image_L178 hz hR (fun v20 M21 h => ?_) 1000 v15 (0 : Int) M16 h
          · obtain ⟨⟨h31, h32⟩, h⟩ := gd_elim h
            refine a_run (md qX5_image_ok) hz 8 [] (pc' := 219) (lv' := [some (.inr 71), some (.inl x1), some (.inl v20), none]) (st' := []) (M' := (up M21 89 (v20 + (120 : Int)).toNat (M21 71 2))) (P := (inR (v20 + (120 : Int))) ∧ (0 ≤ (v20 + (120 : Int)) ∧ (v20 + (120 : Int)) < 260) ∧ True) rfl ⟨h31, h32, trivial⟩ ?_
            refine bnd_elim (G := fun (M22 : Mm) => Aw z 219 [some (.inr 71), some (.inl x1), some (.inl v20), none] [] M22) h (fun M22 h => ?_)
            obtain ⟨⟨h29, h30⟩, h⟩ := gd_elim h
            refine a_run (md qX5_image_ok) hz 8 [] (pc' := 232) (lv' := [some (.inr 71), some (.inl x1), some (.inl v20), none]) (st' := []) (M' := (up M22 89 (v20 + (121 : Int)).toNat (M22 71 6))) (P := (inR (v20 + (121 : Int))) ∧ (0 ≤ (v20 + (121 : Int)) ∧ (v20 + (121 : Int)) < 260) ∧ True) rfl ⟨h29, h30, trivial⟩ ?_
            refine bnd_elim (G := fun (M23 : Mm) => Aw z 232 [some (.inr 71), some (.inl x1), some (.inl v20), none] [] M23) h (fun M23 h => ?_)
            obtain ⟨⟨h27, h28⟩, h⟩ := gd_elim h
            refine a_run (md qX5_image_ok) hz 8 [] (pc' := 245) (lv' := [some (.inr 71), some (.inl x1), some (.inl v20), none]) (st' := []) (M' := (up M23 89 (v20 + (122 : Int)).toNat (M23 71 10))) (P := (inR (v20 + (122 : Int))) ∧ (0 ≤ (v20 + (122 : Int)) ∧ (v20 + (122 : Int)) < 260) ∧ True) rfl ⟨h27, h28, trivial⟩ ?_
            refine bnd_elim (G := fun (M24 : Mm) => Aw z 245 [some (.inr 71), some (.inl x1), some (.inl v20), none] [] M24) h (fun M24 h => ?_)
            obtain ⟨h26, h⟩ := gd_elim h
            refine a_run (md qX5_image_ok) hz 5 [] (pc' := 252) (lv' := [some (.inr 71), some (.inl x1), some (.inl v20), none]) (st' := []) (M' := (up M24 90 x1.toNat (1 : Int))) (P := ((0 ≤ x1 ∧ x1 < 2) ∧ ((1 : Int) = 0 ∨ (1 : Int) = 1)) ∧ True) rfl ⟨h26, trivial⟩ ?_
            refine bnd_elim (G := fun (M25 : Mm) => Aw z 252 [some (.inr 71), some (.inl x1), some (.inl v20), none] [] M25) h (fun M25 h => ?_)
            refine a_run (md qX5_image_ok) hz 1 [] (pc' := 253) (lv' := [some (.inr 71), some (.inl x1), some (.inl v20), none]) (st' := [.inl (1 : Int)]) (M' := M25) (P := True) rfl trivial ?_
            exact a_ri (md qX5_image_ok) hz hR rfl (Or.inl rfl) h
def fX5_restore_L190 (x1 : Int) (k218 : Int → Mm → Option (Int × Mm)) : Nat → Int → Int → Mm → Option (Int × Mm)
  | 0, _, _, _ => none
  | n + 1, v17, v18, M19 => if (4 : Int) ≤ v18 then k218 v17 M19 else gd ((inR (v17 + (116 : Int))) ∧ (inR ((v17 + (116 : Int)) + v18)) ∧ (0 ≤ ((v17 + (116 : Int)) + v18) ∧ ((v17 + (116 : Int)) + v18) < 260) ∧ (0 ≤ v18 ∧ v18 < 4)) (bnd (up M19 77 v18.toNat (M19 89 ((v17 + (116 : Int)) + v18).toNat)) (fun (M31 : Mm) => gd ((inR (v18 + (1 : Int)))) (fX5_restore_L190 x1 k218 n v17 (v18 + (1 : Int)) M31)))
def fX5_restore_L142 (x1 : Int) (k188 : Int → Mm → Option (Int × Mm)) : Nat → Int → Int → Mm → Option (Int × Mm)
  | 0, _, _, _ => none
  | n + 1, v12, v13, M14 => if (16 : Int) ≤ v13 then k188 v12 M14 else gd ((inR (v12 + (84 : Int))) ∧ (inR ((v12 + (84 : Int)) + v13)) ∧ (0 ≤ ((v12 + (84 : Int)) + v13) ∧ ((v12 + (84 : Int)) + v13) < 260) ∧ (0 ≤ v13 ∧ v13 < 16)) (bnd (up M14 78 v13.toNat (M14 89 ((v12 + (84 : Int)) + v13).toNat)) (fun (M37 : Mm) => gd ((inR (v12 + (100 : Int))) ∧ (inR ((v12 + (100 : Int)) + v13)) ∧ (0 ≤ ((v12 + (100 : Int)) + v13) ∧ ((v12 + (100 : Int)) + v13) < 260) ∧ (0 ≤ v13 ∧ v13 < 16)) (bnd (up M37 79 v13.toNat (M37 89 ((v12 + (100 : Int)) + v13).toNat)) (fun (M38 : Mm) => gd ((inR (v13 + (1 : Int)))) (fX5_restore_L142 x1 k188 n v12 (v13 + (1 : Int)) M38)))))
def fX5_restore_L77 (x1 : Int) (k140 : Int → Mm → Option (Int × Mm)) : Nat → Int → Int → Mm → Option (Int × Mm)
  | 0, _, _, _ => none
  | n + 1, v7, v8, M9 => if (20 : Int) ≤ v8 then k140 v7 M9 else gd ((inR (v7 + (24 : Int))) ∧ (inR ((v7 + (24 : Int)) + v8)) ∧ (0 ≤ ((v7 + (24 : Int)) + v8) ∧ ((v7 + (24 : Int)) + v8) < 260) ∧ (0 ≤ v8 ∧ v8 < 20)) (bnd (up M9 74 v8.toNat (M9 89 ((v7 + (24 : Int)) + v8).toNat)) (fun (M48 : Mm) => gd ((inR (v7 + (44 : Int))) ∧ (inR ((v7 + (44 : Int)) + v8)) ∧ (0 ≤ ((v7 + (44 : Int)) + v8) ∧ ((v7 + (44 : Int)) + v8) < 260) ∧ (0 ≤ v8 ∧ v8 < 20)) (bnd (up M48 75 v8.toNat (M48 89 ((v7 + (44 : Int)) + v8).toNat)) (fun (M49 : Mm) => gd ((inR (v7 + (64 : Int))) ∧ (inR ((v7 + (64 : Int)) + v8)) ∧ (0 ≤ ((v7 + (64 : Int)) + v8) ∧ ((v7 + (64 : Int)) + v8) < 260) ∧ (0 ≤ v8 ∧ v8 < 20)) (bnd (up M49 76 v8.toNat (M49 89 ((v7 + (64 : Int)) + v8).toNat)) (fun (M50 : Mm) => gd ((inR (v8 + (1 : Int)))) (fX5_restore_L77 x1 k140 n v7 (v8 + (1 : Int)) M50)))))))
def fX5_restore_L32 (x1 : Int) (k75 : Int → Mm → Option (Int × Mm)) : Nat → Int → Int → Mm → Option (Int × Mm)
  | 0, _, _, _ => none
  | n + 1, v2, v3, M4 => if (12 : Int) ≤ v3 then k75 v2 M4 else gd ((inR (v2 + v3)) ∧ (0 ≤ (v2 + v3) ∧ (v2 + v3) < 260) ∧ (0 ≤ v3 ∧ v3 < 12)) (bnd (up M4 72 v3.toNat (M4 89 (v2 + v3).toNat)) (fun (M64 : Mm) => gd ((inR (v2 + (12 : Int))) ∧ (inR ((v2 + (12 : Int)) + v3)) ∧ (0 ≤ ((v2 + (12 : Int)) + v3) ∧ ((v2 + (12 : Int)) + v3) < 260) ∧ (0 ≤ v3 ∧ v3 < 12)) (bnd (up M64 73 v3.toNat (M64 89 ((v2 + (12 : Int)) + v3).toNat)) (fun (M65 : Mm) => gd ((inR (v3 + (1 : Int)))) (fX5_restore_L32 x1 k75 n v2 (v3 + (1 : Int)) M65)))))
def fX5_restore (M : Mm) (x1 : Int) : Option (Int × Mm) := cal (fX5_in M x1 (0 : Int) (1 : Int)) (fun (r1 : Int) => if r1 = 0 then some ((-2 : Int), M) else gd ((0 ≤ x1 ∧ x1 < 2)) (if (M 90 x1.toNat) = 0 then some ((-3 : Int), M) else gd ((inR ((130 : Int) * x1))) (fX5_restore_L32 x1 (fun (v5 : Int) (M6 : Mm) => fX5_restore_L77 x1 (fun (v10 : Int) (M11 : Mm) => fX5_restore_L142 x1 (fun (v15 : Int) (M16 : Mm) => fX5_restore_L190 x1 (fun (v20 : Int) (M21 : Mm) => gd ((inR (v20 + (120 : Int))) ∧ (0 ≤ (v20 + (120 : Int)) ∧ (v20 + (120 : Int)) < 260)) (bnd (up M21 71 2 (M21 89 (v20 + (120 : Int)).toNat)) (fun (M22 : Mm) => gd ((inR (v20 + (121 : Int))) ∧ (0 ≤ (v20 + (121 : Int)) ∧ (v20 + (121 : Int)) < 260)) (bnd (up M22 71 6 (M22 89 (v20 + (121 : Int)).toNat)) (fun (M23 : Mm) => gd ((inR (v20 + (122 : Int))) ∧ (0 ≤ (v20 + (122 : Int)) ∧ (v20 + (122 : Int)) < 260)) (bnd (up M23 71 10 (M23 89 (v20 + (122 : Int)).toNat)) (fun (M24 : Mm) => some ((1 : Int), M24)))))))) 1000 v15 (0 : Int) M16) 1000 v10 (0 : Int) M11) 1000 v5 (0 : Int) M6) 1000 ((130 : Int) * x1) (0 : Int) M)))
set_option maxRecDepth 100000 in
theorem mX5_restore_L190 {z : Zx} (hz : Cx qX5_restore z) {Q : Option Int → Mm → Prop} (hR : Rt Q z) {x1 : Int} {k218 : Int → Mm → Option (Int × Mm)} (hk218 : ∀ (v20 : Int), ∀ (M21 : Mm), OK (k218 v20 M21) (fun r2 => Q (some r2.1) r2.2) → Aw z 218 [some (.inr 71), none, some (.inl v20), none] [] M21) : ∀ (n : Nat) (v17 : Int) (v18 : Int) (M19 : Mm), OK (fX5_restore_L190 x1 k218 n v17 v18 M19) (fun r2 => Q (some r2.1) r2.2) → Aw z 190 [some (.inr 71), none, some (.inl v17), some (.inl v18)] [] M19 := by
  intro n
  induction n with
  | zero =>
    intro v17 v18 M19 h
    exact (show False from h).elim
  | succ n ih =>
    intro v17 v18 M19 h
    unfold fX5_restore_L190 at h
    refine ite_elim h (fun hc h => ?_) (fun hc h => ?_)
    · refine a_run (md qX5_restore_ok) hz 3 [1] (pc' := 218) (lv' := [some (.inr 71), none, some (.inl v17), some (.inl v18)]) (st' := []) (M' := M19) (P := ((4 : Int) ≤ v18) ∧ True) rfl ⟨hc, trivial⟩ ?_
      refine a_mask [true, false, true, false] ?_
      exact hk218 v17 M19 h
    · refine a_run (md qX5_restore_ok) hz 3 [0] (pc' := 195) (lv' := [some (.inr 71), none, some (.inl v17), some (.inl v18)]) (st' := []) (M' := M19) (P := (¬ ((4 : Int) ≤ v18)) ∧ True) rfl ⟨hc, trivial⟩ ?_
      obtain ⟨⟨h33, h34, h35, h36⟩, h⟩ := gd_elim h
      refine a_run (md qX5_restore_ok) hz 12 [] (pc' := 212) (lv' := [some (.inr 71), none, some (.inl v17), some (.inl v18)]) (st' := []) (M' := (up M19 77 v18.toNat (M19 89 ((v17 + (116 : Int)) + v18).toNat))) (P := (inR (v17 + (116 : Int))) ∧ (inR ((v17 + (116 : Int)) + v18)) ∧ (0 ≤ ((v17 + (116 : Int)) + v18) ∧ ((v17 + (116 : Int)) + v18) < 260) ∧ (0 ≤ v18 ∧ v18 < 4) ∧ True) rfl ⟨h33, h34, h35, h36, trivial⟩ ?_
      refine bnd_elim (G := fun (M31 : Mm) => Aw z 212 [some (.inr 71), none, some (.inl v17), some (.inl v18)] [] M31) h (fun M31 h => ?_)
      obtain ⟨h32, h⟩ := gd_elim h
      refine a_run (md qX5_restore_ok) hz 2 [] (pc' := 190) (lv' := [some (.inr 71), none, some (.inl v17), some (.inl (v18 + (1 : Int)))]) (st' := []) (M' := M31) (P := (inR (v18 + (1 : Int))) ∧ True) rfl ⟨h32, trivial⟩ ?_
      refine a_mask [true, false, true, true] ?_
      exact ih v17 (v18 + (1 : Int)) M31 h
set_option maxRecDepth 100000 in
theorem mX5_restore_L142 {z : Zx} (hz : Cx qX5_restore z) {Q : Option Int → Mm → Prop} (hR : Rt Q z) {x1 : Int} {k188 : Int → Mm → Option (Int × Mm)} (hk188 : ∀ (v15 : Int), ∀ (M16 : Mm), OK (k188 v15 M16) (fun r2 => Q (some r2.1) r2.2) → Aw z 188 [some (.inr 71), none, some (.inl v15), none] [] M16) : ∀ (n : Nat) (v12 : Int) (v13 : Int) (M14 : Mm), OK (fX5_restore_L142 x1 k188 n v12 v13 M14) (fun r2 => Q (some r2.1) r2.2) → Aw z 142 [some (.inr 71), none, some (.inl v12), some (.inl v13)] [] M14 := by
  intro n
  induction n with
  | zero =>
    intro v12 v13 M14 h
    exact (show False from h).elim
  | succ n ih =>
    intro v12 v13 M14 h
    unfold fX5_restore_L142 at h
    refine ite_elim h (fun hc h => ?_) (fun hc h => ?_)
    · refine a_run (md qX5_restore_ok) hz 3 [1] (pc' := 188) (lv' := [some (.inr 71), none, some (.inl v12), some (.inl v13)]) (st' := []) (M' := M14) (P := ((16 : Int) ≤ v13) ∧ True) rfl ⟨hc, trivial⟩ ?_
      refine a_mask [true, false, true, false] ?_
      exact hk188 v12 M14 h
    · refine a_run (md qX5_restore_ok) hz 3 [0] (pc' := 148) (lv' := [some (.inr 71), none, some (.inl v12), some (.inl v13)]) (st' := []) (M' := M14) (P := (¬ ((16 : Int) ≤ v13)) ∧ True) rfl ⟨hc, trivial⟩ ?_
      obtain ⟨⟨h44, h45, h46, h47⟩, h⟩ := gd_elim h
      refine a_run (md qX5_restore_ok) hz 12 [] (pc' := 165) (lv' := [some (.inr 71), none, some (.inl v12), some (.inl v13)]) (st' := []) (M' := (up M14 78 v13.toNat (M14 89 ((v12 + (84 : Int)) + v13).toNat))) (P := (inR (v12 + (84 : Int))) ∧ (inR ((v12 + (84 : Int)) + v13)) ∧ (0 ≤ ((v12 + (84 : Int)) + v13) ∧ ((v12 + (84 : Int)) + v13) < 260) ∧ (0 ≤ v13 ∧ v13 < 16) ∧ True) rfl ⟨h44, h45, h46, h47, trivial⟩ ?_
      refine bnd_elim (G := fun (M37 : Mm) => Aw z 165 [some (.inr 71), none, some (.inl v12), some (.inl v13)] [] M37) h (fun M37 h => ?_)
      obtain ⟨⟨h40, h41, h42, h43⟩, h⟩ := gd_elim h
      refine a_run (md qX5_restore_ok) hz 12 [] (pc' := 182) (lv' := [some (.inr 71), none, some (.inl v12), some (.inl v13)]) (st' := []) (M' := (up M37 79 v13.toNat (M37 89 ((v12 + (100 : Int)) + v13).toNat))) (P := (inR (v12 + (100 : Int))) ∧ (inR ((v12 + (100 : Int)) + v13)) ∧ (0 ≤ ((v12 + (100 : Int)) + v13) ∧ ((v12 + (100 : Int)) + v13) < 260) ∧ (0 ≤ v13 ∧ v13 < 16) ∧ True) rfl ⟨h40, h41, h42, h43, trivial⟩ ?_
      refine bnd_elim (G := fun (M38 : Mm) => Aw z 182 [some (.inr 71), none, some (.inl v12), some (.inl v13)] [] M38) h (fun M38 h => ?_)
      obtain ⟨h39, h⟩ := gd_elim h
      refine a_run (md qX5_restore_ok) hz 2 [] (pc' := 142) (lv' := [some (.inr 71), none, some (.inl v12), some (.inl (v13 + (1 : Int)))]) (st' := []) (M' := M38) (P := (inR (v13 + (1 : Int))) ∧ True) rfl ⟨h39, trivial⟩ ?_
      refine a_mask [true, false, true, true] ?_
      exact ih v12 (v13 + (1 : Int)) M38 h
set_option maxRecDepth 100000 in
theorem mX5_restore_L77 {z : Zx} (hz : Cx qX5_restore z) {Q : Option Int → Mm → Prop} (hR : Rt Q z) {x1 : Int} {k140 : Int → Mm → Option (Int × Mm)} (hk140 : ∀ (v10 : Int), ∀ (M11 : Mm), OK (k140 v10 M11) (fun r2 => Q (some r2.1) r2.2) → Aw z 140 [some (.inr 71), none, some (.inl v10), none] [] M11) : ∀ (n : Nat) (v7 : Int) (v8 : Int) (M9 : Mm), OK (fX5_restore_L77 x1 k140 n v7 v8 M9) (fun r2 => Q (some r2.1) r2.2) → Aw z 77 [some (.inr 71), none, some (.inl v7), some (.inl v8)] [] M9 := by
  intro n
  induction n with
  | zero =>
    intro v7 v8 M9 h
    exact (show False from h).elim
  | succ n ih =>
    intro v7 v8 M9 h
    unfold fX5_restore_L77 at h
    refine ite_elim h (fun hc h => ?_) (fun hc h => ?_)
    · refine a_run (md qX5_restore_ok) hz 3 [1] (pc' := 140) (lv' := [some (.inr 71), none, some (.inl v7), some (.inl v8)]) (st' := []) (M' := M9) (P := ((20 : Int) ≤ v8) ∧ True) rfl ⟨hc, trivial⟩ ?_
      refine a_mask [true, false, true, false] ?_
      exact hk140 v7 M9 h
    · refine a_run (md qX5_restore_ok) hz 3 [0] (pc' := 83) (lv' := [some (.inr 71), none, some (.inl v7), some (.inl v8)]) (st' := []) (M' := M9) (P := (¬ ((20 : Int) ≤ v8)) ∧ True) rfl ⟨hc, trivial⟩ ?_
      obtain ⟨⟨h60, h61, h62, h63⟩, h⟩ := gd_elim h
      refine a_run (md qX5_restore_ok) hz 12 [] (pc' := 100) (lv' := [some (.inr 71), none, some (.inl v7), some (.inl v8)]) (st' := []) (M' := (up M9 74 v8.toNat (M9 89 ((v7 + (24 : Int)) + v8).toNat))) (P := (inR (v7 + (24 : Int))) ∧ (inR ((v7 + (24 : Int)) + v8)) ∧ (0 ≤ ((v7 + (24 : Int)) + v8) ∧ ((v7 + (24 : Int)) + v8) < 260) ∧ (0 ≤ v8 ∧ v8 < 20) ∧ True) rfl ⟨h60, h61, h62, h63, trivial⟩ ?_
      refine bnd_elim (G := fun (M48 : Mm) => Aw z 100 [some (.inr 71), none, some (.inl v7), some (.inl v8)] [] M48) h (fun M48 h => ?_)
      obtain ⟨⟨h56, h57, h58, h59⟩, h⟩ := gd_elim h
      refine a_run (md qX5_restore_ok) hz 12 [] (pc' := 117) (lv' := [some (.inr 71), none, some (.inl v7), some (.inl v8)]) (st' := []) (M' := (up M48 75 v8.toNat (M48 89 ((v7 + (44 : Int)) + v8).toNat))) (P := (inR (v7 + (44 : Int))) ∧ (inR ((v7 + (44 : Int)) + v8)) ∧ (0 ≤ ((v7 + (44 : Int)) + v8) ∧ ((v7 + (44 : Int)) + v8) < 260) ∧ (0 ≤ v8 ∧ v8 < 20) ∧ True) rfl ⟨h56, h57, h58, h59, trivial⟩ ?_
      refine bnd_elim (G := fun (M49 : Mm) => Aw z 117 [some (.inr 71), none, some (.inl v7), some (.inl v8)] [] M49) h (fun M49 h => ?_)
      obtain ⟨⟨h52, h53, h54, h55⟩, h⟩ := gd_elim h
      refine a_run (md qX5_restore_ok) hz 12 [] (pc' := 134) (lv' := [some (.inr 71), none, some (.inl v7), some (.inl v8)]) (st' := []) (M' := (up M49 76 v8.toNat (M49 89 ((v7 + (64 : Int)) + v8).toNat))) (P := (inR (v7 + (64 : Int))) ∧ (inR ((v7 + (64 : Int)) + v8)) ∧ (0 ≤ ((v7 + (64 : Int)) + v8) ∧ ((v7 + (64 : Int)) + v8) < 260) ∧ (0 ≤ v8 ∧ v8 < 20) ∧ True) rfl ⟨h52, h53, h54, h55, trivial⟩ ?_
      refine bnd_elim (G := fun (M50 : Mm) => Aw z 134 [some (.inr 71), none, some (.inl v7), some (.inl v8)] [] M50) h (fun M50 h => ?_)
      obtain ⟨h51, h⟩ := gd_elim h
      refine a_run (md qX5_restore_ok) hz 2 [] (pc' := 77) (lv' := [some (.inr 71), none, some (.inl v7), some (.inl (v8 + (1 : Int)))]) (st' := []) (M' := M50) (P := (inR (v8 + (1 : Int))) ∧ True) rfl ⟨h51, trivial⟩ ?_
      refine a_mask [true, false, true, true] ?_
      exact ih v7 (v8 + (1 : Int)) M50 h
set_option maxRecDepth 100000 in
theorem mX5_restore_L32 {z : Zx} (hz : Cx qX5_restore z) {Q : Option Int → Mm → Prop} (hR : Rt Q z) {x1 : Int} {k75 : Int → Mm → Option (Int × Mm)} (hk75 : ∀ (v5 : Int), ∀ (M6 : Mm), OK (k75 v5 M6) (fun r2 => Q (some r2.1) r2.2) → Aw z 75 [some (.inr 71), none, some (.inl v5), none] [] M6) : ∀ (n : Nat) (v2 : Int) (v3 : Int) (M4 : Mm), OK (fX5_restore_L32 x1 k75 n v2 v3 M4) (fun r2 => Q (some r2.1) r2.2) → Aw z 32 [some (.inr 71), none, some (.inl v2), some (.inl v3)] [] M4 := by
  intro n
  induction n with
  | zero =>
    intro v2 v3 M4 h
    exact (show False from h).elim
  | succ n ih =>
    intro v2 v3 M4 h
    unfold fX5_restore_L32 at h
    refine ite_elim h (fun hc h => ?_) (fun hc h => ?_)
    · refine a_run (md qX5_restore_ok) hz 3 [1] (pc' := 75) (lv' := [some (.inr 71), none, some (.inl v2), some (.inl v3)]) (st' := []) (M' := M4) (P := ((12 : Int) ≤ v3) ∧ True) rfl ⟨hc, trivial⟩ ?_
      refine a_mask [true, false, true, false] ?_
      exact hk75 v2 M4 h
    · refine a_run (md qX5_restore_ok) hz 3 [0] (pc' := 38) (lv' := [some (.inr 71), none, some (.inl v2), some (.inl v3)]) (st' := []) (M' := M4) (P := (¬ ((12 : Int) ≤ v3)) ∧ True) rfl ⟨hc, trivial⟩ ?_
      obtain ⟨⟨h71, h72, h73⟩, h⟩ := gd_elim h
      refine a_run (md qX5_restore_ok) hz 10 [] (pc' := 52) (lv' := [some (.inr 71), none, some (.inl v2), some (.inl v3)]) (st' := []) (M' := (up M4 72 v3.toNat (M4 89 (v2 + v3).toNat))) (P := (inR (v2 + v3)) ∧ (0 ≤ (v2 + v3) ∧ (v2 + v3) < 260) ∧ (0 ≤ v3 ∧ v3 < 12) ∧ True) rfl ⟨h71, h72, h73, trivial⟩ ?_
      refine bnd_elim (G := fun (M64 : Mm) => Aw z 52 [some (.inr 71), none, some (.inl v2), some (.inl v3)] [] M64) h (fun M64 h => ?_)
      obtain ⟨⟨h67, h68, h69, h70⟩, h⟩ := gd_elim h
      refine a_run (md qX5_restore_ok) hz 12 [] (pc' := 69) (lv' := [some (.inr 71), none, some (.inl v2), some (.inl v3)]) (st' := []) (M' := (up M64 73 v3.toNat (M64 89 ((v2 + (12 : Int)) + v3).toNat))) (P := (inR (v2 + (12 : Int))) ∧ (inR ((v2 + (12 : Int)) + v3)) ∧ (0 ≤ ((v2 + (12 : Int)) + v3) ∧ ((v2 + (12 : Int)) + v3) < 260) ∧ (0 ≤ v3 ∧ v3 < 12) ∧ True) rfl ⟨h67, h68, h69, h70, trivial⟩ ?_
      refine bnd_elim (G := fun (M65 : Mm) => Aw z 69 [some (.inr 71), none, some (.inl v2), some (.inl v3)] [] M65) h (fun M65 h => ?_)
      obtain ⟨h66, h⟩ := gd_elim h
      refine a_run (md qX5_restore_ok) hz 2 [] (pc' := 32) (lv' := [some (.inr 71), none, some (.inl v2), some (.inl (v3 + (1 : Int)))]) (st' := []) (M' := M65) (P := (inR (v3 + (1 : Int))) ∧ True) rfl ⟨h66, trivial⟩ ?_
      refine a_mask [true, false, true, true] ?_
      exact ih v2 (v3 + (1 : Int)) M65 h
set_option maxRecDepth 100000 in
theorem mX5_restore (g : Gx) {M : Mm} {x1 : Int} {r : Int} {M2 : Mm} (h : fX5_restore M x1 = some (r, M2)) : Ct g qX5_restore [.inr 71, .inl x1] M (fun r' M' => r' = some r ∧ M' = M2) := by
  refine c_ofI h qX5_restore_ok (Nat.le_of_ble_eq_true rfl) (fun z hz Q hR h => ?_)
  unfold fX5_restore at h
  show Aw z 0 [some (.inr 71), some (.inl x1), none, none] [] M
  refine a_run (md qX5_restore_ok) hz 3 [] (pc' := 3) (lv' := [some (.inr 71), some (.inl x1), none, none]) (st' := [.inl (1 : Int), .inl (0 : Int), .inl x1]) (M' := M) (P := True) rfl trivial ?_
  obtain ⟨r1, hr, h⟩ := cal_elim h
  refine a_fS (as := [.inl x1, .inl (0 : Int), .inl (1 : Int)]) (st := []) (mX5_in z.1 hr) (md qX5_restore_ok) qX5_in_ok hz lkX5_76 rfl 3 0 (by decide +kernel) rfl rfl ?_
  show Aw z 6 [some (.inr 71), some (.inl x1), none, none] [.inl r1] M
  refine ite_elim h (fun hc h => ?_) (fun hc h => ?_)
  · refine a_run (md qX5_restore_ok) hz 1 [0] (pc' := 9) (lv' := [some (.inr 71), some (.inl x1), none, none]) (st' := []) (M' := M) (P := (¬ ¬ r1 = 0) ∧ True) rfl ⟨fun h9 => h9 hc, trivial⟩ ?_
    refine a_run (md qX5_restore_ok) hz 1 [] (pc' := 11) (lv' := [some (.inr 71), some (.inl x1), none, none]) (st' := [.inl (-2 : Int)]) (M' := M) (P := True) rfl trivial ?_
    exact a_ri (md qX5_restore_ok) hz hR rfl (Or.inl rfl) h
  · refine a_run (md qX5_restore_ok) hz 1 [1] (pc' := 12) (lv' := [some (.inr 71), some (.inl x1), none, none]) (st' := []) (M' := M) (P := (¬ r1 = 0) ∧ True) rfl ⟨hc, trivial⟩ ?_
    obtain ⟨h75, h⟩ := gd_elim h
    refine ite_elim h (fun hc h => ?_) (fun hc h => ?_)
    · refine a_run (md qX5_restore_ok) hz 5 [0] (pc' := 21) (lv' := [some (.inr 71), some (.inl x1), none, none]) (st' := []) (M' := M) (P := (0 ≤ x1 ∧ x1 < 2) ∧ (¬ ¬ (M 90 x1.toNat) = 0) ∧ True) rfl ⟨h75, fun h9 => h9 hc, trivial⟩ ?_
      refine a_run (md qX5_restore_ok) hz 1 [] (pc' := 23) (lv' := [some (.inr 71), some (.inl x1), none, none]) (st' := [.inl (-3 : Int)]) (M' := M) (P := True) rfl trivial ?_
      exact a_ri (md qX5_restore_ok) hz hR rfl (Or.inl rfl) h
    · refine a_run (md qX5_restore_ok) hz 5 [1] (pc' := 24) (lv' := [some (.inr 71), some (.inl x1), none, none]) (st' := []) (M' := M) (P := (0 ≤ x1 ∧ x1 < 2) ∧ (¬ (M 90 x1.toNat) = 0) ∧ True) rfl ⟨h75, hc, trivial⟩ ?_
      obtain ⟨h74, h⟩ := gd_elim h
      refine a_run (md qX5_restore_ok) hz 6 [] (pc' := 32) (lv' := [some (.inr 71), some (.inl x1), some (.inl ((130 : Int) * x1)), some (.inl (0 : Int))]) (st' := []) (M' := M) (P := (inR ((130 : Int) * x1)) ∧ True) rfl ⟨h74, trivial⟩ ?_
      refine a_mask [true, false, true, true] ?_
      refine mX5_restore_L32 hz hR (fun v5 M6 h => ?_) 1000 ((130 : Int) * x1) (0 : Int) M h
      · refine a_run (md qX5_restore_ok) hz 2 [] (pc' := 77) (lv' := [some (.inr 71), none, some (.inl v5), some (.inl (0 : Int))]) (st' := []) (M' := M6) (P := True) rfl trivial ?_
        refine a_mask [true, false, true, true] ?_
        refine mX5_restore_L77 hz hR (fun v10 M11 h => ?_) 1000 v5 (0 : Int) M6 h
        · refine a_run (md qX5_restore_ok) hz 2 [] (pc' := 142) (lv' := [some (.inr 71), none, some (.inl v10), some (.inl (0 : Int))]) (st' := []) (M' := M11) (P := True) rfl trivial ?_
          refine a_mask [true, false, true, true] ?_
          refine mX5_restore_L142 hz hR (fun v15 M16 h => ?_) 1000 v10 (0 : Int) M11 h
          · refine a_run (md qX5_restore_ok) hz 2 [] (pc' := 190) (lv' := [some (.inr 71), none, some (.inl v15), some (.inl (0 : Int))]) (st' := []) (M' := M16) (P := True) rfl trivial ?_
            refine a_mask [true, false, true, true] ?_
            refine mX5_restore_L190 hz hR (fun v20 M21 h => ?_) 1000 v15 (0 : Int) M16 h
            · obtain ⟨⟨h29, h30⟩, h⟩ := gd_elim h
              refine a_run (md qX5_restore_ok) hz 8 [] (pc' := 231) (lv' := [some (.inr 71), none, some (.inl v20), none]) (st' := []) (M' := (up M21 71 2 (M21 89 (v20 + (120 : Int)).toNat))) (P := (inR (v20 + (120 : Int))) ∧ (0 ≤ (v20 + (120 : Int)) ∧ (v20 + (120 : Int)) < 260) ∧ True) rfl ⟨h29, h30, trivial⟩ ?_
              refine bnd_elim (G := fun (M22 : Mm) => Aw z 231 [some (.inr 71), none, some (.inl v20), none] [] M22) h (fun M22 h => ?_)
              obtain ⟨⟨h27, h28⟩, h⟩ := gd_elim h
              refine a_run (md qX5_restore_ok) hz 8 [] (pc' := 244) (lv' := [some (.inr 71), none, some (.inl v20), none]) (st' := []) (M' := (up M22 71 6 (M22 89 (v20 + (121 : Int)).toNat))) (P := (inR (v20 + (121 : Int))) ∧ (0 ≤ (v20 + (121 : Int)) ∧ (v20 + (121 : Int)) < 260) ∧ True) rfl ⟨h27, h28, trivial⟩ ?_
              refine bnd_elim (G := fun (M23 : Mm) => Aw z 244 [some (.inr 71), none, some (.inl v20), none] [] M23) h (fun M23 h => ?_)
              obtain ⟨⟨h25, h26⟩, h⟩ := gd_elim h
              refine a_run (md qX5_restore_ok) hz 8 [] (pc' := 257) (lv' := [some (.inr 71), none, some (.inl v20), none]) (st' := []) (M' := (up M23 71 10 (M23 89 (v20 + (122 : Int)).toNat))) (P := (inR (v20 + (122 : Int))) ∧ (0 ≤ (v20 + (122 : Int)) ∧ (v20 + (122 : Int)) < 260) ∧ True) rfl ⟨h25, h26, trivial⟩ ?_
              refine bnd_elim (G := fun (M24 : Mm) => Aw z 257 [some (.inr 71), none, some (.inl v20), none] [] M24) h (fun M24 h => ?_)
              refine a_run (md qX5_restore_ok) hz 1 [] (pc' := 258) (lv' := [some (.inr 71), none, some (.inl v20), none]) (st' := [.inl (1 : Int)]) (M' := M24) (P := True) rfl trivial ?_
              exact a_ri (md qX5_restore_ok) hz hR rfl (Or.inl rfl) h
def fX5_told (M : Mm) (x1 : Int) : Option (Int) := if x1 < (300 : Int) then if x1 < (200 : Int) then if x1 < (100 : Int) then if x1 = 0 then some (M 71 2) else if x1 = 1 then some (M 71 6) else if x1 = 2 then some (M 71 10) else cal (fX5_in M x1 (3 : Int) (6 : Int)) (fun (r1 : Int) => if r1 = 0 then some (-2 : Int) else gd ((inR (x1 - (3 : Int))) ∧ (0 ≤ (x1 - (3 : Int)) ∧ (x1 - (3 : Int)) < 4)) (some (M 77 (x1 - (3 : Int)).toNat))) else gd ((inR (x1 - (100 : Int)))) (cal (fX5_isCrossing M (x1 - (100 : Int))) (fun (r4 : Int) => if r4 = 0 then some (-2 : Int) else gd ((0 ≤ (x1 - (100 : Int)) ∧ (x1 - (100 : Int)) < 12) ∧ (inR ((100 : Int) * (M 72 (x1 - (100 : Int)).toNat))) ∧ (0 ≤ (x1 - (100 : Int)) ∧ (x1 - (100 : Int)) < 12) ∧ (inR (((100 : Int) * (M 72 (x1 - (100 : Int)).toNat)) + (M 73 (x1 - (100 : Int)).toNat)))) (some (((100 : Int) * (M 72 (x1 - (100 : Int)).toNat)) + (M 73 (x1 - (100 : Int)).toNat))))) else gd ((inR (x1 - (200 : Int))) ∧ (inR ((M 71 6) - (1 : Int)))) (cal (fX5_in M (x1 - (200 : Int)) (0 : Int) ((M 71 6) - (1 : Int))) (fun (r10 : Int) => if r10 = 0 then some (-2 : Int) else gd ((0 ≤ (x1 - (200 : Int)) ∧ (x1 - (200 : Int)) < 20) ∧ (inR ((1000 : Int) * (M 74 (x1 - (200 : Int)).toNat))) ∧ (0 ≤ (x1 - (200 : Int)) ∧ (x1 - (200 : Int)) < 20) ∧ (inR ((10 : Int) * (M 75 (x1 - (200 : Int)).toNat))) ∧ (inR (((1000 : Int) * (M 74 (x1 - (200 : Int)).toNat)) + ((10 : Int) * (M 75 (x1 - (200 : Int)).toNat)))) ∧ (0 ≤ (x1 - (200 : Int)) ∧ (x1 - (200 : Int)) < 20) ∧ (inR ((((1000 : Int) * (M 74 (x1 - (200 : Int)).toNat)) + ((10 : Int) * (M 75 (x1 - (200 : Int)).toNat))) + (M 76 (x1 - (200 : Int)).toNat)))) (some ((((1000 : Int) * (M 74 (x1 - (200 : Int)).toNat)) + ((10 : Int) * (M 75 (x1 - (200 : Int)).toNat))) + (M 76 (x1 - (200 : Int)).toNat))))) else gd ((inR (x1 - (300 : Int)))) (cal (fX5_isFix M (x1 - (300 : Int))) (fun (r20 : Int) => if r20 = 0 then some (-2 : Int) else gd ((0 ≤ (x1 - (300 : Int)) ∧ (x1 - (300 : Int)) < 16) ∧ (inR ((100 : Int) * (M 78 (x1 - (300 : Int)).toNat))) ∧ (0 ≤ (x1 - (300 : Int)) ∧ (x1 - (300 : Int)) < 16) ∧ (inR (((100 : Int) * (M 78 (x1 - (300 : Int)).toNat)) + (M 79 (x1 - (300 : Int)).toNat)))) (some (((100 : Int) * (M 78 (x1 - (300 : Int)).toNat)) + (M 79 (x1 - (300 : Int)).toNat)))))
set_option maxRecDepth 100000 in
theorem mX5_told (g : Gx) {M : Mm} {x1 : Int} {r : Int} (h : fX5_told M x1 = some r) : Ct g qX5_told [.inr 71, .inl x1] M (fun r' M' => r' = some r ∧ M' = M) := by
  refine c_ofP h qX5_told_ok (Nat.le_of_ble_eq_true rfl) (fun z hz Q hR h => ?_)
  unfold fX5_told at h
  show Aw z 0 [some (.inr 71), some (.inl x1), none] [] M
  refine ite_elim h (fun hc h => ?_) (fun hc h => ?_)
  · refine a_run (md qX5_told_ok) hz 3 [1] (pc' := 43) (lv' := [some (.inr 71), some (.inl x1), none]) (st' := []) (M' := M) (P := (x1 < (300 : Int)) ∧ True) rfl ⟨hc, trivial⟩ ?_
    refine ite_elim h (fun hc h => ?_) (fun hc h => ?_)
    · refine a_run (md qX5_told_ok) hz 3 [1] (pc' := 103) (lv' := [some (.inr 71), some (.inl x1), none]) (st' := []) (M' := M) (P := (x1 < (200 : Int)) ∧ True) rfl ⟨hc, trivial⟩ ?_
      refine ite_elim h (fun hc h => ?_) (fun hc h => ?_)
      · refine a_run (md qX5_told_ok) hz 3 [1] (pc' := 144) (lv' := [some (.inr 71), some (.inl x1), none]) (st' := []) (M' := M) (P := (x1 < (100 : Int)) ∧ True) rfl ⟨hc, trivial⟩ ?_
        refine ite_elim h (fun hs0 h => ?_) (fun hs0 h => ?_)
        · refine a_run (md qX5_told_ok) hz 2 [0] (pc' := 172) (lv' := [some (.inr 71), some (.inl x1), none]) (st' := []) (M' := M) (P := (x1 = (0 : Int) + ((0 : Nat) : Int)) ∧ True) rfl ⟨hs0.trans (by decide), trivial⟩ ?_
          refine a_run (md qX5_told_ok) hz 2 [] (pc' := 176) (lv' := [some (.inr 71), some (.inl x1), none]) (st' := [.inl (M 71 2)]) (M' := M) (P := True) rfl trivial ?_
          exact a_ri (md qX5_told_ok) hz hR rfl (Or.inl rfl) h
        · refine ite_elim h (fun hs1 h => ?_) (fun hs1 h => ?_)
          · refine a_run (md qX5_told_ok) hz 2 [1] (pc' := 177) (lv' := [some (.inr 71), some (.inl x1), none]) (st' := []) (M' := M) (P := (x1 = (0 : Int) + ((1 : Nat) : Int)) ∧ True) rfl ⟨hs1.trans (by decide), trivial⟩ ?_
            refine a_run (md qX5_told_ok) hz 2 [] (pc' := 181) (lv' := [some (.inr 71), some (.inl x1), none]) (st' := [.inl (M 71 6)]) (M' := M) (P := True) rfl trivial ?_
            exact a_ri (md qX5_told_ok) hz hR rfl (Or.inl rfl) h
          · refine ite_elim h (fun hs2 h => ?_) (fun hs2 h => ?_)
            · refine a_run (md qX5_told_ok) hz 2 [2] (pc' := 182) (lv' := [some (.inr 71), some (.inl x1), none]) (st' := []) (M' := M) (P := (x1 = (0 : Int) + ((2 : Nat) : Int)) ∧ True) rfl ⟨hs2.trans (by decide), trivial⟩ ?_
              refine a_run (md qX5_told_ok) hz 2 [] (pc' := 186) (lv' := [some (.inr 71), some (.inl x1), none]) (st' := [.inl (M 71 10)]) (M' := M) (P := True) rfl trivial ?_
              exact a_ri (md qX5_told_ok) hz hR rfl (Or.inl rfl) h
            · refine a_run (md qX5_told_ok) hz 2 [3] (pc' := 187) (lv' := [some (.inr 71), some (.inl x1), none]) (st' := []) (M' := M) (P := (x1 < (0 : Int) ∨ (2 : Int) < x1) ∧ True) rfl ⟨by omega, trivial⟩ ?_
              refine a_run (md qX5_told_ok) hz 3 [] (pc' := 191) (lv' := [some (.inr 71), some (.inl x1), none]) (st' := [.inl (6 : Int), .inl (3 : Int), .inl x1]) (M' := M) (P := True) rfl trivial ?_
              obtain ⟨r1, hr, h⟩ := cal_elim h
              refine a_fS (as := [.inl x1, .inl (3 : Int), .inl (6 : Int)]) (st := []) (mX5_in z.1 hr) (md qX5_told_ok) qX5_in_ok hz lkX5_76 rfl 3 0 (by decide +kernel) rfl rfl ?_
              show Aw z 194 [some (.inr 71), some (.inl x1), none] [.inl r1] M
              refine ite_elim h (fun hc h => ?_) (fun hc h => ?_)
              · refine a_run (md qX5_told_ok) hz 1 [1] (pc' := 208) (lv' := [some (.inr 71), some (.inl x1), none]) (st' := []) (M' := M) (P := (r1 = 0) ∧ True) rfl ⟨hc, trivial⟩ ?_
                refine a_run (md qX5_told_ok) hz 1 [] (pc' := 210) (lv' := [some (.inr 71), some (.inl x1), none]) (st' := [.inl (-2 : Int)]) (M' := M) (P := True) rfl trivial ?_
                exact a_ri (md qX5_told_ok) hz hR rfl (Or.inl rfl) h
              · refine a_run (md qX5_told_ok) hz 1 [0] (pc' := 197) (lv' := [some (.inr 71), some (.inl x1), none]) (st' := []) (M' := M) (P := (¬ (r1 = 0)) ∧ True) rfl ⟨hc, trivial⟩ ?_
                obtain ⟨⟨h2, h3⟩, h⟩ := gd_elim h
                refine a_run (md qX5_told_ok) hz 7 [] (pc' := 210) (lv' := [some (.inr 71), some (.inl x1), none]) (st' := [.inl (M 77 (x1 - (3 : Int)).toNat)]) (M' := M) (P := (inR (x1 - (3 : Int))) ∧ (0 ≤ (x1 - (3 : Int)) ∧ (x1 - (3 : Int)) < 4) ∧ True) rfl ⟨h2, h3, trivial⟩ ?_
                exact a_ri (md qX5_told_ok) hz hR rfl (Or.inl rfl) h
      · refine a_run (md qX5_told_ok) hz 3 [0] (pc' := 109) (lv' := [some (.inr 71), some (.inl x1), none]) (st' := []) (M' := M) (P := (¬ (x1 < (100 : Int))) ∧ True) rfl ⟨hc, trivial⟩ ?_
        obtain ⟨h9, h⟩ := gd_elim h
        refine a_run (md qX5_told_ok) hz 6 [] (pc' := 116) (lv' := [some (.inr 71), some (.inl x1), some (.inl (x1 - (100 : Int)))]) (st' := [.inl (x1 - (100 : Int)), .inr 71]) (M' := M) (P := (inR (x1 - (100 : Int))) ∧ True) rfl ⟨h9, trivial⟩ ?_
        obtain ⟨r4, hr, h⟩ := cal_elim h
        refine a_fV (as := [.inl (x1 - (100 : Int))]) (a := 71) (st := []) (mX5_isCrossing z.1 hr) (md qX5_told_ok) qX5_isCrossing_ok hz lkX5_83 rfl 1 0 (by decide +kernel) rfl rfl rfl rfl ?_
        show Aw z 119 [some (.inr 71), some (.inl x1), some (.inl (x1 - (100 : Int)))] [.inl r4] M
        refine ite_elim h (fun hc h => ?_) (fun hc h => ?_)
        · refine a_run (md qX5_told_ok) hz 1 [1] (pc' := 141) (lv' := [some (.inr 71), some (.inl x1), some (.inl (x1 - (100 : Int)))]) (st' := []) (M' := M) (P := (r4 = 0) ∧ True) rfl ⟨hc, trivial⟩ ?_
          refine a_run (md qX5_told_ok) hz 1 [] (pc' := 143) (lv' := [some (.inr 71), some (.inl x1), some (.inl (x1 - (100 : Int)))]) (st' := [.inl (-2 : Int)]) (M' := M) (P := True) rfl trivial ?_
          exact a_ri (md qX5_told_ok) hz hR rfl (Or.inl rfl) h
        · refine a_run (md qX5_told_ok) hz 1 [0] (pc' := 122) (lv' := [some (.inr 71), some (.inl x1), some (.inl (x1 - (100 : Int)))]) (st' := []) (M' := M) (P := (¬ (r4 = 0)) ∧ True) rfl ⟨hc, trivial⟩ ?_
          obtain ⟨⟨h5, h6, h7, h8⟩, h⟩ := gd_elim h
          refine a_run (md qX5_told_ok) hz 12 [] (pc' := 143) (lv' := [some (.inr 71), some (.inl x1), some (.inl (x1 - (100 : Int)))]) (st' := [.inl (((100 : Int) * (M 72 (x1 - (100 : Int)).toNat)) + (M 73 (x1 - (100 : Int)).toNat))]) (M' := M) (P := (0 ≤ (x1 - (100 : Int)) ∧ (x1 - (100 : Int)) < 12) ∧ (inR ((100 : Int) * (M 72 (x1 - (100 : Int)).toNat))) ∧ (0 ≤ (x1 - (100 : Int)) ∧ (x1 - (100 : Int)) < 12) ∧ (inR (((100 : Int) * (M 72 (x1 - (100 : Int)).toNat)) + (M 73 (x1 - (100 : Int)).toNat))) ∧ True) rfl ⟨h5, h6, h7, h8, trivial⟩ ?_
          exact a_ri (md qX5_told_ok) hz hR rfl (Or.inl rfl) h
    · refine a_run (md qX5_told_ok) hz 3 [0] (pc' := 50) (lv' := [some (.inr 71), some (.inl x1), none]) (st' := []) (M' := M) (P := (¬ (x1 < (200 : Int))) ∧ True) rfl ⟨hc, trivial⟩ ?_
      obtain ⟨⟨h18, h19⟩, h⟩ := gd_elim h
      refine a_run (md qX5_told_ok) hz 10 [] (pc' := 64) (lv' := [some (.inr 71), some (.inl x1), some (.inl (x1 - (200 : Int)))]) (st' := [.inl ((M 71 6) - (1 : Int)), .inl (0 : Int), .inl (x1 - (200 : Int))]) (M' := M) (P := (inR (x1 - (200 : Int))) ∧ (inR ((M 71 6) - (1 : Int))) ∧ True) rfl ⟨h18, h19, trivial⟩ ?_
      obtain ⟨r10, hr, h⟩ := cal_elim h
      refine a_fS (as := [.inl (x1 - (200 : Int)), .inl (0 : Int), .inl ((M 71 6) - (1 : Int))]) (st := []) (mX5_in z.1 hr) (md qX5_told_ok) qX5_in_ok hz lkX5_76 rfl 3 0 (by decide +kernel) rfl rfl ?_
      show Aw z 67 [some (.inr 71), some (.inl x1), some (.inl (x1 - (200 : Int)))] [.inl r10] M
      refine ite_elim h (fun hc h => ?_) (fun hc h => ?_)
      · refine a_run (md qX5_told_ok) hz 1 [1] (pc' := 100) (lv' := [some (.inr 71), some (.inl x1), some (.inl (x1 - (200 : Int)))]) (st' := []) (M' := M) (P := (r10 = 0) ∧ True) rfl ⟨hc, trivial⟩ ?_
        refine a_run (md qX5_told_ok) hz 1 [] (pc' := 102) (lv' := [some (.inr 71), some (.inl x1), some (.inl (x1 - (200 : Int)))]) (st' := [.inl (-2 : Int)]) (M' := M) (P := True) rfl trivial ?_
        exact a_ri (md qX5_told_ok) hz hR rfl (Or.inl rfl) h
      · refine a_run (md qX5_told_ok) hz 1 [0] (pc' := 70) (lv' := [some (.inr 71), some (.inl x1), some (.inl (x1 - (200 : Int)))]) (st' := []) (M' := M) (P := (¬ (r10 = 0)) ∧ True) rfl ⟨hc, trivial⟩ ?_
        obtain ⟨⟨h11, h12, h13, h14, h15, h16, h17⟩, h⟩ := gd_elim h
        refine a_run (md qX5_told_ok) hz 19 [] (pc' := 102) (lv' := [some (.inr 71), some (.inl x1), some (.inl (x1 - (200 : Int)))]) (st' := [.inl ((((1000 : Int) * (M 74 (x1 - (200 : Int)).toNat)) + ((10 : Int) * (M 75 (x1 - (200 : Int)).toNat))) + (M 76 (x1 - (200 : Int)).toNat))]) (M' := M) (P := (0 ≤ (x1 - (200 : Int)) ∧ (x1 - (200 : Int)) < 20) ∧ (inR ((1000 : Int) * (M 74 (x1 - (200 : Int)).toNat))) ∧ (0 ≤ (x1 - (200 : Int)) ∧ (x1 - (200 : Int)) < 20) ∧ (inR ((10 : Int) * (M 75 (x1 - (200 : Int)).toNat))) ∧ (inR (((1000 : Int) * (M 74 (x1 - (200 : Int)).toNat)) + ((10 : Int) * (M 75 (x1 - (200 : Int)).toNat)))) ∧ (0 ≤ (x1 - (200 : Int)) ∧ (x1 - (200 : Int)) < 20) ∧ (inR ((((1000 : Int) * (M 74 (x1 - (200 : Int)).toNat)) + ((10 : Int) * (M 75 (x1 - (200 : Int)).toNat))) + (M 76 (x1 - (200 : Int)).toNat))) ∧ True) rfl ⟨h11, h12, h13, h14, h15, h16, h17, trivial⟩ ?_
        exact a_ri (md qX5_told_ok) hz hR rfl (Or.inl rfl) h
  · refine a_run (md qX5_told_ok) hz 3 [0] (pc' := 7) (lv' := [some (.inr 71), some (.inl x1), none]) (st' := []) (M' := M) (P := (¬ (x1 < (300 : Int))) ∧ True) rfl ⟨hc, trivial⟩ ?_
    obtain ⟨h25, h⟩ := gd_elim h
    refine a_run (md qX5_told_ok) hz 6 [] (pc' := 15) (lv' := [some (.inr 71), some (.inl x1), some (.inl (x1 - (300 : Int)))]) (st' := [.inl (x1 - (300 : Int)), .inr 71]) (M' := M) (P := (inR (x1 - (300 : Int))) ∧ True) rfl ⟨h25, trivial⟩ ?_
    obtain ⟨r20, hr, h⟩ := cal_elim h
    refine a_fV (as := [.inl (x1 - (300 : Int))]) (a := 71) (st := []) (mX5_isFix z.1 hr) (md qX5_told_ok) qX5_isFix_ok hz lkX5_147 rfl 1 0 (by decide +kernel) rfl rfl rfl rfl ?_
    show Aw z 18 [some (.inr 71), some (.inl x1), some (.inl (x1 - (300 : Int)))] [.inl r20] M
    refine ite_elim h (fun hc h => ?_) (fun hc h => ?_)
    · refine a_run (md qX5_told_ok) hz 1 [1] (pc' := 40) (lv' := [some (.inr 71), some (.inl x1), some (.inl (x1 - (300 : Int)))]) (st' := []) (M' := M) (P := (r20 = 0) ∧ True) rfl ⟨hc, trivial⟩ ?_
      refine a_run (md qX5_told_ok) hz 1 [] (pc' := 42) (lv' := [some (.inr 71), some (.inl x1), some (.inl (x1 - (300 : Int)))]) (st' := [.inl (-2 : Int)]) (M' := M) (P := True) rfl trivial ?_
      exact a_ri (md qX5_told_ok) hz hR rfl (Or.inl rfl) h
    · refine a_run (md qX5_told_ok) hz 1 [0] (pc' := 21) (lv' := [some (.inr 71), some (.inl x1), some (.inl (x1 - (300 : Int)))]) (st' := []) (M' := M) (P := (¬ (r20 = 0)) ∧ True) rfl ⟨hc, trivial⟩ ?_
      obtain ⟨⟨h21, h22, h23, h24⟩, h⟩ := gd_elim h
      refine a_run (md qX5_told_ok) hz 12 [] (pc' := 42) (lv' := [some (.inr 71), some (.inl x1), some (.inl (x1 - (300 : Int)))]) (st' := [.inl (((100 : Int) * (M 78 (x1 - (300 : Int)).toNat)) + (M 79 (x1 - (300 : Int)).toNat))]) (M' := M) (P := (0 ≤ (x1 - (300 : Int)) ∧ (x1 - (300 : Int)) < 16) ∧ (inR ((100 : Int) * (M 78 (x1 - (300 : Int)).toNat))) ∧ (0 ≤ (x1 - (300 : Int)) ∧ (x1 - (300 : Int)) < 16) ∧ (inR (((100 : Int) * (M 78 (x1 - (300 : Int)).toNat)) + (M 79 (x1 - (300 : Int)).toNat))) ∧ True) rfl ⟨h21, h22, h23, h24, trivial⟩ ?_
      exact a_ri (md qX5_told_ok) hz hR rfl (Or.inl rfl) h
