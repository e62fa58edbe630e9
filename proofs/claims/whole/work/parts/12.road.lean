def fX4_isPlace (M : Mm) (x0 : Int) (x1 : Int) : Option (Int) := jn (some (0 : Int)) (fun (K1 : Option (Int)) => if x0 < 0 then K1 else if (63 : Int) < x0 then K1 else if x1 < 0 then K1 else if (63 : Int) < x1 then K1 else some (1 : Int))
set_option maxRecDepth 100000 in
theorem mX4_isPlace (g : Gx) {M : Mm} {x0 : Int} {x1 : Int} {r : Int} (h : fX4_isPlace M x0 x1 = some r) : Ct g qX4_isPlace [.inl x0, .inl x1] M (fun r' M' => r' = some r ∧ M' = M) := by
  refine c_ofP h qX4_isPlace_ok (Nat.le_of_ble_eq_true rfl) (fun z hz Q hR h => ?_)
  unfold fX4_isPlace at h
  show Aw z 0 [some (.inl x0), some (.inl x1)] [] M
  refine jn_elim h (fun (K1 : Option (Int)) => OK (K1) (fun r2 => Q (some r2) M) → Aw z 24 [none, none] [] M) (fun h => ?_) (fun K1 hK1 h => ?_)
  · refine a_run (md qX4_isPlace_ok) hz 1 [] (pc' := 25) (lv' := [none, none]) (st' := [.inl (0 : Int)]) (M' := M) (P := True) rfl trivial ?_
    exact a_ri (md qX4_isPlace_ok) hz hR rfl (Or.inr ⟨rfl, by decide⟩) h
  · refine ite_elim h (fun hc h => ?_) (fun hc h => ?_)
    · refine a_run (md qX4_isPlace_ok) hz 2 [1] (pc' := 24) (lv' := [some (.inl x0), some (.inl x1)]) (st' := []) (M' := M) (P := (x0 < 0) ∧ True) rfl ⟨hc, trivial⟩ ?_
      refine a_mask [false, false] ?_
      exact hK1  h
    · refine a_run (md qX4_isPlace_ok) hz 2 [0] (pc' := 4) (lv' := [some (.inl x0), some (.inl x1)]) (st' := []) (M' := M) (P := (¬ (x0 < 0)) ∧ True) rfl ⟨hc, trivial⟩ ?_
      refine ite_elim h (fun hc h => ?_) (fun hc h => ?_)
      · refine a_run (md qX4_isPlace_ok) hz 3 [1] (pc' := 24) (lv' := [some (.inl x0), some (.inl x1)]) (st' := []) (M' := M) (P := ((63 : Int) < x0) ∧ True) rfl ⟨hc, trivial⟩ ?_
        refine a_mask [false, false] ?_
        exact hK1  h
      · refine a_run (md qX4_isPlace_ok) hz 3 [0] (pc' := 10) (lv' := [some (.inl x0), some (.inl x1)]) (st' := []) (M' := M) (P := (¬ ((63 : Int) < x0)) ∧ True) rfl ⟨hc, trivial⟩ ?_
        refine ite_elim h (fun hc h => ?_) (fun hc h => ?_)
        · refine a_run (md qX4_isPlace_ok) hz 2 [1] (pc' := 24) (lv' := [some (.inl x0), some (.inl x1)]) (st' := []) (M' := M) (P := (x1 < 0) ∧ True) rfl ⟨hc, trivial⟩ ?_
          refine a_mask [false, false] ?_
          exact hK1  h
        · refine a_run (md qX4_isPlace_ok) hz 2 [0] (pc' := 14) (lv' := [some (.inl x0), some (.inl x1)]) (st' := []) (M' := M) (P := (¬ (x1 < 0)) ∧ True) rfl ⟨hc, trivial⟩ ?_
          refine ite_elim h (fun hc h => ?_) (fun hc h => ?_)
          · refine a_run (md qX4_isPlace_ok) hz 3 [1] (pc' := 24) (lv' := [some (.inl x0), some (.inl x1)]) (st' := []) (M' := M) (P := ((63 : Int) < x1) ∧ True) rfl ⟨hc, trivial⟩ ?_
            refine a_mask [false, false] ?_
            exact hK1  h
          · refine a_run (md qX4_isPlace_ok) hz 3 [0] (pc' := 20) (lv' := [some (.inl x0), some (.inl x1)]) (st' := []) (M' := M) (P := (¬ ((63 : Int) < x1)) ∧ True) rfl ⟨hc, trivial⟩ ?_
            refine a_run (md qX4_isPlace_ok) hz 2 [] (pc' := 25) (lv' := [some (.inl x0), some (.inl x1)]) (st' := [.inl (1 : Int)]) (M' := M) (P := True) rfl trivial ?_
            exact a_ri (md qX4_isPlace_ok) hz hR rfl (Or.inr ⟨rfl, by decide⟩) h
def fX4_crossing (M : Mm) (x1 : Int) (x2 : Int) : Option (Int × Mm) := cal (fX4_isPlace M x1 x2) (fun (r1 : Int) => if r1 = 0 then some ((-2 : Int), M) else if (M 13 2) ≤ 0 then cal (fX0_isTaken M x1 x2) (fun (r2 : Int) => if r2 = 0 then if (M 3 0) < (12 : Int) then cal (fX0_addCrossing M x1 x2) (fun (M3 : Mm) => some ((M3 3 0), M3)) else some ((-4 : Int), M) else some ((-5 : Int), M)) else some ((-3 : Int), M))
set_option maxRecDepth 100000 in
theorem mX4_crossing (g : Gx) {M : Mm} {x1 : Int} {x2 : Int} {r : Int} {M2 : Mm} (h : fX4_crossing M x1 x2 = some (r, M2)) : Ct g qX4_crossing [.inr 0, .inl x1, .inl x2] M (fun r' M' => r' = some r ∧ M' = M2) := by
  refine c_ofI h qX4_crossing_ok (Nat.le_of_ble_eq_true rfl) (fun z hz Q hR h => ?_)
  unfold fX4_crossing at h
  show Aw z 0 [some (.inr 0), some (.inl x1), some (.inl x2)] [] M
  refine a_run (md qX4_crossing_ok) hz 2 [] (pc' := 2) (lv' := [some (.inr 0), some (.inl x1), some (.inl x2)]) (st' := [.inl x2, .inl x1]) (M' := M) (P := True) rfl trivial ?_
  obtain ⟨r1, hr, h⟩ := cal_elim h
  refine a_fS (as := [.inl x1, .inl x2]) (st := []) (mX4_isPlace z.1 hr) (md qX4_crossing_ok) qX4_isPlace_ok hz lkX4_20 rfl 2 0 (by decide +kernel) rfl rfl ?_
  show Aw z 5 [some (.inr 0), some (.inl x1), some (.inl x2)] [.inl r1] M
  refine ite_elim h (fun hc h => ?_) (fun hc h => ?_)
  · refine a_run (md qX4_crossing_ok) hz 1 [0] (pc' := 8) (lv' := [some (.inr 0), some (.inl x1), some (.inl x2)]) (st' := []) (M' := M) (P := (¬ ¬ r1 = 0) ∧ True) rfl ⟨fun h9 => h9 hc, trivial⟩ ?_
    refine a_run (md qX4_crossing_ok) hz 1 [] (pc' := 10) (lv' := [some (.inr 0), some (.inl x1), some (.inl x2)]) (st' := [.inl (-2 : Int)]) (M' := M) (P := True) rfl trivial ?_
    exact a_ri (md qX4_crossing_ok) hz hR rfl (Or.inl rfl) h
  · refine a_run (md qX4_crossing_ok) hz 1 [1] (pc' := 11) (lv' := [some (.inr 0), some (.inl x1), some (.inl x2)]) (st' := []) (M' := M) (P := (¬ r1 = 0) ∧ True) rfl ⟨hc, trivial⟩ ?_
    refine ite_elim h (fun hc h => ?_) (fun hc h => ?_)
    · refine a_run (md qX4_crossing_ok) hz 5 [1] (pc' := 27) (lv' := [some (.inr 0), some (.inl x1), some (.inl x2)]) (st' := []) (M' := M) (P := ((M 13 2) ≤ 0) ∧ True) rfl ⟨hc, trivial⟩ ?_
      refine a_run (md qX4_crossing_ok) hz 5 [] (pc' := 36) (lv' := [some (.inr 0), some (.inl x1), some (.inl x2)]) (st' := [.inl x2, .inl x1, .inr 3]) (M' := M) (P := True) rfl trivial ?_
      obtain ⟨r2, hr, h⟩ := cal_elim h
      refine a_fV (as := [.inl x1, .inl x2]) (a := 3) (st := []) (mX0_isTaken z.1 hr) (md qX4_crossing_ok) qX0_isTaken_ok hz lkX4_38 rfl 2 0 (by decide +kernel) rfl rfl rfl rfl ?_
      show Aw z 39 [some (.inr 0), some (.inl x1), some (.inl x2)] [.inl r2] M
      refine ite_elim h (fun hc h => ?_) (fun hc h => ?_)
      · refine a_run (md qX4_crossing_ok) hz 1 [1] (pc' := 45) (lv' := [some (.inr 0), some (.inl x1), some (.inl x2)]) (st' := []) (M' := M) (P := (r2 = 0) ∧ True) rfl ⟨hc, trivial⟩ ?_
        refine ite_elim h (fun hc h => ?_) (fun hc h => ?_)
        · refine a_run (md qX4_crossing_ok) hz 6 [1] (pc' := 63) (lv' := [some (.inr 0), some (.inl x1), some (.inl x2)]) (st' := []) (M' := M) (P := ((M 3 0) < (12 : Int)) ∧ True) rfl ⟨hc, trivial⟩ ?_
          refine a_run (md qX4_crossing_ok) hz 5 [] (pc' := 72) (lv' := [some (.inr 0), some (.inl x1), some (.inl x2)]) (st' := [.inl x2, .inl x1, .inr 3]) (M' := M) (P := True) rfl trivial ?_
          obtain ⟨M3, hr, h⟩ := cal_elim h
          refine a_fV (as := [.inl x1, .inl x2]) (a := 3) (st := []) (mX0_addCrossing z.1 hr) (md qX4_crossing_ok) qX0_addCrossing_ok hz lkX4_46 rfl 2 0 (by decide +kernel) rfl rfl rfl rfl ?_
          show Aw z 75 [some (.inr 0), some (.inl x1), some (.inl x2)] [] M3
          refine a_run (md qX4_crossing_ok) hz 4 [] (pc' := 85) (lv' := [some (.inr 0), some (.inl x1), some (.inl x2)]) (st' := [.inl (M3 3 0)]) (M' := M3) (P := True) rfl trivial ?_
          exact a_ri (md qX4_crossing_ok) hz hR rfl (Or.inl rfl) h
        · refine a_run (md qX4_crossing_ok) hz 6 [0] (pc' := 60) (lv' := [some (.inr 0), some (.inl x1), some (.inl x2)]) (st' := []) (M' := M) (P := (¬ ((M 3 0) < (12 : Int))) ∧ True) rfl ⟨hc, trivial⟩ ?_
          refine a_run (md qX4_crossing_ok) hz 1 [] (pc' := 62) (lv' := [some (.inr 0), some (.inl x1), some (.inl x2)]) (st' := [.inl (-4 : Int)]) (M' := M) (P := True) rfl trivial ?_
          exact a_ri (md qX4_crossing_ok) hz hR rfl (Or.inl rfl) h
      · refine a_run (md qX4_crossing_ok) hz 1 [0] (pc' := 42) (lv' := [some (.inr 0), some (.inl x1), some (.inl x2)]) (st' := []) (M' := M) (P := (¬ (r2 = 0)) ∧ True) rfl ⟨hc, trivial⟩ ?_
        refine a_run (md qX4_crossing_ok) hz 1 [] (pc' := 44) (lv' := [some (.inr 0), some (.inl x1), some (.inl x2)]) (st' := [.inl (-5 : Int)]) (M' := M) (P := True) rfl trivial ?_
        exact a_ri (md qX4_crossing_ok) hz hR rfl (Or.inl rfl) h
    · refine a_run (md qX4_crossing_ok) hz 5 [0] (pc' := 24) (lv' := [some (.inr 0), some (.inl x1), some (.inl x2)]) (st' := []) (M' := M) (P := (¬ ((M 13 2) ≤ 0)) ∧ True) rfl ⟨hc, trivial⟩ ?_
      refine a_run (md qX4_crossing_ok) hz 1 [] (pc' := 26) (lv' := [some (.inr 0), some (.inl x1), some (.inl x2)]) (st' := [.inl (-3 : Int)]) (M' := M) (P := True) rfl trivial ?_
      exact a_ri (md qX4_crossing_ok) hz hR rfl (Or.inl rfl) h
def fX4_road (M : Mm) (x1 : Int) (x2 : Int) (x3 : Int) : Option (Int × Mm) := cal (fX0_hasCrossing M x1) (fun (r1 : Int) => if r1 = 0 then some ((-1 : Int), M) else cal (fX0_hasCrossing M x2) (fun (r2 : Int) => if r2 = 0 then some ((-1 : Int), M) else jn (fun (M3 : Mm) => if (M3 13 2) ≤ 0 then if x1 = x2 then some ((-5 : Int), M3) else cal (fX0_areInOneRow M3 x1 x2) (fun (r5 : Int) => if r5 = 0 then some ((-5 : Int), M3) else cal (fX0_areJoined M3 x1 x2) (fun (r6 : Int) => if r6 = 0 then if (M3 3 1) < (20 : Int) then cal (fX0_addRoad M3 x1 x2 x3) (fun (M7 : Mm) => some ((M7 3 1), M7)) else some ((-4 : Int), M3) else some ((-5 : Int), M3))) else some ((-3 : Int), M3)) (fun (K4 : Mm → Option (Int × Mm)) => if x3 = 0 then K4 M else if x3 = (1 : Int) then K4 M else some ((-2 : Int), M))))
set_option maxRecDepth 100000 in
theorem mX4_road (g : Gx) {M : Mm} {x1 : Int} {x2 : Int} {x3 : Int} {r : Int} {M2 : Mm} (h : fX4_road M x1 x2 x3 = some (r, M2)) : Ct g qX4_road [.inr 0, .inl x1, .inl x2, .inl x3] M (fun r' M' => r' = some r ∧ M' = M2) := by
  refine c_ofI h qX4_road_ok (Nat.le_of_ble_eq_true rfl) (fun z hz Q hR h => ?_)
  unfold fX4_road at h
  show Aw z 0 [some (.inr 0), some (.inl x1), some (.inl x2), some (.inl x3), none] [] M
  refine a_run (md qX4_road_ok) hz 6 [] (pc' := 12) (lv' := [some (.inr 0), some (.inl x1), some (.inl x2), some (.inl x3), some (.inr 3)]) (st' := [.inl x1, .inr 3]) (M' := M) (P := True) rfl trivial ?_
  obtain ⟨r1, hr, h⟩ := cal_elim h
  refine a_fV (as := [.inl x1]) (a := 3) (st := []) (mX0_hasCrossing z.1 hr) (md qX4_road_ok) qX0_hasCrossing_ok hz lkX4_50 rfl 1 0 (by decide +kernel) rfl rfl rfl rfl ?_
  show Aw z 15 [some (.inr 0), some (.inl x1), some (.inl x2), some (.inl x3), some (.inr 3)] [.inl r1] M
  refine ite_elim h (fun hc h => ?_) (fun hc h => ?_)
  · refine a_run (md qX4_road_ok) hz 1 [1] (pc' := 27) (lv' := [some (.inr 0), some (.inl x1), some (.inl x2), some (.inl x3), some (.inr 3)]) (st' := []) (M' := M) (P := (r1 = 0) ∧ True) rfl ⟨hc, trivial⟩ ?_
    refine a_run (md qX4_road_ok) hz 1 [] (pc' := 28) (lv' := [some (.inr 0), some (.inl x1), some (.inl x2), some (.inl x3), some (.inr 3)]) (st' := [.inl (-1 : Int)]) (M' := M) (P := True) rfl trivial ?_
    exact a_ri (md qX4_road_ok) hz hR rfl (Or.inl rfl) h
  · refine a_run (md qX4_road_ok) hz 1 [0] (pc' := 18) (lv' := [some (.inr 0), some (.inl x1), some (.inl x2), some (.inl x3), some (.inr 3)]) (st' := []) (M' := M) (P := (¬ (r1 = 0)) ∧ True) rfl ⟨hc, trivial⟩ ?_
    refine a_run (md qX4_road_ok) hz 2 [] (pc' := 21) (lv' := [some (.inr 0), some (.inl x1), some (.inl x2), some (.inl x3), some (.inr 3)]) (st' := [.inl x2, .inr 3]) (M' := M) (P := True) rfl trivial ?_
    obtain ⟨r2, hr, h⟩ := cal_elim h
    refine a_fV (as := [.inl x2]) (a := 3) (st := []) (mX0_hasCrossing z.1 hr) (md qX4_road_ok) qX0_hasCrossing_ok hz lkX4_50 rfl 1 0 (by decide +kernel) rfl rfl rfl rfl ?_
    show Aw z 24 [some (.inr 0), some (.inl x1), some (.inl x2), some (.inl x3), some (.inr 3)] [.inl r2] M
    refine ite_elim h (fun hc h => ?_) (fun hc h => ?_)
    · refine a_run (md qX4_road_ok) hz 1 [0] (pc' := 27) (lv' := [some (.inr 0), some (.inl x1), some (.inl x2), some (.inl x3), some (.inr 3)]) (st' := []) (M' := M) (P := (¬ ¬ r2 = 0) ∧ True) rfl ⟨fun h9 => h9 hc, trivial⟩ ?_
      refine a_run (md qX4_road_ok) hz 1 [] (pc' := 28) (lv' := [some (.inr 0), some (.inl x1), some (.inl x2), some (.inl x3), some (.inr 3)]) (st' := [.inl (-1 : Int)]) (M' := M) (P := True) rfl trivial ?_
      exact a_ri (md qX4_road_ok) hz hR rfl (Or.inl rfl) h
    · refine a_run (md qX4_road_ok) hz 1 [1] (pc' := 29) (lv' := [some (.inr 0), some (.inl x1), some (.inl x2), some (.inl x3), some (.inr 3)]) (st' := []) (M' := M) (P := (¬ r2 = 0) ∧ True) rfl ⟨hc, trivial⟩ ?_
      refine jn_elim h (fun (K4 : Mm → Option (Int × Mm)) => ∀ (M3 : Mm), OK (K4 M3) (fun r2 => Q (some r2.1) r2.2) → Aw z 41 [some (.inr 0), some (.inl x1), some (.inl x2), some (.inl x3), some (.inr 3)] [] M3) (fun M3 h => ?_) (fun K4 hK4 h => ?_)
      · refine ite_elim h (fun hc h => ?_) (fun hc h => ?_)
        · refine a_run (md qX4_road_ok) hz 5 [1] (pc' := 57) (lv' := [some (.inr 0), some (.inl x1), some (.inl x2), some (.inl x3), some (.inr 3)]) (st' := []) (M' := M3) (P := ((M3 13 2) ≤ 0) ∧ True) rfl ⟨hc, trivial⟩ ?_
          refine ite_elim h (fun hc h => ?_) (fun hc h => ?_)
          · refine a_run (md qX4_road_ok) hz 3 [1] (pc' := 82) (lv' := [some (.inr 0), some (.inl x1), some (.inl x2), some (.inl x3), some (.inr 3)]) (st' := []) (M' := M3) (P := (x1 = x2) ∧ True) rfl ⟨hc, trivial⟩ ?_
            refine a_run (md qX4_road_ok) hz 1 [] (pc' := 84) (lv' := [some (.inr 0), some (.inl x1), some (.inl x2), some (.inl x3), some (.inr 3)]) (st' := [.inl (-5 : Int)]) (M' := M3) (P := True) rfl trivial ?_
            exact a_ri (md qX4_road_ok) hz hR rfl (Or.inl rfl) h
          · refine a_run (md qX4_road_ok) hz 3 [0] (pc' := 62) (lv' := [some (.inr 0), some (.inl x1), some (.inl x2), some (.inl x3), some (.inr 3)]) (st' := []) (M' := M3) (P := (¬ (x1 = x2)) ∧ True) rfl ⟨hc, trivial⟩ ?_
            refine a_run (md qX4_road_ok) hz 3 [] (pc' := 66) (lv' := [some (.inr 0), some (.inl x1), some (.inl x2), some (.inl x3), some (.inr 3)]) (st' := [.inl x2, .inl x1, .inr 3]) (M' := M3) (P := True) rfl trivial ?_
            obtain ⟨r5, hr, h⟩ := cal_elim h
            refine a_fV (as := [.inl x1, .inl x2]) (a := 3) (st := []) (mX0_areInOneRow z.1 hr) (md qX4_road_ok) qX0_areInOneRow_ok hz lkX4_54 rfl 2 0 (by decide +kernel) rfl rfl rfl rfl ?_
            show Aw z 69 [some (.inr 0), some (.inl x1), some (.inl x2), some (.inl x3), some (.inr 3)] [.inl r5] M3
            refine ite_elim h (fun hc h => ?_) (fun hc h => ?_)
            · refine a_run (md qX4_road_ok) hz 1 [1] (pc' := 82) (lv' := [some (.inr 0), some (.inl x1), some (.inl x2), some (.inl x3), some (.inr 3)]) (st' := []) (M' := M3) (P := (r5 = 0) ∧ True) rfl ⟨hc, trivial⟩ ?_
              refine a_run (md qX4_road_ok) hz 1 [] (pc' := 84) (lv' := [some (.inr 0), some (.inl x1), some (.inl x2), some (.inl x3), some (.inr 3)]) (st' := [.inl (-5 : Int)]) (M' := M3) (P := True) rfl trivial ?_
              exact a_ri (md qX4_road_ok) hz hR rfl (Or.inl rfl) h
            · refine a_run (md qX4_road_ok) hz 1 [0] (pc' := 72) (lv' := [some (.inr 0), some (.inl x1), some (.inl x2), some (.inl x3), some (.inr 3)]) (st' := []) (M' := M3) (P := (¬ (r5 = 0)) ∧ True) rfl ⟨hc, trivial⟩ ?_
              refine a_run (md qX4_road_ok) hz 3 [] (pc' := 76) (lv' := [some (.inr 0), some (.inl x1), some (.inl x2), some (.inl x3), some (.inr 3)]) (st' := [.inl x2, .inl x1, .inr 3]) (M' := M3) (P := True) rfl trivial ?_
              obtain ⟨r6, hr, h⟩ := cal_elim h
              refine a_fV (as := [.inl x1, .inl x2]) (a := 3) (st := []) (mX0_areJoined z.1 hr) (md qX4_road_ok) qX0_areJoined_ok hz lkX4_57 rfl 2 0 (by decide +kernel) rfl rfl rfl rfl ?_
              show Aw z 79 [some (.inr 0), some (.inl x1), some (.inl x2), some (.inl x3), some (.inr 3)] [.inl r6] M3
              refine ite_elim h (fun hc h => ?_) (fun hc h => ?_)
              · refine a_run (md qX4_road_ok) hz 1 [1] (pc' := 85) (lv' := [some (.inr 0), some (.inl x1), some (.inl x2), some (.inl x3), some (.inr 3)]) (st' := []) (M' := M3) (P := (r6 = 0) ∧ True) rfl ⟨hc, trivial⟩ ?_
                refine ite_elim h (fun hc h => ?_) (fun hc h => ?_)
                · refine a_run (md qX4_road_ok) hz 4 [1] (pc' := 98) (lv' := [some (.inr 0), some (.inl x1), some (.inl x2), some (.inl x3), some (.inr 3)]) (st' := []) (M' := M3) (P := ((M3 3 1) < (20 : Int)) ∧ True) rfl ⟨hc, trivial⟩ ?_
                  refine a_run (md qX4_road_ok) hz 4 [] (pc' := 103) (lv' := [some (.inr 0), some (.inl x1), some (.inl x2), some (.inl x3), some (.inr 3)]) (st' := [.inl x3, .inl x2, .inl x1, .inr 3]) (M' := M3) (P := True) rfl trivial ?_
                  obtain ⟨M7, hr, h⟩ := cal_elim h
                  refine a_fV (as := [.inl x1, .inl x2, .inl x3]) (a := 3) (st := []) (mX0_addRoad z.1 hr) (md qX4_road_ok) qX0_addRoad_ok hz lkX4_63 rfl 3 0 (by decide +kernel) rfl rfl rfl rfl ?_
                  show Aw z 106 [some (.inr 0), some (.inl x1), some (.inl x2), some (.inl x3), some (.inr 3)] [] M7
                  refine a_run (md qX4_road_ok) hz 2 [] (pc' := 111) (lv' := [some (.inr 0), some (.inl x1), some (.inl x2), some (.inl x3), some (.inr 3)]) (st' := [.inl (M7 3 1)]) (M' := M7) (P := True) rfl trivial ?_
                  exact a_ri (md qX4_road_ok) hz hR rfl (Or.inl rfl) h
                · refine a_run (md qX4_road_ok) hz 4 [0] (pc' := 95) (lv' := [some (.inr 0), some (.inl x1), some (.inl x2), some (.inl x3), some (.inr 3)]) (st' := []) (M' := M3) (P := (¬ ((M3 3 1) < (20 : Int))) ∧ True) rfl ⟨hc, trivial⟩ ?_
                  refine a_run (md qX4_road_ok) hz 1 [] (pc' := 97) (lv' := [some (.inr 0), some (.inl x1), some (.inl x2), some (.inl x3), some (.inr 3)]) (st' := [.inl (-4 : Int)]) (M' := M3) (P := True) rfl trivial ?_
                  exact a_ri (md qX4_road_ok) hz hR rfl (Or.inl rfl) h
              · refine a_run (md qX4_road_ok) hz 1 [0] (pc' := 82) (lv' := [some (.inr 0), some (.inl x1), some (.inl x2), some (.inl x3), some (.inr 3)]) (st' := []) (M' := M3) (P := (¬ (r6 = 0)) ∧ True) rfl ⟨hc, trivial⟩ ?_
                refine a_run (md qX4_road_ok) hz 1 [] (pc' := 84) (lv' := [some (.inr 0), some (.inl x1), some (.inl x2), some (.inl x3), some (.inr 3)]) (st' := [.inl (-5 : Int)]) (M' := M3) (P := True) rfl trivial ?_
                exact a_ri (md qX4_road_ok) hz hR rfl (Or.inl rfl) h
        · refine a_run (md qX4_road_ok) hz 5 [0] (pc' := 54) (lv' := [some (.inr 0), some (.inl x1), some (.inl x2), some (.inl x3), some (.inr 3)]) (st' := []) (M' := M3) (P := (¬ ((M3 13 2) ≤ 0)) ∧ True) rfl ⟨hc, trivial⟩ ?_
          refine a_run (md qX4_road_ok) hz 1 [] (pc' := 56) (lv' := [some (.inr 0), some (.inl x1), some (.inl x2), some (.inl x3), some (.inr 3)]) (st' := [.inl (-3 : Int)]) (M' := M3) (P := True) rfl trivial ?_
          exact a_ri (md qX4_road_ok) hz hR rfl (Or.inl rfl) h
      · refine ite_elim h (fun hc h => ?_) (fun hc h => ?_)
        · refine a_run (md qX4_road_ok) hz 2 [1] (pc' := 41) (lv' := [some (.inr 0), some (.inl x1), some (.inl x2), some (.inl x3), some (.inr 3)]) (st' := []) (M' := M) (P := (x3 = 0) ∧ True) rfl ⟨hc, trivial⟩ ?_
          refine a_mask [true, true, true, true, true] ?_
          exact hK4 M h
        · refine a_run (md qX4_road_ok) hz 2 [0] (pc' := 33) (lv' := [some (.inr 0), some (.inl x1), some (.inl x2), some (.inl x3), some (.inr 3)]) (st' := []) (M' := M) (P := (¬ (x3 = 0)) ∧ True) rfl ⟨hc, trivial⟩ ?_
          refine ite_elim h (fun hc h => ?_) (fun hc h => ?_)
          · refine a_run (md qX4_road_ok) hz 3 [1] (pc' := 41) (lv' := [some (.inr 0), some (.inl x1), some (.inl x2), some (.inl x3), some (.inr 3)]) (st' := []) (M' := M) (P := (x3 = (1 : Int)) ∧ True) rfl ⟨hc, trivial⟩ ?_
            refine a_mask [true, true, true, true, true] ?_
            exact hK4 M h
          · refine a_run (md qX4_road_ok) hz 3 [0] (pc' := 38) (lv' := [some (.inr 0), some (.inl x1), some (.inl x2), some (.inl x3), some (.inr 3)]) (st' := []) (M' := M) (P := (¬ (x3 = (1 : Int))) ∧ True) rfl ⟨hc, trivial⟩ ?_
            refine a_run (md qX4_road_ok) hz 1 [] (pc' := 40) (lv' := [some (.inr 0), some (.inl x1), some (.inl x2), some (.inl x3), some (.inr 3)]) (st' := [.inl (-2 : Int)]) (M' := M) (P := True) rfl trivial ?_
            exact a_ri (md qX4_road_ok) hz hR rfl (Or.inl rfl) h
def fX4_rule (M : Mm) (x1 : Int) (x2 : Int) : Option (Int × Mm) := cal (fX1_allows M x1 x2) (fun (r1 : Int) => if r1 = 0 then some ((-2 : Int), M) else if (M 13 2) ≤ 0 then cal2 (fX1_change M x1 x2) (fun (r2 : Int) (M3 : Mm) => some (r2, M3)) else some ((-3 : Int), M))
set_option maxRecDepth 100000 in
theorem mX4_rule (g : Gx) {M : Mm} {x1 : Int} {x2 : Int} {r : Int} {M2 : Mm} (h : fX4_rule M x1 x2 = some (r, M2)) : Ct g qX4_rule [.inr 0, .inl x1, .inl x2] M (fun r' M' => r' = some r ∧ M' = M2) := by
  refine c_ofI h qX4_rule_ok (Nat.le_of_ble_eq_true rfl) (fun z hz Q hR h => ?_)
  unfold fX4_rule at h
  show Aw z 0 [some (.inr 0), some (.inl x1), some (.inl x2)] [] M
  refine a_run (md qX4_rule_ok) hz 5 [] (pc' := 9) (lv' := [some (.inr 0), some (.inl x1), some (.inl x2)]) (st' := [.inl x2, .inl x1, .inr 11]) (M' := M) (P := True) rfl trivial ?_
  obtain ⟨r1, hr, h⟩ := cal_elim h
  refine a_fV (as := [.inl x1, .inl x2]) (a := 11) (st := []) (mX1_allows z.1 hr) (md qX4_rule_ok) qX1_allows_ok hz lkX4_71 rfl 2 0 (by decide +kernel) rfl rfl rfl rfl ?_
  show Aw z 12 [some (.inr 0), some (.inl x1), some (.inl x2)] [.inl r1] M
  refine ite_elim h (fun hc h => ?_) (fun hc h => ?_)
  · refine a_run (md qX4_rule_ok) hz 1 [0] (pc' := 15) (lv' := [some (.inr 0), some (.inl x1), some (.inl x2)]) (st' := []) (M' := M) (P := (¬ ¬ r1 = 0) ∧ True) rfl ⟨fun h9 => h9 hc, trivial⟩ ?_
    refine a_run (md qX4_rule_ok) hz 1 [] (pc' := 17) (lv' := [some (.inr 0), some (.inl x1), some (.inl x2)]) (st' := [.inl (-2 : Int)]) (M' := M) (P := True) rfl trivial ?_
    exact a_ri (md qX4_rule_ok) hz hR rfl (Or.inl rfl) h
  · refine a_run (md qX4_rule_ok) hz 1 [1] (pc' := 18) (lv' := [some (.inr 0), some (.inl x1), some (.inl x2)]) (st' := []) (M' := M) (P := (¬ r1 = 0) ∧ True) rfl ⟨hc, trivial⟩ ?_
    refine ite_elim h (fun hc h => ?_) (fun hc h => ?_)
    · refine a_run (md qX4_rule_ok) hz 5 [1] (pc' := 34) (lv' := [some (.inr 0), some (.inl x1), some (.inl x2)]) (st' := []) (M' := M) (P := ((M 13 2) ≤ 0) ∧ True) rfl ⟨hc, trivial⟩ ?_
      refine a_run (md qX4_rule_ok) hz 5 [] (pc' := 43) (lv' := [some (.inr 0), some (.inl x1), some (.inl x2)]) (st' := [.inl x2, .inl x1, .inr 11]) (M' := M) (P := True) rfl trivial ?_
      obtain ⟨r2, M3, hr, h⟩ := cal2_elim h
      refine a_fV (as := [.inl x1, .inl x2]) (a := 11) (st := []) (mX1_change z.1 hr) (md qX4_rule_ok) qX1_change_ok hz lkX4_76 rfl 2 0 (by decide +kernel) rfl rfl rfl rfl ?_
      show Aw z 46 [some (.inr 0), some (.inl x1), some (.inl x2)] [.inl r2] M3
      exact a_ri (md qX4_rule_ok) hz hR rfl (Or.inl rfl) h
    · refine a_run (md qX4_rule_ok) hz 5 [0] (pc' := 31) (lv' := [some (.inr 0), some (.inl x1), some (.inl x2)]) (st' := []) (M' := M) (P := (¬ ((M 13 2) ≤ 0)) ∧ True) rfl ⟨hc, trivial⟩ ?_
      refine a_run (md qX4_rule_ok) hz 1 [] (pc' := 33) (lv' := [some (.inr 0), some (.inl x1), some (.inl x2)]) (st' := [.inl (-3 : Int)]) (M' := M) (P := True) rfl trivial ?_
      exact a_ri (md qX4_rule_ok) hz hR rfl (Or.inl rfl) h
def fX4_cell (M : Mm) (x1 : Int) (x2 : Int) : Option (Int) := if x1 < 0 then some (-2 : Int) else if (8 : Int) ≤ x1 then some (-2 : Int) else if x2 < 0 then some (-2 : Int) else if x2 < (8 : Int) then cal (fX0_roadsInCell M x1 x2) (fun (r1 : Int) => some r1) else some (-2 : Int)
set_option maxRecDepth 100000 in
theorem mX4_cell (g : Gx) {M : Mm} {x1 : Int} {x2 : Int} {r : Int} (h : fX4_cell M x1 x2 = some r) : Ct g qX4_cell [.inr 0, .inl x1, .inl x2] M (fun r' M' => r' = some r ∧ M' = M) := by
  refine c_ofP h qX4_cell_ok (Nat.le_of_ble_eq_true rfl) (fun z hz Q hR h => ?_)
  unfold fX4_cell at h
  show Aw z 0 [some (.inr 0), some (.inl x1), some (.inl x2)] [] M
  refine ite_elim h (fun hc h => ?_) (fun hc h => ?_)
  · refine a_run (md qX4_cell_ok) hz 2 [1] (pc' := 20) (lv' := [some (.inr 0), some (.inl x1), some (.inl x2)]) (st' := []) (M' := M) (P := (x1 < 0) ∧ True) rfl ⟨hc, trivial⟩ ?_
    refine a_run (md qX4_cell_ok) hz 1 [] (pc' := 22) (lv' := [some (.inr 0), some (.inl x1), some (.inl x2)]) (st' := [.inl (-2 : Int)]) (M' := M) (P := True) rfl trivial ?_
    exact a_ri (md qX4_cell_ok) hz hR rfl (Or.inl rfl) h
  · refine a_run (md qX4_cell_ok) hz 2 [0] (pc' := 4) (lv' := [some (.inr 0), some (.inl x1), some (.inl x2)]) (st' := []) (M' := M) (P := (¬ (x1 < 0)) ∧ True) rfl ⟨hc, trivial⟩ ?_
    refine ite_elim h (fun hc h => ?_) (fun hc h => ?_)
    · refine a_run (md qX4_cell_ok) hz 3 [1] (pc' := 20) (lv' := [some (.inr 0), some (.inl x1), some (.inl x2)]) (st' := []) (M' := M) (P := ((8 : Int) ≤ x1) ∧ True) rfl ⟨hc, trivial⟩ ?_
      refine a_run (md qX4_cell_ok) hz 1 [] (pc' := 22) (lv' := [some (.inr 0), some (.inl x1), some (.inl x2)]) (st' := [.inl (-2 : Int)]) (M' := M) (P := True) rfl trivial ?_
      exact a_ri (md qX4_cell_ok) hz hR rfl (Or.inl rfl) h
    · refine a_run (md qX4_cell_ok) hz 3 [0] (pc' := 10) (lv' := [some (.inr 0), some (.inl x1), some (.inl x2)]) (st' := []) (M' := M) (P := (¬ ((8 : Int) ≤ x1)) ∧ True) rfl ⟨hc, trivial⟩ ?_
      refine ite_elim h (fun hc h => ?_) (fun hc h => ?_)
      · refine a_run (md qX4_cell_ok) hz 2 [1] (pc' := 20) (lv' := [some (.inr 0), some (.inl x1), some (.inl x2)]) (st' := []) (M' := M) (P := (x2 < 0) ∧ True) rfl ⟨hc, trivial⟩ ?_
        refine a_run (md qX4_cell_ok) hz 1 [] (pc' := 22) (lv' := [some (.inr 0), some (.inl x1), some (.inl x2)]) (st' := [.inl (-2 : Int)]) (M' := M) (P := True) rfl trivial ?_
        exact a_ri (md qX4_cell_ok) hz hR rfl (Or.inl rfl) h
      · refine a_run (md qX4_cell_ok) hz 2 [0] (pc' := 14) (lv' := [some (.inr 0), some (.inl x1), some (.inl x2)]) (st' := []) (M' := M) (P := (¬ (x2 < 0)) ∧ True) rfl ⟨hc, trivial⟩ ?_
        refine ite_elim h (fun hc h => ?_) (fun hc h => ?_)
        · refine a_run (md qX4_cell_ok) hz 3 [1] (pc' := 23) (lv' := [some (.inr 0), some (.inl x1), some (.inl x2)]) (st' := []) (M' := M) (P := (x2 < (8 : Int)) ∧ True) rfl ⟨hc, trivial⟩ ?_
          refine a_run (md qX4_cell_ok) hz 5 [] (pc' := 32) (lv' := [some (.inr 0), some (.inl x1), some (.inl x2)]) (st' := [.inl x2, .inl x1, .inr 3]) (M' := M) (P := True) rfl trivial ?_
          obtain ⟨r1, hr, h⟩ := cal_elim h
          refine a_fV (as := [.inl x1, .inl x2]) (a := 3) (st := []) (mX0_roadsInCell z.1 hr) (md qX4_cell_ok) qX0_roadsInCell_ok hz lkX4_80 rfl 2 0 (by decide +kernel) rfl rfl rfl rfl ?_
          show Aw z 35 [some (.inr 0), some (.inl x1), some (.inl x2)] [.inl r1] M
          exact a_ri (md qX4_cell_ok) hz hR rfl (Or.inl rfl) h
        · refine a_run (md qX4_cell_ok) hz 3 [0] (pc' := 20) (lv' := [some (.inr 0), some (.inl x1), some (.inl x2)]) (st' := []) (M' := M) (P := (¬ (x2 < (8 : Int))) ∧ True) rfl ⟨hc, trivial⟩ ?_
          refine a_run (md qX4_cell_ok) hz 1 [] (pc' := 22) (lv' := [some (.inr 0), some (.inl x1), some (.inl x2)]) (st' := [.inl (-2 : Int)]) (M' := M) (P := True) rfl trivial ?_
          exact a_ri (md qX4_cell_ok) hz hR rfl (Or.inl rfl) h
def fX4_between (M : Mm) (x1 : Int) (x2 : Int) : Option (Int) := cal (fX0_hasCrossing M x1) (fun (r1 : Int) => if r1 = 0 then some (-1 : Int) else cal (fX0_hasCrossing M x2) (fun (r2 : Int) => if r2 = 0 then some (-1 : Int) else cal (fX0_leastBetween M x1 x2) (fun (r3 : Int) => some r3)))
set_option maxRecDepth 100000 in
theorem mX4_between (g : Gx) {M : Mm} {x1 : Int} {x2 : Int} {r : Int} (h : fX4_between M x1 x2 = some r) : Ct g qX4_between [.inr 0, .inl x1, .inl x2] M (fun r' M' => r' = some r ∧ M' = M) := by
  refine c_ofP h qX4_between_ok (Nat.le_of_ble_eq_true rfl) (fun z hz Q hR h => ?_)
  unfold fX4_between at h
  show Aw z 0 [some (.inr 0), some (.inl x1), some (.inl x2)] [] M
  refine a_run (md qX4_between_ok) hz 4 [] (pc' := 8) (lv' := [some (.inr 0), some (.inl x1), some (.inl x2)]) (st' := [.inl x1, .inr 3]) (M' := M) (P := True) rfl trivial ?_
  obtain ⟨r1, hr, h⟩ := cal_elim h
  refine a_fV (as := [.inl x1]) (a := 3) (st := []) (mX0_hasCrossing z.1 hr) (md qX4_between_ok) qX0_hasCrossing_ok hz lkX4_50 rfl 1 0 (by decide +kernel) rfl rfl rfl rfl ?_
  show Aw z 11 [some (.inr 0), some (.inl x1), some (.inl x2)] [.inl r1] M
  refine ite_elim h (fun hc h => ?_) (fun hc h => ?_)
  · refine a_run (md qX4_between_ok) hz 1 [1] (pc' := 28) (lv' := [some (.inr 0), some (.inl x1), some (.inl x2)]) (st' := []) (M' := M) (P := (r1 = 0) ∧ True) rfl ⟨hc, trivial⟩ ?_
    refine a_run (md qX4_between_ok) hz 1 [] (pc' := 29) (lv' := [some (.inr 0), some (.inl x1), some (.inl x2)]) (st' := [.inl (-1 : Int)]) (M' := M) (P := True) rfl trivial ?_
    exact a_ri (md qX4_between_ok) hz hR rfl (Or.inl rfl) h
  · refine a_run (md qX4_between_ok) hz 1 [0] (pc' := 14) (lv' := [some (.inr 0), some (.inl x1), some (.inl x2)]) (st' := []) (M' := M) (P := (¬ (r1 = 0)) ∧ True) rfl ⟨hc, trivial⟩ ?_
    refine a_run (md qX4_between_ok) hz 4 [] (pc' := 22) (lv' := [some (.inr 0), some (.inl x1), some (.inl x2)]) (st' := [.inl x2, .inr 3]) (M' := M) (P := True) rfl trivial ?_
    obtain ⟨r2, hr, h⟩ := cal_elim h
    refine a_fV (as := [.inl x2]) (a := 3) (st := []) (mX0_hasCrossing z.1 hr) (md qX4_between_ok) qX0_hasCrossing_ok hz lkX4_50 rfl 1 0 (by decide +kernel) rfl rfl rfl rfl ?_
    show Aw z 25 [some (.inr 0), some (.inl x1), some (.inl x2)] [.inl r2] M
    refine ite_elim h (fun hc h => ?_) (fun hc h => ?_)
    · refine a_run (md qX4_between_ok) hz 1 [0] (pc' := 28) (lv' := [some (.inr 0), some (.inl x1), some (.inl x2)]) (st' := []) (M' := M) (P := (¬ ¬ r2 = 0) ∧ True) rfl ⟨fun h9 => h9 hc, trivial⟩ ?_
      refine a_run (md qX4_between_ok) hz 1 [] (pc' := 29) (lv' := [some (.inr 0), some (.inl x1), some (.inl x2)]) (st' := [.inl (-1 : Int)]) (M' := M) (P := True) rfl trivial ?_
      exact a_ri (md qX4_between_ok) hz hR rfl (Or.inl rfl) h
    · refine a_run (md qX4_between_ok) hz 1 [1] (pc' := 30) (lv' := [some (.inr 0), some (.inl x1), some (.inl x2)]) (st' := []) (M' := M) (P := (¬ r2 = 0) ∧ True) rfl ⟨hc, trivial⟩ ?_
      refine a_run (md qX4_between_ok) hz 5 [] (pc' := 39) (lv' := [some (.inr 0), some (.inl x1), some (.inl x2)]) (st' := [.inl x2, .inl x1, .inr 3]) (M' := M) (P := True) rfl trivial ?_
      obtain ⟨r3, hr, h⟩ := cal_elim h
      refine a_fV (as := [.inl x1, .inl x2]) (a := 3) (st := []) (mX0_leastBetween z.1 hr) (md qX4_between_ok) qX0_leastBetween_ok hz lkX4_83 rfl 2 0 (by decide +kernel) rfl rfl rfl rfl ?_
      show Aw z 42 [some (.inr 0), some (.inl x1), some (.inl x2)] [.inl r3] M
      exact a_ri (md qX4_between_ok) hz hR rfl (Or.inl rfl) h
def fX4_way (M : Mm) (x1 : Int) (x2 : Int) : Option (Int) := cal (fX0_hasSpot M x1) (fun (r1 : Int) => if r1 = 0 then some (-1 : Int) else cal (fX0_hasSpot M x2) (fun (r2 : Int) => if r2 = 0 then some (-1 : Int) else cal (fX0_wayLength M x1 x2) (fun (r3 : Int) => some r3)))
set_option maxRecDepth 100000 in
theorem mX4_way (g : Gx) {M : Mm} {x1 : Int} {x2 : Int} {r : Int} (h : fX4_way M x1 x2 = some r) : Ct g qX4_way [.inr 0, .inl x1, .inl x2] M (fun r' M' => r' = some r ∧ M' = M) := by
  refine c_ofP h qX4_way_ok (Nat.le_of_ble_eq_true rfl) (fun z hz Q hR h => ?_)
  unfold fX4_way at h
  show Aw z 0 [some (.inr 0), some (.inl x1), some (.inl x2)] [] M
  refine a_run (md qX4_way_ok) hz 4 [] (pc' := 8) (lv' := [some (.inr 0), some (.inl x1), some (.inl x2)]) (st' := [.inl x1, .inr 3]) (M' := M) (P := True) rfl trivial ?_
  obtain ⟨r1, hr, h⟩ := cal_elim h
  refine a_fV (as := [.inl x1]) (a := 3) (st := []) (mX0_hasSpot z.1 hr) (md qX4_way_ok) qX0_hasSpot_ok hz lkX4_86 rfl 1 0 (by decide +kernel) rfl rfl rfl rfl ?_
  show Aw z 11 [some (.inr 0), some (.inl x1), some (.inl x2)] [.inl r1] M
  refine ite_elim h (fun hc h => ?_) (fun hc h => ?_)
  · refine a_run (md qX4_way_ok) hz 1 [1] (pc' := 28) (lv' := [some (.inr 0), some (.inl x1), some (.inl x2)]) (st' := []) (M' := M) (P := (r1 = 0) ∧ True) rfl ⟨hc, trivial⟩ ?_
    refine a_run (md qX4_way_ok) hz 1 [] (pc' := 29) (lv' := [some (.inr 0), some (.inl x1), some (.inl x2)]) (st' := [.inl (-1 : Int)]) (M' := M) (P := True) rfl trivial ?_
    exact a_ri (md qX4_way_ok) hz hR rfl (Or.inl rfl) h
  · refine a_run (md qX4_way_ok) hz 1 [0] (pc' := 14) (lv' := [some (.inr 0), some (.inl x1), some (.inl x2)]) (st' := []) (M' := M) (P := (¬ (r1 = 0)) ∧ True) rfl ⟨hc, trivial⟩ ?_
    refine a_run (md qX4_way_ok) hz 4 [] (pc' := 22) (lv' := [some (.inr 0), some (.inl x1), some (.inl x2)]) (st' := [.inl x2, .inr 3]) (M' := M) (P := True) rfl trivial ?_
    obtain ⟨r2, hr, h⟩ := cal_elim h
    refine a_fV (as := [.inl x2]) (a := 3) (st := []) (mX0_hasSpot z.1 hr) (md qX4_way_ok) qX0_hasSpot_ok hz lkX4_86 rfl 1 0 (by decide +kernel) rfl rfl rfl rfl ?_
    show Aw z 25 [some (.inr 0), some (.inl x1), some (.inl x2)] [.inl r2] M
    refine ite_elim h (fun hc h => ?_) (fun hc h => ?_)
    · refine a_run (md qX4_way_ok) hz 1 [0] (pc' := 28) (lv' := [some (.inr 0), some (.inl x1), some (.inl x2)]) (st' := []) (M' := M) (P := (¬ ¬ r2 = 0) ∧ True) rfl ⟨fun h9 => h9 hc, trivial⟩ ?_
      refine a_run (md qX4_way_ok) hz 1 [] (pc' := 29) (lv' := [some (.inr 0), some (.inl x1), some (.inl x2)]) (st' := [.inl (-1 : Int)]) (M' := M) (P := True) rfl trivial ?_
      exact a_ri (md qX4_way_ok) hz hR rfl (Or.inl rfl) h
    · refine a_run (md qX4_way_ok) hz 1 [1] (pc' := 30) (lv' := [some (.inr 0), some (.inl x1), some (.inl x2)]) (st' := []) (M' := M) (P := (¬ r2 = 0) ∧ True) rfl ⟨hc, trivial⟩ ?_
      refine a_run (md qX4_way_ok) hz 5 [] (pc' := 39) (lv' := [some (.inr 0), some (.inl x1), some (.inl x2)]) (st' := [.inl x2, .inl x1, .inr 3]) (M' := M) (P := True) rfl trivial ?_
      obtain ⟨r3, hr, h⟩ := cal_elim h
      refine a_fV (as := [.inl x1, .inl x2]) (a := 3) (st := []) (mX0_wayLength z.1 hr) (md qX4_way_ok) qX0_wayLength_ok hz lkX4_89 rfl 2 0 (by decide +kernel) rfl rfl rfl rfl ?_
      show Aw z 42 [some (.inr 0), some (.inl x1), some (.inl x2)] [.inl r3] M
      exact a_ri (md qX4_way_ok) hz hR rfl (Or.inl rfl) h
def fX4_fix (M : Mm) (x1 : Int) (x2 : Int) : Option (Int × Mm) := cal (fX4_isPlace M x1 x2) (fun (r1 : Int) => if r1 = 0 then some ((-2 : Int), M) else if (M 13 2) < (16 : Int) then cal (fX3_addFix M x1 x2) (fun (M2 : Mm) => some ((M2 13 2), M2)) else some ((-4 : Int), M))
set_option maxRecDepth 100000 in
theorem mX4_fix (g : Gx) {M : Mm} {x1 : Int} {x2 : Int} {r : Int} {M2 : Mm} (h : fX4_fix M x1 x2 = some (r, M2)) : Ct g qX4_fix [.inr 0, .inl x1, .inl x2] M (fun r' M' => r' = some r ∧ M' = M2) := by
  refine c_ofI h qX4_fix_ok (Nat.le_of_ble_eq_true rfl) (fun z hz Q hR h => ?_)
  unfold fX4_fix at h
  show Aw z 0 [some (.inr 0), some (.inl x1), some (.inl x2)] [] M
  refine a_run (md qX4_fix_ok) hz 2 [] (pc' := 2) (lv' := [some (.inr 0), some (.inl x1), some (.inl x2)]) (st' := [.inl x2, .inl x1]) (M' := M) (P := True) rfl trivial ?_
  obtain ⟨r1, hr, h⟩ := cal_elim h
  refine a_fS (as := [.inl x1, .inl x2]) (st := []) (mX4_isPlace z.1 hr) (md qX4_fix_ok) qX4_isPlace_ok hz lkX4_20 rfl 2 0 (by decide +kernel) rfl rfl ?_
  show Aw z 5 [some (.inr 0), some (.inl x1), some (.inl x2)] [.inl r1] M
  refine ite_elim h (fun hc h => ?_) (fun hc h => ?_)
  · refine a_run (md qX4_fix_ok) hz 1 [0] (pc' := 8) (lv' := [some (.inr 0), some (.inl x1), some (.inl x2)]) (st' := []) (M' := M) (P := (¬ ¬ r1 = 0) ∧ True) rfl ⟨fun h9 => h9 hc, trivial⟩ ?_
    refine a_run (md qX4_fix_ok) hz 1 [] (pc' := 10) (lv' := [some (.inr 0), some (.inl x1), some (.inl x2)]) (st' := [.inl (-2 : Int)]) (M' := M) (P := True) rfl trivial ?_
    exact a_ri (md qX4_fix_ok) hz hR rfl (Or.inl rfl) h
  · refine a_run (md qX4_fix_ok) hz 1 [1] (pc' := 11) (lv' := [some (.inr 0), some (.inl x1), some (.inl x2)]) (st' := []) (M' := M) (P := (¬ r1 = 0) ∧ True) rfl ⟨hc, trivial⟩ ?_
    refine ite_elim h (fun hc h => ?_) (fun hc h => ?_)
    · refine a_run (md qX4_fix_ok) hz 6 [1] (pc' := 29) (lv' := [some (.inr 0), some (.inl x1), some (.inl x2)]) (st' := []) (M' := M) (P := ((M 13 2) < (16 : Int)) ∧ True) rfl ⟨hc, trivial⟩ ?_
      refine a_run (md qX4_fix_ok) hz 5 [] (pc' := 38) (lv' := [some (.inr 0), some (.inl x1), some (.inl x2)]) (st' := [.inl x2, .inl x1, .inr 13]) (M' := M) (P := True) rfl trivial ?_
      obtain ⟨M2, hr, h⟩ := cal_elim h
      refine a_fV (as := [.inl x1, .inl x2]) (a := 13) (st := []) (mX3_addFix z.1 hr) (md qX4_fix_ok) qX3_addFix_ok hz lkX4_92 rfl 2 0 (by decide +kernel) rfl rfl rfl rfl ?_
      show Aw z 41 [some (.inr 0), some (.inl x1), some (.inl x2)] [] M2
      refine a_run (md qX4_fix_ok) hz 4 [] (pc' := 51) (lv' := [some (.inr 0), some (.inl x1), some (.inl x2)]) (st' := [.inl (M2 13 2)]) (M' := M2) (P := True) rfl trivial ?_
      exact a_ri (md qX4_fix_ok) hz hR rfl (Or.inl rfl) h
    · refine a_run (md qX4_fix_ok) hz 6 [0] (pc' := 26) (lv' := [some (.inr 0), some (.inl x1), some (.inl x2)]) (st' := []) (M' := M) (P := (¬ ((M 13 2) < (16 : Int))) ∧ True) rfl ⟨hc, trivial⟩ ?_
      refine a_run (md qX4_fix_ok) hz 1 [] (pc' := 28) (lv' := [some (.inr 0), some (.inl x1), some (.inl x2)]) (st' := [.inl (-4 : Int)]) (M' := M) (P := True) rfl trivial ?_
      exact a_ri (md qX4_fix_ok) hz hR rfl (Or.inl rfl) h
def fX4_drop (M : Mm) : Option (Int × Mm) := if 0 < (M 13 2) then cal (fX3_dropFix M) (fun (M1 : Mm) => some ((M1 13 2), M1)) else some ((-5 : Int), M)
set_option maxRecDepth 100000 in
theorem mX4_drop (g : Gx) {M : Mm} {r : Int} {M2 : Mm} (h : fX4_drop M = some (r, M2)) : Ct g qX4_drop [.inr 0] M (fun r' M' => r' = some r ∧ M' = M2) := by
  refine c_ofI h qX4_drop_ok (Nat.le_of_ble_eq_true rfl) (fun z hz Q hR h => ?_)
  unfold fX4_drop at h
  show Aw z 0 [some (.inr 0)] [] M
  refine ite_elim h (fun hc h => ?_) (fun hc h => ?_)
  · refine a_run (md qX4_drop_ok) hz 5 [1] (pc' := 16) (lv' := [some (.inr 0)]) (st' := []) (M' := M) (P := (0 < (M 13 2)) ∧ True) rfl ⟨hc, trivial⟩ ?_
    refine a_run (md qX4_drop_ok) hz 3 [] (pc' := 23) (lv' := [some (.inr 0)]) (st' := [.inr 13]) (M' := M) (P := True) rfl trivial ?_
    obtain ⟨M1, hr, h⟩ := cal_elim h
    refine a_fV (as := []) (a := 13) (st := []) (mX3_dropFix z.1 hr) (md qX4_drop_ok) qX3_dropFix_ok hz lkX4_95 rfl 0 0 (by decide +kernel) rfl rfl rfl rfl ?_
    show Aw z 26 [some (.inr 0)] [] M1
    refine a_run (md qX4_drop_ok) hz 4 [] (pc' := 36) (lv' := [some (.inr 0)]) (st' := [.inl (M1 13 2)]) (M' := M1) (P := True) rfl trivial ?_
    exact a_ri (md qX4_drop_ok) hz hR rfl (Or.inl rfl) h
  · refine a_run (md qX4_drop_ok) hz 5 [0] (pc' := 13) (lv' := [some (.inr 0)]) (st' := []) (M' := M) (P := (¬ (0 < (M 13 2))) ∧ True) rfl ⟨hc, trivial⟩ ?_
    refine a_run (md qX4_drop_ok) hz 1 [] (pc' := 15) (lv' := [some (.inr 0)]) (st' := [.inl (-5 : Int)]) (M' := M) (P := True) rfl trivial ?_
    exact a_ri (md qX4_drop_ok) hz hR rfl (Or.inl rfl) h
def fX4_candidate (M : Mm) (x1 : Int) (x2 : Int) (x3 : Int) : Option (Int) := cal (fX3_hasFix 2 M x1) (fun (r1 : Int) => if r1 = 0 then some (-1 : Int) else if x3 < 0 then some (-2 : Int) else if x3 ≤ (3 : Int) then if x2 = (-1 : Int) then gd ((0 ≤ x1 ∧ x1 < 16)) (some (M 16 x1.toNat)) else cal (fX3_tellCandidate M x1 x2 x3) (fun (r2 : Int) => some r2) else some (-2 : Int))
set_option maxRecDepth 100000 in
theorem mX4_candidate (g : Gx) {M : Mm} {x1 : Int} {x2 : Int} {x3 : Int} {r : Int} (h : fX4_candidate M x1 x2 x3 = some r) : Ct g qX4_candidate [.inr 0, .inl x1, .inl x2, .inl x3] M (fun r' M' => r' = some r ∧ M' = M) := by
  refine c_ofP h qX4_candidate_ok (Nat.le_of_ble_eq_true rfl) (fun z hz Q hR h => ?_)
  unfold fX4_candidate at h
  show Aw z 0 [some (.inr 0), some (.inl x1), some (.inl x2), some (.inl x3)] [] M
  refine a_run (md qX4_candidate_ok) hz 4 [] (pc' := 8) (lv' := [some (.inr 0), some (.inl x1), some (.inl x2), some (.inl x3)]) (st' := [.inl x1, .inr 13]) (M' := M) (P := True) rfl trivial ?_
  obtain ⟨r1, hr, h⟩ := cal_elim h
  refine a_fV (as := [.inl x1]) (a := 13) (st := []) (mX3_hasFix_2 z.1 hr) (md qX4_candidate_ok) qX3_hasFix_ok hz lkX4_98 rfl 1 0 (by decide +kernel) rfl rfl rfl rfl ?_
  show Aw z 11 [some (.inr 0), some (.inl x1), some (.inl x2), some (.inl x3)] [.inl r1] M
  refine ite_elim h (fun hc h => ?_) (fun hc h => ?_)
  · refine a_run (md qX4_candidate_ok) hz 1 [0] (pc' := 14) (lv' := [some (.inr 0), some (.inl x1), some (.inl x2), some (.inl x3)]) (st' := []) (M' := M) (P := (¬ ¬ r1 = 0) ∧ True) rfl ⟨fun h9 => h9 hc, trivial⟩ ?_
    refine a_run (md qX4_candidate_ok) hz 1 [] (pc' := 15) (lv' := [some (.inr 0), some (.inl x1), some (.inl x2), some (.inl x3)]) (st' := [.inl (-1 : Int)]) (M' := M) (P := True) rfl trivial ?_
    exact a_ri (md qX4_candidate_ok) hz hR rfl (Or.inl rfl) h
  · refine a_run (md qX4_candidate_ok) hz 1 [1] (pc' := 16) (lv' := [some (.inr 0), some (.inl x1), some (.inl x2), some (.inl x3)]) (st' := []) (M' := M) (P := (¬ r1 = 0) ∧ True) rfl ⟨hc, trivial⟩ ?_
    refine ite_elim h (fun hc h => ?_) (fun hc h => ?_)
    · refine a_run (md qX4_candidate_ok) hz 2 [1] (pc' := 25) (lv' := [some (.inr 0), some (.inl x1), some (.inl x2), some (.inl x3)]) (st' := []) (M' := M) (P := (x3 < 0) ∧ True) rfl ⟨hc, trivial⟩ ?_
      refine a_run (md qX4_candidate_ok) hz 1 [] (pc' := 27) (lv' := [some (.inr 0), some (.inl x1), some (.inl x2), some (.inl x3)]) (st' := [.inl (-2 : Int)]) (M' := M) (P := True) rfl trivial ?_
      exact a_ri (md qX4_candidate_ok) hz hR rfl (Or.inl rfl) h
    · refine a_run (md qX4_candidate_ok) hz 2 [0] (pc' := 20) (lv' := [some (.inr 0), some (.inl x1), some (.inl x2), some (.inl x3)]) (st' := []) (M' := M) (P := (¬ (x3 < 0)) ∧ True) rfl ⟨hc, trivial⟩ ?_
      refine ite_elim h (fun hc h => ?_) (fun hc h => ?_)
      · refine a_run (md qX4_candidate_ok) hz 3 [1] (pc' := 28) (lv' := [some (.inr 0), some (.inl x1), some (.inl x2), some (.inl x3)]) (st' := []) (M' := M) (P := (x3 ≤ (3 : Int)) ∧ True) rfl ⟨hc, trivial⟩ ?_
        refine ite_elim h (fun hc h => ?_) (fun hc h => ?_)
        · refine a_run (md qX4_candidate_ok) hz 3 [0] (pc' := 33) (lv' := [some (.inr 0), some (.inl x1), some (.inl x2), some (.inl x3)]) (st' := []) (M' := M) (P := (¬ ¬ x2 = (-1 : Int)) ∧ True) rfl ⟨fun h9 => h9 hc, trivial⟩ ?_
          obtain ⟨h3, h⟩ := gd_elim h
          refine a_run (md qX4_candidate_ok) hz 6 [] (pc' := 45) (lv' := [some (.inr 0), some (.inl x1), some (.inl x2), some (.inl x3)]) (st' := [.inl (M 16 x1.toNat)]) (M' := M) (P := (0 ≤ x1 ∧ x1 < 16) ∧ True) rfl ⟨h3, trivial⟩ ?_
          exact a_ri (md qX4_candidate_ok) hz hR rfl (Or.inl rfl) h
        · refine a_run (md qX4_candidate_ok) hz 3 [1] (pc' := 46) (lv' := [some (.inr 0), some (.inl x1), some (.inl x2), some (.inl x3)]) (st' := []) (M' := M) (P := (¬ x2 = (-1 : Int)) ∧ True) rfl ⟨hc, trivial⟩ ?_
          refine a_run (md qX4_candidate_ok) hz 6 [] (pc' := 56) (lv' := [some (.inr 0), some (.inl x1), some (.inl x2), some (.inl x3)]) (st' := [.inl x3, .inl x2, .inl x1, .inr 13]) (M' := M) (P := True) rfl trivial ?_
          obtain ⟨r2, hr, h⟩ := cal_elim h
          refine a_fV (as := [.inl x1, .inl x2, .inl x3]) (a := 13) (st := []) (mX3_tellCandidate z.1 hr) (md qX4_candidate_ok) qX3_tellCandidate_ok hz lkX4_105 rfl 3 0 (by decide +kernel) rfl rfl rfl rfl ?_
          show Aw z 59 [some (.inr 0), some (.inl x1), some (.inl x2), some (.inl x3)] [.inl r2] M
          exact a_ri (md qX4_candidate_ok) hz hR rfl (Or.inl rfl) h
      · refine a_run (md qX4_candidate_ok) hz 3 [0] (pc' := 25) (lv' := [some (.inr 0), some (.inl x1), some (.inl x2), some (.inl x3)]) (st' := []) (M' := M) (P := (¬ (x3 ≤ (3 : Int))) ∧ True) rfl ⟨hc, trivial⟩ ?_
        refine a_run (md qX4_candidate_ok) hz 1 [] (pc' := 27) (lv' := [some (.inr 0), some (.inl x1), some (.inl x2), some (.inl x3)]) (st' := [.inl (-2 : Int)]) (M' := M) (P := True) rfl trivial ?_
        exact a_ri (md qX4_candidate_ok) hz hR rfl (Or.inl rfl) h
def fX4_best (M : Mm) (x1 : Int) : Option (Int) := cal (fX3_hasFix 2 M x1) (fun (r1 : Int) => if r1 = 0 then some (-1 : Int) else cal (fX3_chosenSpot M x1) (fun (r2 : Int) => some r2))
set_option maxRecDepth 100000 in
theorem mX4_best (g : Gx) {M : Mm} {x1 : Int} {r : Int} (h : fX4_best M x1 = some r) : Ct g qX4_best [.inr 0, .inl x1] M (fun r' M' => r' = some r ∧ M' = M) := by
  refine c_ofP h qX4_best_ok (Nat.le_of_ble_eq_true rfl) (fun z hz Q hR h => ?_)
  unfold fX4_best at h
  show Aw z 0 [some (.inr 0), some (.inl x1)] [] M
  refine a_run (md qX4_best_ok) hz 4 [] (pc' := 8) (lv' := [some (.inr 0), some (.inl x1)]) (st' := [.inl x1, .inr 13]) (M' := M) (P := True) rfl trivial ?_
  obtain ⟨r1, hr, h⟩ := cal_elim h
  refine a_fV (as := [.inl x1]) (a := 13) (st := []) (mX3_hasFix_2 z.1 hr) (md qX4_best_ok) qX3_hasFix_ok hz lkX4_98 rfl 1 0 (by decide +kernel) rfl rfl rfl rfl ?_
  show Aw z 11 [some (.inr 0), some (.inl x1)] [.inl r1] M
  refine ite_elim h (fun hc h => ?_) (fun hc h => ?_)
  · refine a_run (md qX4_best_ok) hz 1 [0] (pc' := 14) (lv' := [some (.inr 0), some (.inl x1)]) (st' := []) (M' := M) (P := (¬ ¬ r1 = 0) ∧ True) rfl ⟨fun h9 => h9 hc, trivial⟩ ?_
    refine a_run (md qX4_best_ok) hz 1 [] (pc' := 15) (lv' := [some (.inr 0), some (.inl x1)]) (st' := [.inl (-1 : Int)]) (M' := M) (P := True) rfl trivial ?_
    exact a_ri (md qX4_best_ok) hz hR rfl (Or.inl rfl) h
  · refine a_run (md qX4_best_ok) hz 1 [1] (pc' := 16) (lv' := [some (.inr 0), some (.inl x1)]) (st' := []) (M' := M) (P := (¬ r1 = 0) ∧ True) rfl ⟨hc, trivial⟩ ?_
    refine a_run (md qX4_best_ok) hz 4 [] (pc' := 24) (lv' := [some (.inr 0), some (.inl x1)]) (st' := [.inl x1, .inr 13]) (M' := M) (P := True) rfl trivial ?_
    obtain ⟨r2, hr, h⟩ := cal_elim h
    refine a_fV (as := [.inl x1]) (a := 13) (st := []) (mX3_chosenSpot z.1 hr) (md qX4_best_ok) qX3_chosenSpot_ok hz lkX4_109 rfl 1 0 (by decide +kernel) rfl rfl rfl rfl ?_
    show Aw z 27 [some (.inr 0), some (.inl x1)] [.inl r2] M
    exact a_ri (md qX4_best_ok) hz hR rfl (Or.inl rfl) h
def fX4_decided (M : Mm) (x1 : Int) : Option (Int) := cal (fX3_hasFix 2 M x1) (fun (r1 : Int) => if r1 = 0 then some (-1 : Int) else gd ((0 ≤ x1 ∧ x1 < 16)) (if (M 24 x1.toNat) = 0 then some (-6 : Int) else cal (fX3_chosenSpot M x1) (fun (r2 : Int) => some r2)))
set_option maxRecDepth 100000 in
theorem mX4_decided (g : Gx) {M : Mm} {x1 : Int} {r : Int} (h : fX4_decided M x1 = some r) : Ct g qX4_decided [.inr 0, .inl x1] M (fun r' M' => r' = some r ∧ M' = M) := by
  refine c_ofP h qX4_decided_ok (Nat.le_of_ble_eq_true rfl) (fun z hz Q hR h => ?_)
  unfold fX4_decided at h
  show Aw z 0 [some (.inr 0), some (.inl x1)] [] M
  refine a_run (md qX4_decided_ok) hz 4 [] (pc' := 8) (lv' := [some (.inr 0), some (.inl x1)]) (st' := [.inl x1, .inr 13]) (M' := M) (P := True) rfl trivial ?_
  obtain ⟨r1, hr, h⟩ := cal_elim h
  refine a_fV (as := [.inl x1]) (a := 13) (st := []) (mX3_hasFix_2 z.1 hr) (md qX4_decided_ok) qX3_hasFix_ok hz lkX4_98 rfl 1 0 (by decide +kernel) rfl rfl rfl rfl ?_
  show Aw z 11 [some (.inr 0), some (.inl x1)] [.inl r1] M
  refine ite_elim h (fun hc h => ?_) (fun hc h => ?_)
  · refine a_run (md qX4_decided_ok) hz 1 [0] (pc' := 14) (lv' := [some (.inr 0), some (.inl x1)]) (st' := []) (M' := M) (P := (¬ ¬ r1 = 0) ∧ True) rfl ⟨fun h9 => h9 hc, trivial⟩ ?_
    refine a_run (md qX4_decided_ok) hz 1 [] (pc' := 15) (lv' := [some (.inr 0), some (.inl x1)]) (st' := [.inl (-1 : Int)]) (M' := M) (P := True) rfl trivial ?_
    exact a_ri (md qX4_decided_ok) hz hR rfl (Or.inl rfl) h
  · refine a_run (md qX4_decided_ok) hz 1 [1] (pc' := 16) (lv' := [some (.inr 0), some (.inl x1)]) (st' := []) (M' := M) (P := (¬ r1 = 0) ∧ True) rfl ⟨hc, trivial⟩ ?_
    obtain ⟨h3, h⟩ := gd_elim h
    refine ite_elim h (fun hc h => ?_) (fun hc h => ?_)
    · refine a_run (md qX4_decided_ok) hz 7 [1] (pc' := 45) (lv' := [some (.inr 0), some (.inl x1)]) (st' := []) (M' := M) (P := (0 ≤ x1 ∧ x1 < 16) ∧ ((M 24 x1.toNat) = 0) ∧ True) rfl ⟨h3, hc, trivial⟩ ?_
      refine a_run (md qX4_decided_ok) hz 1 [] (pc' := 47) (lv' := [some (.inr 0), some (.inl x1)]) (st' := [.inl (-6 : Int)]) (M' := M) (P := True) rfl trivial ?_
      exact a_ri (md qX4_decided_ok) hz hR rfl (Or.inl rfl) h
    · refine a_run (md qX4_decided_ok) hz 7 [0] (pc' := 31) (lv' := [some (.inr 0), some (.inl x1)]) (st' := []) (M' := M) (P := (0 ≤ x1 ∧ x1 < 16) ∧ (¬ ((M 24 x1.toNat) = 0)) ∧ True) rfl ⟨h3, hc, trivial⟩ ?_
      refine a_run (md qX4_decided_ok) hz 4 [] (pc' := 39) (lv' := [some (.inr 0), some (.inl x1)]) (st' := [.inl x1, .inr 13]) (M' := M) (P := True) rfl trivial ?_
      obtain ⟨r2, hr, h⟩ := cal_elim h
      refine a_fV (as := [.inl x1]) (a := 13) (st := []) (mX3_chosenSpot z.1 hr) (md qX4_decided_ok) qX3_chosenSpot_ok hz lkX4_109 rfl 1 0 (by decide +kernel) rfl rfl rfl rfl ?_
      show Aw z 42 [some (.inr 0), some (.inl x1)] [.inl r2] M
      refine a_run (md qX4_decided_ok) hz 1 [] (pc' := 47) (lv' := [some (.inr 0), some (.inl x1)]) (st' := [.inl r2]) (M' := M) (P := True) rfl trivial ?_
      exact a_ri (md qX4_decided_ok) hz hR rfl (Or.inl rfl) h
def fX4_piece (M : Mm) (x1 : Int) : Option (Int) := cal (fX3_hasFix 2 M x1) (fun (r1 : Int) => if r1 = 0 then some (-1 : Int) else gd ((0 ≤ x1 ∧ x1 < 16)) (some (M 17 x1.toNat)))
set_option maxRecDepth 100000 in
theorem mX4_piece (g : Gx) {M : Mm} {x1 : Int} {r : Int} (h : fX4_piece M x1 = some r) : Ct g qX4_piece [.inr 0, .inl x1] M (fun r' M' => r' = some r ∧ M' = M) := by
  refine c_ofP h qX4_piece_ok (Nat.le_of_ble_eq_true rfl) (fun z hz Q hR h => ?_)
  unfold fX4_piece at h
  show Aw z 0 [some (.inr 0), some (.inl x1)] [] M
  refine a_run (md qX4_piece_ok) hz 4 [] (pc' := 8) (lv' := [some (.inr 0), some (.inl x1)]) (st' := [.inl x1, .inr 13]) (M' := M) (P := True) rfl trivial ?_
  obtain ⟨r1, hr, h⟩ := cal_elim h
  refine a_fV (as := [.inl x1]) (a := 13) (st := []) (mX3_hasFix_2 z.1 hr) (md qX4_piece_ok) qX3_hasFix_ok hz lkX4_98 rfl 1 0 (by decide +kernel) rfl rfl rfl rfl ?_
  show Aw z 11 [some (.inr 0), some (.inl x1)] [.inl r1] M
  refine ite_elim h (fun hc h => ?_) (fun hc h => ?_)
  · refine a_run (md qX4_piece_ok) hz 1 [0] (pc' := 14) (lv' := [some (.inr 0), some (.inl x1)]) (st' := []) (M' := M) (P := (¬ ¬ r1 = 0) ∧ True) rfl ⟨fun h9 => h9 hc, trivial⟩ ?_
    refine a_run (md qX4_piece_ok) hz 1 [] (pc' := 15) (lv' := [some (.inr 0), some (.inl x1)]) (st' := [.inl (-1 : Int)]) (M' := M) (P := True) rfl trivial ?_
    exact a_ri (md qX4_piece_ok) hz hR rfl (Or.inl rfl) h
  · refine a_run (md qX4_piece_ok) hz 1 [1] (pc' := 16) (lv' := [some (.inr 0), some (.inl x1)]) (st' := []) (M' := M) (P := (¬ r1 = 0) ∧ True) rfl ⟨hc, trivial⟩ ?_
    obtain ⟨h2, h⟩ := gd_elim h
    refine a_run (md qX4_piece_ok) hz 6 [] (pc' := 28) (lv' := [some (.inr 0), some (.inl x1)]) (st' := [.inl (M 17 x1.toNat)]) (M' := M) (P := (0 ≤ x1 ∧ x1 < 16) ∧ True) rfl ⟨h2, trivial⟩ ?_
    exact a_ri (md qX4_piece_ok) hz hR rfl (Or.inl rfl) h
def fX4_step (M : Mm) (x1 : Int) : Option (Int) := cal (fX3_hasFix 2 M x1) (fun (r1 : Int) => if r1 = 0 then some (-1 : Int) else cal (fX3_stepLength M x1) (fun (r2 : Int) => some r2))
set_option maxRecDepth 100000 in
theorem mX4_step (g : Gx) {M : Mm} {x1 : Int} {r : Int} (h : fX4_step M x1 = some r) : Ct g qX4_step [.inr 0, .inl x1] M (fun r' M' => r' = some r ∧ M' = M) := by
  refine c_ofP h qX4_step_ok (Nat.le_of_ble_eq_true rfl) (fun z hz Q hR h => ?_)
  unfold fX4_step at h
  show Aw z 0 [some (.inr 0), some (.inl x1)] [] M
  refine a_run (md qX4_step_ok) hz 4 [] (pc' := 8) (lv' := [some (.inr 0), some (.inl x1)]) (st' := [.inl x1, .inr 13]) (M' := M) (P := True) rfl trivial ?_
  obtain ⟨r1, hr, h⟩ := cal_elim h
  refine a_fV (as := [.inl x1]) (a := 13) (st := []) (mX3_hasFix_2 z.1 hr) (md qX4_step_ok) qX3_hasFix_ok hz lkX4_98 rfl 1 0 (by decide +kernel) rfl rfl rfl rfl ?_
  show Aw z 11 [some (.inr 0), some (.inl x1)] [.inl r1] M
  refine ite_elim h (fun hc h => ?_) (fun hc h => ?_)
  · refine a_run (md qX4_step_ok) hz 1 [0] (pc' := 14) (lv' := [some (.inr 0), some (.inl x1)]) (st' := []) (M' := M) (P := (¬ ¬ r1 = 0) ∧ True) rfl ⟨fun h9 => h9 hc, trivial⟩ ?_
    refine a_run (md qX4_step_ok) hz 1 [] (pc' := 15) (lv' := [some (.inr 0), some (.inl x1)]) (st' := [.inl (-1 : Int)]) (M' := M) (P := True) rfl trivial ?_
    exact a_ri (md qX4_step_ok) hz hR rfl (Or.inl rfl) h
  · refine a_run (md qX4_step_ok) hz 1 [1] (pc' := 16) (lv' := [some (.inr 0), some (.inl x1)]) (st' := []) (M' := M) (P := (¬ r1 = 0) ∧ True) rfl ⟨hc, trivial⟩ ?_
    refine a_run (md qX4_step_ok) hz 4 [] (pc' := 24) (lv' := [some (.inr 0), some (.inl x1)]) (st' := [.inl x1, .inr 13]) (M' := M) (P := True) rfl trivial ?_
    obtain ⟨r2, hr, h⟩ := cal_elim h
    refine a_fV (as := [.inl x1]) (a := 13) (st := []) (mX3_stepLength z.1 hr) (md qX4_step_ok) qX3_stepLength_ok hz lkX4_120 rfl 1 0 (by decide +kernel) rfl rfl rfl rfl ?_
    show Aw z 27 [some (.inr 0), some (.inl x1)] [.inl r2] M
    exact a_ri (md qX4_step_ok) hz hR rfl (Or.inl rfl) h
def fX4_through (M : Mm) (x1 : Int) (x2 : Int) : Option (Int) := cal (fX3_hasFix 2 M x1) (fun (r1 : Int) => if r1 = 0 then some (-1 : Int) else cal (fX3_stepCrossing M x1 x2) (fun (r2 : Int) => some r2))
set_option maxRecDepth 100000 in
theorem mX4_through (g : Gx) {M : Mm} {x1 : Int} {x2 : Int} {r : Int} (h : fX4_through M x1 x2 = some r) : Ct g qX4_through [.inr 0, .inl x1, .inl x2] M (fun r' M' => r' = some r ∧ M' = M) := by
  refine c_ofP h qX4_through_ok (Nat.le_of_ble_eq_true rfl) (fun z hz Q hR h => ?_)
  unfold fX4_through at h
  show Aw z 0 [some (.inr 0), some (.inl x1), some (.inl x2)] [] M
  refine a_run (md qX4_through_ok) hz 4 [] (pc' := 8) (lv' := [some (.inr 0), some (.inl x1), some (.inl x2)]) (st' := [.inl x1, .inr 13]) (M' := M) (P := True) rfl trivial ?_
  obtain ⟨r1, hr, h⟩ := cal_elim h
  refine a_fV (as := [.inl x1]) (a := 13) (st := []) (mX3_hasFix_2 z.1 hr) (md qX4_through_ok) qX3_hasFix_ok hz lkX4_98 rfl 1 0 (by decide +kernel) rfl rfl rfl rfl ?_
  show Aw z 11 [some (.inr 0), some (.inl x1), some (.inl x2)] [.inl r1] M
  refine ite_elim h (fun hc h => ?_) (fun hc h => ?_)
  · refine a_run (md qX4_through_ok) hz 1 [0] (pc' := 14) (lv' := [some (.inr 0), some (.inl x1), some (.inl x2)]) (st' := []) (M' := M) (P := (¬ ¬ r1 = 0) ∧ True) rfl ⟨fun h9 => h9 hc, trivial⟩ ?_
    refine a_run (md qX4_through_ok) hz 1 [] (pc' := 15) (lv' := [some (.inr 0), some (.inl x1), some (.inl x2)]) (st' := [.inl (-1 : Int)]) (M' := M) (P := True) rfl trivial ?_
    exact a_ri (md qX4_through_ok) hz hR rfl (Or.inl rfl) h
  · refine a_run (md qX4_through_ok) hz 1 [1] (pc' := 16) (lv' := [some (.inr 0), some (.inl x1), some (.inl x2)]) (st' := []) (M' := M) (P := (¬ r1 = 0) ∧ True) rfl ⟨hc, trivial⟩ ?_
    refine a_run (md qX4_through_ok) hz 5 [] (pc' := 25) (lv' := [some (.inr 0), some (.inl x1), some (.inl x2)]) (st' := [.inl x2, .inl x1, .inr 13]) (M' := M) (P := True) rfl trivial ?_
    obtain ⟨r2, hr, h⟩ := cal_elim h
    refine a_fV (as := [.inl x1, .inl x2]) (a := 13) (st := []) (mX3_stepCrossing z.1 hr) (md qX4_through_ok) qX3_stepCrossing_ok hz lkX4_123 rfl 2 0 (by decide +kernel) rfl rfl rfl rfl ?_
    show Aw z 28 [some (.inr 0), some (.inl x1), some (.inl x2)] [.inl r2] M
    exact a_ri (md qX4_through_ok) hz hR rfl (Or.inl rfl) h
def fX4_total (M : Mm) (x1 : Int) : Option (Int) := if x1 = 0 then cal (fX3_sumOfCosts M) (fun (r1 : Int) => some r1) else if x1 = 1 then cal (fX3_countPieces M) (fun (r2 : Int) => some r2) else if x1 = 2 then cal (fX3_countGaps M) (fun (r3 : Int) => some r3) else if x1 = 3 then cal (fX3_countDecided M) (fun (r4 : Int) => some r4) else if x1 = 4 then cal (fX3_sumOfSteps M) (fun (r5 : Int) => some r5) else some (-2 : Int)
set_option maxRecDepth 100000 in
theorem mX4_total (g : Gx) {M : Mm} {x1 : Int} {r : Int} (h : fX4_total M x1 = some r) : Ct g qX4_total [.inr 0, .inl x1] M (fun r' M' => r' = some r ∧ M' = M) := by
  refine c_ofP h qX4_total_ok (Nat.le_of_ble_eq_true rfl) (fun z hz Q hR h => ?_)
  unfold fX4_total at h
  show Aw z 0 [some (.inr 0), some (.inl x1)] [] M
  refine ite_elim h (fun hs0 h => ?_) (fun hs0 h => ?_)
  · refine a_run (md qX4_total_ok) hz 2 [0] (pc' := 36) (lv' := [some (.inr 0), some (.inl x1)]) (st' := []) (M' := M) (P := (x1 = (0 : Int) + ((0 : Nat) : Int)) ∧ True) rfl ⟨hs0.trans (by decide), trivial⟩ ?_
    refine a_run (md qX4_total_ok) hz 3 [] (pc' := 43) (lv' := [some (.inr 0), some (.inl x1)]) (st' := [.inr 13]) (M' := M) (P := True) rfl trivial ?_
    obtain ⟨r1, hr, h⟩ := cal_elim h
    refine a_fV (as := []) (a := 13) (st := []) (mX3_sumOfCosts z.1 hr) (md qX4_total_ok) qX3_sumOfCosts_ok hz lkX4_126 rfl 0 0 (by decide +kernel) rfl rfl rfl rfl ?_
    show Aw z 46 [some (.inr 0), some (.inl x1)] [.inl r1] M
    exact a_ri (md qX4_total_ok) hz hR rfl (Or.inl rfl) h
  · refine ite_elim h (fun hs1 h => ?_) (fun hs1 h => ?_)
    · refine a_run (md qX4_total_ok) hz 2 [1] (pc' := 47) (lv' := [some (.inr 0), some (.inl x1)]) (st' := []) (M' := M) (P := (x1 = (0 : Int) + ((1 : Nat) : Int)) ∧ True) rfl ⟨hs1.trans (by decide), trivial⟩ ?_
      refine a_run (md qX4_total_ok) hz 3 [] (pc' := 54) (lv' := [some (.inr 0), some (.inl x1)]) (st' := [.inr 13]) (M' := M) (P := True) rfl trivial ?_
      obtain ⟨r2, hr, h⟩ := cal_elim h
      refine a_fV (as := []) (a := 13) (st := []) (mX3_countPieces z.1 hr) (md qX4_total_ok) qX3_countPieces_ok hz lkX4_130 rfl 0 0 (by decide +kernel) rfl rfl rfl rfl ?_
      show Aw z 57 [some (.inr 0), some (.inl x1)] [.inl r2] M
      exact a_ri (md qX4_total_ok) hz hR rfl (Or.inl rfl) h
    · refine ite_elim h (fun hs2 h => ?_) (fun hs2 h => ?_)
      · refine a_run (md qX4_total_ok) hz 2 [2] (pc' := 58) (lv' := [some (.inr 0), some (.inl x1)]) (st' := []) (M' := M) (P := (x1 = (0 : Int) + ((2 : Nat) : Int)) ∧ True) rfl ⟨hs2.trans (by decide), trivial⟩ ?_
        refine a_run (md qX4_total_ok) hz 3 [] (pc' := 65) (lv' := [some (.inr 0), some (.inl x1)]) (st' := [.inr 13]) (M' := M) (P := True) rfl trivial ?_
        obtain ⟨r3, hr, h⟩ := cal_elim h
        refine a_fV (as := []) (a := 13) (st := []) (mX3_countGaps z.1 hr) (md qX4_total_ok) qX3_countGaps_ok hz lkX4_133 rfl 0 0 (by decide +kernel) rfl rfl rfl rfl ?_
        show Aw z 68 [some (.inr 0), some (.inl x1)] [.inl r3] M
        exact a_ri (md qX4_total_ok) hz hR rfl (Or.inl rfl) h
      · refine ite_elim h (fun hs3 h => ?_) (fun hs3 h => ?_)
        · refine a_run (md qX4_total_ok) hz 2 [3] (pc' := 69) (lv' := [some (.inr 0), some (.inl x1)]) (st' := []) (M' := M) (P := (x1 = (0 : Int) + ((3 : Nat) : Int)) ∧ True) rfl ⟨hs3.trans (by decide), trivial⟩ ?_
          refine a_run (md qX4_total_ok) hz 3 [] (pc' := 76) (lv' := [some (.inr 0), some (.inl x1)]) (st' := [.inr 13]) (M' := M) (P := True) rfl trivial ?_
          obtain ⟨r4, hr, h⟩ := cal_elim h
          refine a_fV (as := []) (a := 13) (st := []) (mX3_countDecided z.1 hr) (md qX4_total_ok) qX3_countDecided_ok hz lkX4_136 rfl 0 0 (by decide +kernel) rfl rfl rfl rfl ?_
          show Aw z 79 [some (.inr 0), some (.inl x1)] [.inl r4] M
          exact a_ri (md qX4_total_ok) hz hR rfl (Or.inl rfl) h
        · refine ite_elim h (fun hs4 h => ?_) (fun hs4 h => ?_)
          · refine a_run (md qX4_total_ok) hz 2 [4] (pc' := 80) (lv' := [some (.inr 0), some (.inl x1)]) (st' := []) (M' := M) (P := (x1 = (0 : Int) + ((4 : Nat) : Int)) ∧ True) rfl ⟨hs4.trans (by decide), trivial⟩ ?_
            refine a_run (md qX4_total_ok) hz 3 [] (pc' := 87) (lv' := [some (.inr 0), some (.inl x1)]) (st' := [.inr 13]) (M' := M) (P := True) rfl trivial ?_
            obtain ⟨r5, hr, h⟩ := cal_elim h
            refine a_fV (as := []) (a := 13) (st := []) (mX3_sumOfSteps z.1 hr) (md qX4_total_ok) qX3_sumOfSteps_ok hz lkX4_139 rfl 0 0 (by decide +kernel) rfl rfl rfl rfl ?_
            show Aw z 90 [some (.inr 0), some (.inl x1)] [.inl r5] M
            exact a_ri (md qX4_total_ok) hz hR rfl (Or.inl rfl) h
          · refine a_run (md qX4_total_ok) hz 2 [5] (pc' := 91) (lv' := [some (.inr 0), some (.inl x1)]) (st' := []) (M' := M) (P := (x1 < (0 : Int) ∨ (4 : Int) < x1) ∧ True) rfl ⟨by omega, trivial⟩ ?_
            refine a_run (md qX4_total_ok) hz 1 [] (pc' := 93) (lv' := [some (.inr 0), some (.inl x1)]) (st' := [.inl (-2 : Int)]) (M' := M) (P := True) rfl trivial ?_
            exact a_ri (md qX4_total_ok) hz hR rfl (Or.inl rfl) h
def fX4_image (M : Mm) (x1 : Int) : Option (Int × Mm) := if x1 < 0 then some ((-2 : Int), M) else if x1 < (2 : Int) then if x1 = 0 then cal (fX2_copyFrom 25 2 M) (fun (M1 : Mm) => if x1 = 0 then bnd (up M1 25 3 (1 : Int)) (fun (M2 : Mm) => some ((1 : Int), M2)) else if x1 = 1 then bnd (up M1 48 3 (1 : Int)) (fun (M3 : Mm) => some ((1 : Int), M3)) else none) else if x1 = 1 then cal (fX2_copyFrom 48 2 M) (fun (M4 : Mm) => if x1 = 0 then bnd (up M4 25 3 (1 : Int)) (fun (M5 : Mm) => some ((1 : Int), M5)) else if x1 = 1 then bnd (up M4 48 3 (1 : Int)) (fun (M6 : Mm) => some ((1 : Int), M6)) else none) else none else some ((-2 : Int), M)
set_option maxRecDepth 100000 in
theorem mX4_image (g : Gx) {M : Mm} {x1 : Int} {r : Int} {M2 : Mm} (h : fX4_image M x1 = some (r, M2)) : Ct g qX4_image [.inr 0, .inl x1] M (fun r' M' => r' = some r ∧ M' = M2) := by
  refine c_ofI h qX4_image_ok (Nat.le_of_ble_eq_true rfl) (fun z hz Q hR h => ?_)
  unfold fX4_image at h
  show Aw z 0 [some (.inr 0), some (.inl x1)] [] M
  refine ite_elim h (fun hc h => ?_) (fun hc h => ?_)
  · refine a_run (md qX4_image_ok) hz 2 [1] (pc' := 9) (lv' := [some (.inr 0), some (.inl x1)]) (st' := []) (M' := M) (P := (x1 < 0) ∧ True) rfl ⟨hc, trivial⟩ ?_
    refine a_run (md qX4_image_ok) hz 1 [] (pc' := 11) (lv' := [some (.inr 0), some (.inl x1)]) (st' := [.inl (-2 : Int)]) (M' := M) (P := True) rfl trivial ?_
    exact a_ri (md qX4_image_ok) hz hR rfl (Or.inl rfl) h
  · refine a_run (md qX4_image_ok) hz 2 [0] (pc' := 4) (lv' := [some (.inr 0), some (.inl x1)]) (st' := []) (M' := M) (P := (¬ (x1 < 0)) ∧ True) rfl ⟨hc, trivial⟩ ?_
    refine ite_elim h (fun hc h => ?_) (fun hc h => ?_)
    · refine a_run (md qX4_image_ok) hz 3 [1] (pc' := 12) (lv' := [some (.inr 0), some (.inl x1)]) (st' := []) (M' := M) (P := (x1 < (2 : Int)) ∧ True) rfl ⟨hc, trivial⟩ ?_
      refine ite_elim h (fun hc h => ?_) (fun hc h => ?_)
      · refine a_run (md qX4_image_ok) hz 4 [0] (pc' := 18) (lv' := [some (.inr 0), some (.inl x1)]) (st' := [.inr 25]) (M' := M) (P := (x1 = ((0 : Nat) : Int)) ∧ True) rfl ⟨hc, trivial⟩ ?_
        refine a_run (md qX4_image_ok) hz 2 [] (pc' := 22) (lv' := [some (.inr 0), some (.inl x1)]) (st' := [.inr 2, .inr 25]) (M' := M) (P := True) rfl trivial ?_
        obtain ⟨M1, hr, h⟩ := cal_elim h
        refine a_fV (as := [.inr 2]) (a := 25) (st := []) (mX2_copyFrom_25_2 z.1 hr) (md qX4_image_ok) qX2_copyFrom_ok hz lkX4_142 rfl 1 0 (by decide +kernel) rfl rfl rfl rfl ?_
        show Aw z 25 [some (.inr 0), some (.inl x1)] [] M1
        refine ite_elim h (fun hc h => ?_) (fun hc h => ?_)
        · refine a_run (md qX4_image_ok) hz 4 [0] (pc' := 31) (lv' := [some (.inr 0), some (.inl x1)]) (st' := [.inr 25]) (M' := M1) (P := (x1 = ((0 : Nat) : Int)) ∧ True) rfl ⟨hc, trivial⟩ ?_
          refine a_run (md qX4_image_ok) hz 2 [] (pc' := 35) (lv' := [some (.inr 0), some (.inl x1)]) (st' := []) (M' := (up M1 25 3 (1 : Int))) (P := ((1 : Int) = 0 ∨ (1 : Int) = 1) ∧ True) rfl ⟨by decide, trivial⟩ ?_
          refine bnd_elim (G := fun (M2 : Mm) => Aw z 35 [some (.inr 0), some (.inl x1)] [] M2) h (fun M2 h => ?_)
          refine a_run (md qX4_image_ok) hz 1 [] (pc' := 36) (lv' := [some (.inr 0), some (.inl x1)]) (st' := [.inl (1 : Int)]) (M' := M2) (P := True) rfl trivial ?_
          exact a_ri (md qX4_image_ok) hz hR rfl (Or.inl rfl) h
        · refine ite_elim h (fun hc h => ?_) (fun hc h => ?_)
          · refine a_run (md qX4_image_ok) hz 4 [1] (pc' := 31) (lv' := [some (.inr 0), some (.inl x1)]) (st' := [.inr 48]) (M' := M1) (P := (x1 = ((1 : Nat) : Int)) ∧ True) rfl ⟨hc, trivial⟩ ?_
            refine a_run (md qX4_image_ok) hz 2 [] (pc' := 35) (lv' := [some (.inr 0), some (.inl x1)]) (st' := []) (M' := (up M1 48 3 (1 : Int))) (P := ((1 : Int) = 0 ∨ (1 : Int) = 1) ∧ True) rfl ⟨by decide, trivial⟩ ?_
            refine bnd_elim (G := fun (M3 : Mm) => Aw z 35 [some (.inr 0), some (.inl x1)] [] M3) h (fun M3 h => ?_)
            refine a_run (md qX4_image_ok) hz 1 [] (pc' := 36) (lv' := [some (.inr 0), some (.inl x1)]) (st' := [.inl (1 : Int)]) (M' := M3) (P := True) rfl trivial ?_
            exact a_ri (md qX4_image_ok) hz hR rfl (Or.inl rfl) h
          · exact (show False from h).elim
      · refine ite_elim h (fun hc h => ?_) (fun hc h => ?_)
        · refine a_run (md qX4_image_ok) hz 4 [1] (pc' := 18) (lv' := [some (.inr 0), some (.inl x1)]) (st' := [.inr 48]) (M' := M) (P := (x1 = ((1 : Nat) : Int)) ∧ True) rfl ⟨hc, trivial⟩ ?_
          refine a_run (md qX4_image_ok) hz 2 [] (pc' := 22) (lv' := [some (.inr 0), some (.inl x1)]) (st' := [.inr 2, .inr 48]) (M' := M) (P := True) rfl trivial ?_
          obtain ⟨M4, hr, h⟩ := cal_elim h
          refine a_fV (as := [.inr 2]) (a := 48) (st := []) (mX2_copyFrom_48_2 z.1 hr) (md qX4_image_ok) qX2_copyFrom_ok hz lkX4_142 rfl 1 0 (by decide +kernel) rfl rfl rfl rfl ?_
          show Aw z 25 [some (.inr 0), some (.inl x1)] [] M4
          refine ite_elim h (fun hc h => ?_) (fun hc h => ?_)
          · refine a_run (md qX4_image_ok) hz 4 [0] (pc' := 31) (lv' := [some (.inr 0), some (.inl x1)]) (st' := [.inr 25]) (M' := M4) (P := (x1 = ((0 : Nat) : Int)) ∧ True) rfl ⟨hc, trivial⟩ ?_
            refine a_run (md qX4_image_ok) hz 2 [] (pc' := 35) (lv' := [some (.inr 0), some (.inl x1)]) (st' := []) (M' := (up M4 25 3 (1 : Int))) (P := ((1 : Int) = 0 ∨ (1 : Int) = 1) ∧ True) rfl ⟨by decide, trivial⟩ ?_
            refine bnd_elim (G := fun (M5 : Mm) => Aw z 35 [some (.inr 0), some (.inl x1)] [] M5) h (fun M5 h => ?_)
            refine a_run (md qX4_image_ok) hz 1 [] (pc' := 36) (lv' := [some (.inr 0), some (.inl x1)]) (st' := [.inl (1 : Int)]) (M' := M5) (P := True) rfl trivial ?_
            exact a_ri (md qX4_image_ok) hz hR rfl (Or.inl rfl) h
          · refine ite_elim h (fun hc h => ?_) (fun hc h => ?_)
            · refine a_run (md qX4_image_ok) hz 4 [1] (pc' := 31) (lv' := [some (.inr 0), some (.inl x1)]) (st' := [.inr 48]) (M' := M4) (P := (x1 = ((1 : Nat) : Int)) ∧ True) rfl ⟨hc, trivial⟩ ?_
              refine a_run (md qX4_image_ok) hz 2 [] (pc' := 35) (lv' := [some (.inr 0), some (.inl x1)]) (st' := []) (M' := (up M4 48 3 (1 : Int))) (P := ((1 : Int) = 0 ∨ (1 : Int) = 1) ∧ True) rfl ⟨by decide, trivial⟩ ?_
              refine bnd_elim (G := fun (M6 : Mm) => Aw z 35 [some (.inr 0), some (.inl x1)] [] M6) h (fun M6 h => ?_)
              refine a_run (md qX4_image_ok) hz 1 [] (pc' := 36) (lv' := [some (.inr 0), some (.inl x1)]) (st' := [.inl (1 : Int)]) (M' := M6) (P := True) rfl trivial ?_
              exact a_ri (md qX4_image_ok) hz hR rfl (Or.inl rfl) h
            · exact (show False from h).elim
        · exact (show False from h).elim
    · refine a_run (md qX4_image_ok) hz 3 [0] (pc' := 9) (lv' := [some (.inr 0), some (.inl x1)]) (st' := []) (M' := M) (P := (¬ (x1 < (2 : Int))) ∧ True) rfl ⟨hc, trivial⟩ ?_
      refine a_run (md qX4_image_ok) hz 1 [] (pc' := 11) (lv' := [some (.inr 0), some (.inl x1)]) (st' := [.inl (-2 : Int)]) (M' := M) (P := True) rfl trivial ?_
      exact a_ri (md qX4_image_ok) hz hR rfl (Or.inl rfl) h
def fX4_restore (M : Mm) (x1 : Int) : Option (Int × Mm) := if x1 < 0 then some ((-2 : Int), M) else if x1 < (2 : Int) then if x1 = 0 then if (M 25 3) = 0 then some ((-3 : Int), M) else if x1 = 0 then cal (fX2_copyFrom 2 25 M) (fun (M1 : Mm) => some ((1 : Int), M1)) else if x1 = 1 then cal (fX2_copyFrom 2 48 M) (fun (M2 : Mm) => some ((1 : Int), M2)) else none else if x1 = 1 then if (M 48 3) = 0 then some ((-3 : Int), M) else if x1 = 0 then cal (fX2_copyFrom 2 25 M) (fun (M3 : Mm) => some ((1 : Int), M3)) else if x1 = 1 then cal (fX2_copyFrom 2 48 M) (fun (M4 : Mm) => some ((1 : Int), M4)) else none else none else some ((-2 : Int), M)
set_option maxRecDepth 100000 in
theorem mX4_restore (g : Gx) {M : Mm} {x1 : Int} {r : Int} {M2 : Mm} (h : fX4_restore M x1 = some (r, M2)) : Ct g qX4_restore [.inr 0, .inl x1] M (fun r' M' => r' = some r ∧ M' = M2) := by
  refine c_ofI h qX4_restore_ok (Nat.le_of_ble_eq_true rfl) (fun z hz Q hR h => ?_)
  unfold fX4_restore at h
  show Aw z 0 [some (.inr 0), some (.inl x1)] [] M
  refine ite_elim h (fun hc h => ?_) (fun hc h => ?_)
  · refine a_run (md qX4_restore_ok) hz 2 [1] (pc' := 9) (lv' := [some (.inr 0), some (.inl x1)]) (st' := []) (M' := M) (P := (x1 < 0) ∧ True) rfl ⟨hc, trivial⟩ ?_
    refine a_run (md qX4_restore_ok) hz 1 [] (pc' := 11) (lv' := [some (.inr 0), some (.inl x1)]) (st' := [.inl (-2 : Int)]) (M' := M) (P := True) rfl trivial ?_
    exact a_ri (md qX4_restore_ok) hz hR rfl (Or.inl rfl) h
  · refine a_run (md qX4_restore_ok) hz 2 [0] (pc' := 4) (lv' := [some (.inr 0), some (.inl x1)]) (st' := []) (M' := M) (P := (¬ (x1 < 0)) ∧ True) rfl ⟨hc, trivial⟩ ?_
    refine ite_elim h (fun hc h => ?_) (fun hc h => ?_)
    · refine a_run (md qX4_restore_ok) hz 3 [1] (pc' := 12) (lv' := [some (.inr 0), some (.inl x1)]) (st' := []) (M' := M) (P := (x1 < (2 : Int)) ∧ True) rfl ⟨hc, trivial⟩ ?_
      refine ite_elim h (fun hc h => ?_) (fun hc h => ?_)
      · refine a_run (md qX4_restore_ok) hz 4 [0] (pc' := 18) (lv' := [some (.inr 0), some (.inl x1)]) (st' := [.inr 25]) (M' := M) (P := (x1 = ((0 : Nat) : Int)) ∧ True) rfl ⟨hc, trivial⟩ ?_
        refine ite_elim h (fun hc h => ?_) (fun hc h => ?_)
        · refine a_run (md qX4_restore_ok) hz 2 [0] (pc' := 24) (lv' := [some (.inr 0), some (.inl x1)]) (st' := []) (M' := M) (P := (¬ ¬ (M 25 3) = 0) ∧ True) rfl ⟨fun h9 => h9 hc, trivial⟩ ?_
          refine a_run (md qX4_restore_ok) hz 1 [] (pc' := 26) (lv' := [some (.inr 0), some (.inl x1)]) (st' := [.inl (-3 : Int)]) (M' := M) (P := True) rfl trivial ?_
          exact a_ri (md qX4_restore_ok) hz hR rfl (Or.inl rfl) h
        · refine a_run (md qX4_restore_ok) hz 2 [1] (pc' := 27) (lv' := [some (.inr 0), some (.inl x1)]) (st' := []) (M' := M) (P := (¬ (M 25 3) = 0) ∧ True) rfl ⟨hc, trivial⟩ ?_
          refine ite_elim h (fun hc h => ?_) (fun hc h => ?_)
          · refine a_run (md qX4_restore_ok) hz 6 [0] (pc' := 37) (lv' := [some (.inr 0), some (.inl x1)]) (st' := [.inr 25, .inr 2]) (M' := M) (P := (x1 = ((0 : Nat) : Int)) ∧ True) rfl ⟨hc, trivial⟩ ?_
            obtain ⟨M1, hr, h⟩ := cal_elim h
            refine a_fV (as := [.inr 25]) (a := 2) (st := []) (mX2_copyFrom_2_25 z.1 hr) (md qX4_restore_ok) qX2_copyFrom_ok hz lkX4_142 rfl 1 0 (by decide +kernel) rfl rfl rfl rfl ?_
            show Aw z 40 [some (.inr 0), some (.inl x1)] [] M1
            refine a_run (md qX4_restore_ok) hz 1 [] (pc' := 41) (lv' := [some (.inr 0), some (.inl x1)]) (st' := [.inl (1 : Int)]) (M' := M1) (P := True) rfl trivial ?_
            exact a_ri (md qX4_restore_ok) hz hR rfl (Or.inl rfl) h
          · refine ite_elim h (fun hc h => ?_) (fun hc h => ?_)
            · refine a_run (md qX4_restore_ok) hz 6 [1] (pc' := 37) (lv' := [some (.inr 0), some (.inl x1)]) (st' := [.inr 48, .inr 2]) (M' := M) (P := (x1 = ((1 : Nat) : Int)) ∧ True) rfl ⟨hc, trivial⟩ ?_
              obtain ⟨M2, hr, h⟩ := cal_elim h
              refine a_fV (as := [.inr 48]) (a := 2) (st := []) (mX2_copyFrom_2_48 z.1 hr) (md qX4_restore_ok) qX2_copyFrom_ok hz lkX4_142 rfl 1 0 (by decide +kernel) rfl rfl rfl rfl ?_
              show Aw z 40 [some (.inr 0), some (.inl x1)] [] M2
              refine a_run (md qX4_restore_ok) hz 1 [] (pc' := 41) (lv' := [some (.inr 0), some (.inl x1)]) (st' := [.inl (1 : Int)]) (M' := M2) (P := True) rfl trivial ?_
              exact a_ri (md qX4_restore_ok) hz hR rfl (Or.inl rfl) h
            · exact (show False from h).elim
      · refine ite_elim h (fun hc h => ?_) (fun hc h => ?_)
        · refine a_run (md qX4_restore_ok) hz 4 [1] (pc' := 18) (lv' := [some (.inr 0), some (.inl x1)]) (st' := [.inr 48]) (M' := M) (P := (x1 = ((1 : Nat) : Int)) ∧ True) rfl ⟨hc, trivial⟩ ?_
          refine ite_elim h (fun hc h => ?_) (fun hc h => ?_)
          · refine a_run (md qX4_restore_ok) hz 2 [0] (pc' := 24) (lv' := [some (.inr 0), some (.inl x1)]) (st' := []) (M' := M) (P := (¬ ¬ (M 48 3) = 0) ∧ True) rfl ⟨fun h9 => h9 hc, trivial⟩ ?_
            refine a_run (md qX4_restore_ok) hz 1 [] (pc' := 26) (lv' := [some (.inr 0), some (.inl x1)]) (st' := [.inl (-3 : Int)]) (M' := M) (P := True) rfl trivial ?_
            exact a_ri (md qX4_restore_ok) hz hR rfl (Or.inl rfl) h
          · refine a_run (md qX4_restore_ok) hz 2 [1] (pc' := 27) (lv' := [some (.inr 0), some (.inl x1)]) (st' := []) (M' := M) (P := (¬ (M 48 3) = 0) ∧ True) rfl ⟨hc, trivial⟩ ?_
            refine ite_elim h (fun hc h => ?_) (fun hc h => ?_)
            · refine a_run (md qX4_restore_ok) hz 6 [0] (pc' := 37) (lv' := [some (.inr 0), some (.inl x1)]) (st' := [.inr 25, .inr 2]) (M' := M) (P := (x1 = ((0 : Nat) : Int)) ∧ True) rfl ⟨hc, trivial⟩ ?_
              obtain ⟨M3, hr, h⟩ := cal_elim h
              refine a_fV (as := [.inr 25]) (a := 2) (st := []) (mX2_copyFrom_2_25 z.1 hr) (md qX4_restore_ok) qX2_copyFrom_ok hz lkX4_142 rfl 1 0 (by decide +kernel) rfl rfl rfl rfl ?_
              show Aw z 40 [some (.inr 0), some (.inl x1)] [] M3
              refine a_run (md qX4_restore_ok) hz 1 [] (pc' := 41) (lv' := [some (.inr 0), some (.inl x1)]) (st' := [.inl (1 : Int)]) (M' := M3) (P := True) rfl trivial ?_
              exact a_ri (md qX4_restore_ok) hz hR rfl (Or.inl rfl) h
            · refine ite_elim h (fun hc h => ?_) (fun hc h => ?_)
              · refine a_run (md qX4_restore_ok) hz 6 [1] (pc' := 37) (lv' := [some (.inr 0), some (.inl x1)]) (st' := [.inr 48, .inr 2]) (M' := M) (P := (x1 = ((1 : Nat) : Int)) ∧ True) rfl ⟨hc, trivial⟩ ?_
                obtain ⟨M4, hr, h⟩ := cal_elim h
                refine a_fV (as := [.inr 48]) (a := 2) (st := []) (mX2_copyFrom_2_48 z.1 hr) (md qX4_restore_ok) qX2_copyFrom_ok hz lkX4_142 rfl 1 0 (by decide +kernel) rfl rfl rfl rfl ?_
                show Aw z 40 [some (.inr 0), some (.inl x1)] [] M4
                refine a_run (md qX4_restore_ok) hz 1 [] (pc' := 41) (lv' := [some (.inr 0), some (.inl x1)]) (st' := [.inl (1 : Int)]) (M' := M4) (P := True) rfl trivial ?_
                exact a_ri (md qX4_restore_ok) hz hR rfl (Or.inl rfl) h
              · exact (show False from h).elim
        · exact (show False from h).elim
    · refine a_run (md qX4_restore_ok) hz 3 [0] (pc' := 9) (lv' := [some (.inr 0), some (.inl x1)]) (st' := []) (M' := M) (P := (¬ (x1 < (2 : Int))) ∧ True) rfl ⟨hc, trivial⟩ ?_
      refine a_run (md qX4_restore_ok) hz 1 [] (pc' := 11) (lv' := [some (.inr 0), some (.inl x1)]) (st' := [.inl (-2 : Int)]) (M' := M) (P := True) rfl trivial ?_
      exact a_ri (md qX4_restore_ok) hz hR rfl (Or.inl rfl) h
def fX4_tellCount (M : Mm) (x1 : Int) : Option (Int) := if x1 = 0 then some (M 3 0) else if x1 = 1 then some (M 3 1) else if x1 = 2 then some (M 13 2) else gd ((inR (x1 - (3 : Int)))) (cal (fX1_tellRule M (x1 - (3 : Int))) (fun (r1 : Int) => some r1))
set_option maxRecDepth 100000 in
theorem mX4_tellCount (g : Gx) {M : Mm} {x1 : Int} {r : Int} (h : fX4_tellCount M x1 = some r) : Ct g qX4_tellCount [.inr 0, .inl x1] M (fun r' M' => r' = some r ∧ M' = M) := by
  refine c_ofP h qX4_tellCount_ok (Nat.le_of_ble_eq_true rfl) (fun z hz Q hR h => ?_)
  unfold fX4_tellCount at h
  show Aw z 0 [some (.inr 0), some (.inl x1)] [] M
  refine ite_elim h (fun hs0 h => ?_) (fun hs0 h => ?_)
  · refine a_run (md qX4_tellCount_ok) hz 2 [0] (pc' := 28) (lv' := [some (.inr 0), some (.inl x1)]) (st' := []) (M' := M) (P := (x1 = (0 : Int) + ((0 : Nat) : Int)) ∧ True) rfl ⟨hs0.trans (by decide), trivial⟩ ?_
    refine a_run (md qX4_tellCount_ok) hz 4 [] (pc' := 38) (lv' := [some (.inr 0), some (.inl x1)]) (st' := [.inl (M 3 0)]) (M' := M) (P := True) rfl trivial ?_
    exact a_ri (md qX4_tellCount_ok) hz hR rfl (Or.inl rfl) h
  · refine ite_elim h (fun hs1 h => ?_) (fun hs1 h => ?_)
    · refine a_run (md qX4_tellCount_ok) hz 2 [1] (pc' := 39) (lv' := [some (.inr 0), some (.inl x1)]) (st' := []) (M' := M) (P := (x1 = (0 : Int) + ((1 : Nat) : Int)) ∧ True) rfl ⟨hs1.trans (by decide), trivial⟩ ?_
      refine a_run (md qX4_tellCount_ok) hz 4 [] (pc' := 49) (lv' := [some (.inr 0), some (.inl x1)]) (st' := [.inl (M 3 1)]) (M' := M) (P := True) rfl trivial ?_
      exact a_ri (md qX4_tellCount_ok) hz hR rfl (Or.inl rfl) h
    · refine ite_elim h (fun hs2 h => ?_) (fun hs2 h => ?_)
      · refine a_run (md qX4_tellCount_ok) hz 2 [2] (pc' := 50) (lv' := [some (.inr 0), some (.inl x1)]) (st' := []) (M' := M) (P := (x1 = (0 : Int) + ((2 : Nat) : Int)) ∧ True) rfl ⟨hs2.trans (by decide), trivial⟩ ?_
        refine a_run (md qX4_tellCount_ok) hz 4 [] (pc' := 60) (lv' := [some (.inr 0), some (.inl x1)]) (st' := [.inl (M 13 2)]) (M' := M) (P := True) rfl trivial ?_
        exact a_ri (md qX4_tellCount_ok) hz hR rfl (Or.inl rfl) h
      · refine a_run (md qX4_tellCount_ok) hz 2 [3] (pc' := 61) (lv' := [some (.inr 0), some (.inl x1)]) (st' := []) (M' := M) (P := (x1 < (0 : Int) ∨ (2 : Int) < x1) ∧ True) rfl ⟨by omega, trivial⟩ ?_
        obtain ⟨h2, h⟩ := gd_elim h
        refine a_run (md qX4_tellCount_ok) hz 6 [] (pc' := 71) (lv' := [some (.inr 0), some (.inl x1)]) (st' := [.inl (x1 - (3 : Int)), .inr 11]) (M' := M) (P := (inR (x1 - (3 : Int))) ∧ True) rfl ⟨h2, trivial⟩ ?_
        obtain ⟨r1, hr, h⟩ := cal_elim h
        refine a_fV (as := [.inl (x1 - (3 : Int))]) (a := 11) (st := []) (mX1_tellRule z.1 hr) (md qX4_tellCount_ok) qX1_tellRule_ok hz lkX4_162 rfl 1 0 (by decide +kernel) rfl rfl rfl rfl ?_
        show Aw z 74 [some (.inr 0), some (.inl x1)] [.inl r1] M
        exact a_ri (md qX4_tellCount_ok) hz hR rfl (Or.inl rfl) h
def fX4_told (M : Mm) (x1 : Int) : Option (Int) := if 0 ≤ x1 then bnd (x1.tmod (100 : Int)) (fun (t1 : Int) => if (x1.tdiv (100 : Int)) = 0 then cal (fX4_tellCount M t1) (fun (r2 : Int) => some r2) else if (x1.tdiv (100 : Int)) = 1 then cal (fX0_tellCrossing M t1) (fun (r3 : Int) => some r3) else if (x1.tdiv (100 : Int)) = 2 then cal (fX0_tellRoad M t1) (fun (r4 : Int) => some r4) else if (x1.tdiv (100 : Int)) = 3 then cal (fX3_tellFix M t1) (fun (r5 : Int) => some r5) else some (-2 : Int)) else some (-2 : Int)
set_option maxRecDepth 100000 in
theorem mX4_told (g : Gx) {M : Mm} {x1 : Int} {r : Int} (h : fX4_told M x1 = some r) : Ct g qX4_told [.inr 0, .inl x1] M (fun r' M' => r' = some r ∧ M' = M) := by
  refine c_ofP h qX4_told_ok (Nat.le_of_ble_eq_true rfl) (fun z hz Q hR h => ?_)
  unfold fX4_told at h
  show Aw z 0 [some (.inr 0), some (.inl x1), none] [] M
  refine ite_elim h (fun hc h => ?_) (fun hc h => ?_)
  · refine a_run (md qX4_told_ok) hz 2 [1] (pc' := 7) (lv' := [some (.inr 0), some (.inl x1), none]) (st' := []) (M' := M) (P := (0 ≤ x1) ∧ True) rfl ⟨hc, trivial⟩ ?_
    refine a_run (md qX4_told_ok) hz 4 [] (pc' := 12) (lv' := [some (.inr 0), some (.inl x1), some (.inl (x1.tmod (100 : Int)))]) (st' := []) (M' := M) (P := (¬ (100 : Int) = 0 ∧ ¬ (100 : Int) = -1) ∧ True) rfl ⟨by decide, trivial⟩ ?_
    refine bnd_elim (G := fun (t1 : Int) => Aw z 12 [some (.inr 0), some (.inl x1), some (.inl t1)] [] M) h (fun t1 h => ?_)
    refine ite_elim h (fun hs0 h => ?_) (fun hs0 h => ?_)
    · refine a_run (md qX4_told_ok) hz 4 [0] (pc' := 48) (lv' := [some (.inr 0), some (.inl x1), some (.inl t1)]) (st' := []) (M' := M) (P := (¬ (100 : Int) = 0 ∧ ¬ (100 : Int) = -1) ∧ ((x1.tdiv (100 : Int)) = (0 : Int) + ((0 : Nat) : Int)) ∧ True) rfl ⟨by decide, hs0.trans (by decide), trivial⟩ ?_
      refine a_run (md qX4_told_ok) hz 2 [] (pc' := 50) (lv' := [some (.inr 0), some (.inl x1), some (.inl t1)]) (st' := [.inl t1, .inr 0]) (M' := M) (P := True) rfl trivial ?_
      obtain ⟨r2, hr, h⟩ := cal_elim h
      refine a_fV (as := [.inl t1]) (a := 0) (st := []) (mX4_tellCount z.1 hr) (md qX4_told_ok) qX4_tellCount_ok hz lkX4_150 rfl 1 0 (by decide +kernel) rfl rfl rfl rfl ?_
      show Aw z 53 [some (.inr 0), some (.inl x1), some (.inl t1)] [.inl r2] M
      exact a_ri (md qX4_told_ok) hz hR rfl (Or.inl rfl) h
    · refine ite_elim h (fun hs1 h => ?_) (fun hs1 h => ?_)
      · refine a_run (md qX4_told_ok) hz 4 [1] (pc' := 54) (lv' := [some (.inr 0), some (.inl x1), some (.inl t1)]) (st' := []) (M' := M) (P := (¬ (100 : Int) = 0 ∧ ¬ (100 : Int) = -1) ∧ ((x1.tdiv (100 : Int)) = (0 : Int) + ((1 : Nat) : Int)) ∧ True) rfl ⟨by decide, hs1.trans (by decide), trivial⟩ ?_
        refine a_run (md qX4_told_ok) hz 4 [] (pc' := 62) (lv' := [some (.inr 0), some (.inl x1), some (.inl t1)]) (st' := [.inl t1, .inr 3]) (M' := M) (P := True) rfl trivial ?_
        obtain ⟨r3, hr, h⟩ := cal_elim h
        refine a_fV (as := [.inl t1]) (a := 3) (st := []) (mX0_tellCrossing z.1 hr) (md qX4_told_ok) qX0_tellCrossing_ok hz lkX4_153 rfl 1 0 (by decide +kernel) rfl rfl rfl rfl ?_
        show Aw z 65 [some (.inr 0), some (.inl x1), some (.inl t1)] [.inl r3] M
        exact a_ri (md qX4_told_ok) hz hR rfl (Or.inl rfl) h
      · refine ite_elim h (fun hs2 h => ?_) (fun hs2 h => ?_)
        · refine a_run (md qX4_told_ok) hz 4 [2] (pc' := 66) (lv' := [some (.inr 0), some (.inl x1), some (.inl t1)]) (st' := []) (M' := M) (P := (¬ (100 : Int) = 0 ∧ ¬ (100 : Int) = -1) ∧ ((x1.tdiv (100 : Int)) = (0 : Int) + ((2 : Nat) : Int)) ∧ True) rfl ⟨by decide, hs2.trans (by decide), trivial⟩ ?_
          refine a_run (md qX4_told_ok) hz 4 [] (pc' := 74) (lv' := [some (.inr 0), some (.inl x1), some (.inl t1)]) (st' := [.inl t1, .inr 3]) (M' := M) (P := True) rfl trivial ?_
          obtain ⟨r4, hr, h⟩ := cal_elim h
          refine a_fV (as := [.inl t1]) (a := 3) (st := []) (mX0_tellRoad z.1 hr) (md qX4_told_ok) qX0_tellRoad_ok hz lkX4_156 rfl 1 0 (by decide +kernel) rfl rfl rfl rfl ?_
          show Aw z 77 [some (.inr 0), some (.inl x1), some (.inl t1)] [.inl r4] M
          exact a_ri (md qX4_told_ok) hz hR rfl (Or.inl rfl) h
        · refine ite_elim h (fun hs3 h => ?_) (fun hs3 h => ?_)
          · refine a_run (md qX4_told_ok) hz 4 [3] (pc' := 78) (lv' := [some (.inr 0), some (.inl x1), some (.inl t1)]) (st' := []) (M' := M) (P := (¬ (100 : Int) = 0 ∧ ¬ (100 : Int) = -1) ∧ ((x1.tdiv (100 : Int)) = (0 : Int) + ((3 : Nat) : Int)) ∧ True) rfl ⟨by decide, hs3.trans (by decide), trivial⟩ ?_
            refine a_run (md qX4_told_ok) hz 4 [] (pc' := 86) (lv' := [some (.inr 0), some (.inl x1), some (.inl t1)]) (st' := [.inl t1, .inr 13]) (M' := M) (P := True) rfl trivial ?_
            obtain ⟨r5, hr, h⟩ := cal_elim h
            refine a_fV (as := [.inl t1]) (a := 13) (st := []) (mX3_tellFix z.1 hr) (md qX4_told_ok) qX3_tellFix_ok hz lkX4_159 rfl 1 0 (by decide +kernel) rfl rfl rfl rfl ?_
            show Aw z 89 [some (.inr 0), some (.inl x1), some (.inl t1)] [.inl r5] M
            exact a_ri (md qX4_told_ok) hz hR rfl (Or.inl rfl) h
          · refine a_run (md qX4_told_ok) hz 4 [4] (pc' := 90) (lv' := [some (.inr 0), some (.inl x1), some (.inl t1)]) (st' := []) (M' := M) (P := (¬ (100 : Int) = 0 ∧ ¬ (100 : Int) = -1) ∧ ((x1.tdiv (100 : Int)) < (0 : Int) ∨ (3 : Int) < (x1.tdiv (100 : Int))) ∧ True) rfl ⟨by decide, by omega, trivial⟩ ?_
            refine a_run (md qX4_told_ok) hz 1 [] (pc' := 92) (lv' := [some (.inr 0), some (.inl x1), some (.inl t1)]) (st' := [.inl (-2 : Int)]) (M' := M) (P := True) rfl trivial ?_
            exact a_ri (md qX4_told_ok) hz hR rfl (Or.inl rfl) h
  · refine a_run (md qX4_told_ok) hz 2 [0] (pc' := 4) (lv' := [some (.inr 0), some (.inl x1), none]) (st' := []) (M' := M) (P := (¬ (0 ≤ x1)) ∧ True) rfl ⟨hc, trivial⟩ ?_
    refine a_run (md qX4_told_ok) hz 1 [] (pc' := 6) (lv' := [some (.inr 0), some (.inl x1), none]) (st' := [.inl (-2 : Int)]) (M' := M) (P := True) rfl trivial ?_
    exact a_ri (md qX4_told_ok) hz hR rfl (Or.inl rfl) h
