def fX3_hasFix (b : Nat) (M : Mm) (x1 : Int) : Option (Int) := jn (some (0 : Int)) (fun (K1 : Option (Int)) => if x1 < 0 then K1 else if (M (b + 11) 2) ≤ x1 then K1 else some (1 : Int))
set_option maxRecDepth 100000 in
theorem mX3_hasFix_2 (g : Gx) {M : Mm} {x1 : Int} {r : Int} (h : fX3_hasFix 2 M x1 = some r) : Ct g qX3_hasFix [.inr 13, .inl x1] M (fun r' M' => r' = some r ∧ M' = M) := by
  refine c_ofP h qX3_hasFix_ok (Nat.le_of_ble_eq_true rfl) (fun z hz Q hR h => ?_)
  unfold fX3_hasFix at h
  show Aw z 0 [some (.inr 13), some (.inl x1)] [] M
  refine jn_elim h (fun (K1 : Option (Int)) => OK (K1) (fun r2 => Q (some r2) M) → Aw z 16 [none, none] [] M) (fun h => ?_) (fun K1 hK1 h => ?_)
  · refine a_run (md qX3_hasFix_ok) hz 1 [] (pc' := 17) (lv' := [none, none]) (st' := [.inl (0 : Int)]) (M' := M) (P := True) rfl trivial ?_
    exact a_ri (md qX3_hasFix_ok) hz hR rfl (Or.inr ⟨rfl, by decide⟩) h
  · refine ite_elim h (fun hc h => ?_) (fun hc h => ?_)
    · refine a_run (md qX3_hasFix_ok) hz 2 [1] (pc' := 16) (lv' := [some (.inr 13), some (.inl x1)]) (st' := []) (M' := M) (P := (x1 < 0) ∧ True) rfl ⟨hc, trivial⟩ ?_
      refine a_mask [false, false] ?_
      exact hK1  h
    · refine a_run (md qX3_hasFix_ok) hz 2 [0] (pc' := 4) (lv' := [some (.inr 13), some (.inl x1)]) (st' := []) (M' := M) (P := (¬ (x1 < 0)) ∧ True) rfl ⟨hc, trivial⟩ ?_
      refine ite_elim h (fun hc h => ?_) (fun hc h => ?_)
      · refine a_run (md qX3_hasFix_ok) hz 4 [1] (pc' := 16) (lv' := [some (.inr 13), some (.inl x1)]) (st' := []) (M' := M) (P := ((M 13 2) ≤ x1) ∧ True) rfl ⟨hc, trivial⟩ ?_
        refine a_mask [false, false] ?_
        exact hK1  h
      · refine a_run (md qX3_hasFix_ok) hz 4 [0] (pc' := 12) (lv' := [some (.inr 13), some (.inl x1)]) (st' := []) (M' := M) (P := (¬ ((M 13 2) ≤ x1)) ∧ True) rfl ⟨hc, trivial⟩ ?_
        refine a_run (md qX3_hasFix_ok) hz 2 [] (pc' := 17) (lv' := [some (.inr 13), some (.inl x1)]) (st' := [.inl (1 : Int)]) (M' := M) (P := True) rfl trivial ?_
        exact a_ri (md qX3_hasFix_ok) hz hR rfl (Or.inr ⟨rfl, by decide⟩) h
set_option maxRecDepth 100000 in
theorem mX3_hasFix_25 (g : Gx) {M : Mm} {x1 : Int} {r : Int} (h : fX3_hasFix 25 M x1 = some r) : Ct g qX3_hasFix [.inr 36, .inl x1] M (fun r' M' => r' = some r ∧ M' = M) := by
  refine c_ofP h qX3_hasFix_ok (Nat.le_of_ble_eq_true rfl) (fun z hz Q hR h => ?_)
  unfold fX3_hasFix at h
  show Aw z 0 [some (.inr 36), some (.inl x1)] [] M
  refine jn_elim h (fun (K1 : Option (Int)) => OK (K1) (fun r2 => Q (some r2) M) → Aw z 16 [none, none] [] M) (fun h => ?_) (fun K1 hK1 h => ?_)
  · refine a_run (md qX3_hasFix_ok) hz 1 [] (pc' := 17) (lv' := [none, none]) (st' := [.inl (0 : Int)]) (M' := M) (P := True) rfl trivial ?_
    exact a_ri (md qX3_hasFix_ok) hz hR rfl (Or.inr ⟨rfl, by decide⟩) h
  · refine ite_elim h (fun hc h => ?_) (fun hc h => ?_)
    · refine a_run (md qX3_hasFix_ok) hz 2 [1] (pc' := 16) (lv' := [some (.inr 36), some (.inl x1)]) (st' := []) (M' := M) (P := (x1 < 0) ∧ True) rfl ⟨hc, trivial⟩ ?_
      refine a_mask [false, false] ?_
      exact hK1  h
    · refine a_run (md qX3_hasFix_ok) hz 2 [0] (pc' := 4) (lv' := [some (.inr 36), some (.inl x1)]) (st' := []) (M' := M) (P := (¬ (x1 < 0)) ∧ True) rfl ⟨hc, trivial⟩ ?_
      refine ite_elim h (fun hc h => ?_) (fun hc h => ?_)
      · refine a_run (md qX3_hasFix_ok) hz 4 [1] (pc' := 16) (lv' := [some (.inr 36), some (.inl x1)]) (st' := []) (M' := M) (P := ((M 36 2) ≤ x1) ∧ True) rfl ⟨hc, trivial⟩ ?_
        refine a_mask [false, false] ?_
        exact hK1  h
      · refine a_run (md qX3_hasFix_ok) hz 4 [0] (pc' := 12) (lv' := [some (.inr 36), some (.inl x1)]) (st' := []) (M' := M) (P := (¬ ((M 36 2) ≤ x1)) ∧ True) rfl ⟨hc, trivial⟩ ?_
        refine a_run (md qX3_hasFix_ok) hz 2 [] (pc' := 17) (lv' := [some (.inr 36), some (.inl x1)]) (st' := [.inl (1 : Int)]) (M' := M) (P := True) rfl trivial ?_
        exact a_ri (md qX3_hasFix_ok) hz hR rfl (Or.inr ⟨rfl, by decide⟩) h
set_option maxRecDepth 100000 in
theorem mX3_hasFix_48 (g : Gx) {M : Mm} {x1 : Int} {r : Int} (h : fX3_hasFix 48 M x1 = some r) : Ct g qX3_hasFix [.inr 59, .inl x1] M (fun r' M' => r' = some r ∧ M' = M) := by
  refine c_ofP h qX3_hasFix_ok (Nat.le_of_ble_eq_true rfl) (fun z hz Q hR h => ?_)
  unfold fX3_hasFix at h
  show Aw z 0 [some (.inr 59), some (.inl x1)] [] M
  refine jn_elim h (fun (K1 : Option (Int)) => OK (K1) (fun r2 => Q (some r2) M) → Aw z 16 [none, none] [] M) (fun h => ?_) (fun K1 hK1 h => ?_)
  · refine a_run (md qX3_hasFix_ok) hz 1 [] (pc' := 17) (lv' := [none, none]) (st' := [.inl (0 : Int)]) (M' := M) (P := True) rfl trivial ?_
    exact a_ri (md qX3_hasFix_ok) hz hR rfl (Or.inr ⟨rfl, by decide⟩) h
  · refine ite_elim h (fun hc h => ?_) (fun hc h => ?_)
    · refine a_run (md qX3_hasFix_ok) hz 2 [1] (pc' := 16) (lv' := [some (.inr 59), some (.inl x1)]) (st' := []) (M' := M) (P := (x1 < 0) ∧ True) rfl ⟨hc, trivial⟩ ?_
      refine a_mask [false, false] ?_
      exact hK1  h
    · refine a_run (md qX3_hasFix_ok) hz 2 [0] (pc' := 4) (lv' := [some (.inr 59), some (.inl x1)]) (st' := []) (M' := M) (P := (¬ (x1 < 0)) ∧ True) rfl ⟨hc, trivial⟩ ?_
      refine ite_elim h (fun hc h => ?_) (fun hc h => ?_)
      · refine a_run (md qX3_hasFix_ok) hz 4 [1] (pc' := 16) (lv' := [some (.inr 59), some (.inl x1)]) (st' := []) (M' := M) (P := ((M 59 2) ≤ x1) ∧ True) rfl ⟨hc, trivial⟩ ?_
        refine a_mask [false, false] ?_
        exact hK1  h
      · refine a_run (md qX3_hasFix_ok) hz 4 [0] (pc' := 12) (lv' := [some (.inr 59), some (.inl x1)]) (st' := []) (M' := M) (P := (¬ ((M 59 2) ≤ x1)) ∧ True) rfl ⟨hc, trivial⟩ ?_
        refine a_run (md qX3_hasFix_ok) hz 2 [] (pc' := 17) (lv' := [some (.inr 59), some (.inl x1)]) (st' := [.inl (1 : Int)]) (M' := M) (P := True) rfl trivial ?_
        exact a_ri (md qX3_hasFix_ok) hz hR rfl (Or.inr ⟨rfl, by decide⟩) h
def fX3_isGap (b : Nat) (M : Mm) (x1 : Int) : Option (Int) := jn (some (1 : Int)) (fun (K1 : Option (Int)) => cal (fX3_hasFix b M x1) (fun (r2 : Int) => if r2 = 0 then K1 else gd ((0 ≤ x1 ∧ x1 < 16)) (if (M (b + 15) x1.toNat) = (-6 : Int) then K1 else some (0 : Int))))
set_option maxRecDepth 100000 in
theorem mX3_isGap_2 (g : Gx) {M : Mm} {x1 : Int} {r : Int} (h : fX3_isGap 2 M x1 = some r) : Ct g qX3_isGap [.inr 13, .inl x1] M (fun r' M' => r' = some r ∧ M' = M) := by
  refine c_ofP h qX3_isGap_ok (Nat.le_of_ble_eq_true rfl) (fun z hz Q hR h => ?_)
  unfold fX3_isGap at h
  show Aw z 0 [some (.inr 13), some (.inl x1)] [] M
  refine jn_elim h (fun (K1 : Option (Int)) => OK (K1) (fun r2 => Q (some r2) M) → Aw z 19 [none, none] [] M) (fun h => ?_) (fun K1 hK1 h => ?_)
  · refine a_run (md qX3_isGap_ok) hz 2 [] (pc' := 24) (lv' := [none, none]) (st' := [.inl (1 : Int)]) (M' := M) (P := True) rfl trivial ?_
    exact a_ri (md qX3_isGap_ok) hz hR rfl (Or.inr ⟨rfl, by decide⟩) h
  · refine a_run (md qX3_isGap_ok) hz 2 [] (pc' := 2) (lv' := [some (.inr 13), some (.inl x1)]) (st' := [.inl x1, .inr 13]) (M' := M) (P := True) rfl trivial ?_
    obtain ⟨r2, hr, h⟩ := cal_elim h
    refine a_fV (as := [.inl x1]) (a := 13) (st := []) (mX3_hasFix_2 z.1 hr) (md qX3_isGap_ok) qX3_hasFix_ok hz lkX3_58 rfl 1 0 (by decide +kernel) rfl rfl rfl rfl ?_
    show Aw z 5 [some (.inr 13), some (.inl x1)] [.inl r2] M
    refine ite_elim h (fun hc h => ?_) (fun hc h => ?_)
    · refine a_run (md qX3_isGap_ok) hz 1 [1] (pc' := 19) (lv' := [some (.inr 13), some (.inl x1)]) (st' := []) (M' := M) (P := (r2 = 0) ∧ True) rfl ⟨hc, trivial⟩ ?_
      refine a_mask [false, false] ?_
      exact hK1  h
    · refine a_run (md qX3_isGap_ok) hz 1 [0] (pc' := 8) (lv' := [some (.inr 13), some (.inl x1)]) (st' := []) (M' := M) (P := (¬ (r2 = 0)) ∧ True) rfl ⟨hc, trivial⟩ ?_
      obtain ⟨h3, h⟩ := gd_elim h
      refine ite_elim h (fun hc h => ?_) (fun hc h => ?_)
      · refine a_run (md qX3_isGap_ok) hz 6 [0] (pc' := 19) (lv' := [some (.inr 13), some (.inl x1)]) (st' := []) (M' := M) (P := (0 ≤ x1 ∧ x1 < 16) ∧ (¬ ¬ (M 17 x1.toNat) = (-6 : Int)) ∧ True) rfl ⟨h3, fun h9 => h9 hc, trivial⟩ ?_
        refine a_mask [false, false] ?_
        exact hK1  h
      · refine a_run (md qX3_isGap_ok) hz 6 [1] (pc' := 23) (lv' := [some (.inr 13), some (.inl x1)]) (st' := []) (M' := M) (P := (0 ≤ x1 ∧ x1 < 16) ∧ (¬ (M 17 x1.toNat) = (-6 : Int)) ∧ True) rfl ⟨h3, hc, trivial⟩ ?_
        refine a_run (md qX3_isGap_ok) hz 1 [] (pc' := 24) (lv' := [some (.inr 13), some (.inl x1)]) (st' := [.inl (0 : Int)]) (M' := M) (P := True) rfl trivial ?_
        exact a_ri (md qX3_isGap_ok) hz hR rfl (Or.inr ⟨rfl, by decide⟩) h
set_option maxRecDepth 100000 in
theorem mX3_isGap_25 (g : Gx) {M : Mm} {x1 : Int} {r : Int} (h : fX3_isGap 25 M x1 = some r) : Ct g qX3_isGap [.inr 36, .inl x1] M (fun r' M' => r' = some r ∧ M' = M) := by
  refine c_ofP h qX3_isGap_ok (Nat.le_of_ble_eq_true rfl) (fun z hz Q hR h => ?_)
  unfold fX3_isGap at h
  show Aw z 0 [some (.inr 36), some (.inl x1)] [] M
  refine jn_elim h (fun (K1 : Option (Int)) => OK (K1) (fun r2 => Q (some r2) M) → Aw z 19 [none, none] [] M) (fun h => ?_) (fun K1 hK1 h => ?_)
  · refine a_run (md qX3_isGap_ok) hz 2 [] (pc' := 24) (lv' := [none, none]) (st' := [.inl (1 : Int)]) (M' := M) (P := True) rfl trivial ?_
    exact a_ri (md qX3_isGap_ok) hz hR rfl (Or.inr ⟨rfl, by decide⟩) h
  · refine a_run (md qX3_isGap_ok) hz 2 [] (pc' := 2) (lv' := [some (.inr 36), some (.inl x1)]) (st' := [.inl x1, .inr 36]) (M' := M) (P := True) rfl trivial ?_
    obtain ⟨r2, hr, h⟩ := cal_elim h
    refine a_fV (as := [.inl x1]) (a := 36) (st := []) (mX3_hasFix_25 z.1 hr) (md qX3_isGap_ok) qX3_hasFix_ok hz lkX3_58 rfl 1 0 (by decide +kernel) rfl rfl rfl rfl ?_
    show Aw z 5 [some (.inr 36), some (.inl x1)] [.inl r2] M
    refine ite_elim h (fun hc h => ?_) (fun hc h => ?_)
    · refine a_run (md qX3_isGap_ok) hz 1 [1] (pc' := 19) (lv' := [some (.inr 36), some (.inl x1)]) (st' := []) (M' := M) (P := (r2 = 0) ∧ True) rfl ⟨hc, trivial⟩ ?_
      refine a_mask [false, false] ?_
      exact hK1  h
    · refine a_run (md qX3_isGap_ok) hz 1 [0] (pc' := 8) (lv' := [some (.inr 36), some (.inl x1)]) (st' := []) (M' := M) (P := (¬ (r2 = 0)) ∧ True) rfl ⟨hc, trivial⟩ ?_
      obtain ⟨h3, h⟩ := gd_elim h
      refine ite_elim h (fun hc h => ?_) (fun hc h => ?_)
      · refine a_run (md qX3_isGap_ok) hz 6 [0] (pc' := 19) (lv' := [some (.inr 36), some (.inl x1)]) (st' := []) (M' := M) (P := (0 ≤ x1 ∧ x1 < 16) ∧ (¬ ¬ (M 40 x1.toNat) = (-6 : Int)) ∧ True) rfl ⟨h3, fun h9 => h9 hc, trivial⟩ ?_
        refine a_mask [false, false] ?_
        exact hK1  h
      · refine a_run (md qX3_isGap_ok) hz 6 [1] (pc' := 23) (lv' := [some (.inr 36), some (.inl x1)]) (st' := []) (M' := M) (P := (0 ≤ x1 ∧ x1 < 16) ∧ (¬ (M 40 x1.toNat) = (-6 : Int)) ∧ True) rfl ⟨h3, hc, trivial⟩ ?_
        refine a_run (md qX3_isGap_ok) hz 1 [] (pc' := 24) (lv' := [some (.inr 36), some (.inl x1)]) (st' := [.inl (0 : Int)]) (M' := M) (P := True) rfl trivial ?_
        exact a_ri (md qX3_isGap_ok) hz hR rfl (Or.inr ⟨rfl, by decide⟩) h
set_option maxRecDepth 100000 in
theorem mX3_isGap_48 (g : Gx) {M : Mm} {x1 : Int} {r : Int} (h : fX3_isGap 48 M x1 = some r) : Ct g qX3_isGap [.inr 59, .inl x1] M (fun r' M' => r' = some r ∧ M' = M) := by
  refine c_ofP h qX3_isGap_ok (Nat.le_of_ble_eq_true rfl) (fun z hz Q hR h => ?_)
  unfold fX3_isGap at h
  show Aw z 0 [some (.inr 59), some (.inl x1)] [] M
  refine jn_elim h (fun (K1 : Option (Int)) => OK (K1) (fun r2 => Q (some r2) M) → Aw z 19 [none, none] [] M) (fun h => ?_) (fun K1 hK1 h => ?_)
  · refine a_run (md qX3_isGap_ok) hz 2 [] (pc' := 24) (lv' := [none, none]) (st' := [.inl (1 : Int)]) (M' := M) (P := True) rfl trivial ?_
    exact a_ri (md qX3_isGap_ok) hz hR rfl (Or.inr ⟨rfl, by decide⟩) h
  · refine a_run (md qX3_isGap_ok) hz 2 [] (pc' := 2) (lv' := [some (.inr 59), some (.inl x1)]) (st' := [.inl x1, .inr 59]) (M' := M) (P := True) rfl trivial ?_
    obtain ⟨r2, hr, h⟩ := cal_elim h
    refine a_fV (as := [.inl x1]) (a := 59) (st := []) (mX3_hasFix_48 z.1 hr) (md qX3_isGap_ok) qX3_hasFix_ok hz lkX3_58 rfl 1 0 (by decide +kernel) rfl rfl rfl rfl ?_
    show Aw z 5 [some (.inr 59), some (.inl x1)] [.inl r2] M
    refine ite_elim h (fun hc h => ?_) (fun hc h => ?_)
    · refine a_run (md qX3_isGap_ok) hz 1 [1] (pc' := 19) (lv' := [some (.inr 59), some (.inl x1)]) (st' := []) (M' := M) (P := (r2 = 0) ∧ True) rfl ⟨hc, trivial⟩ ?_
      refine a_mask [false, false] ?_
      exact hK1  h
    · refine a_run (md qX3_isGap_ok) hz 1 [0] (pc' := 8) (lv' := [some (.inr 59), some (.inl x1)]) (st' := []) (M' := M) (P := (¬ (r2 = 0)) ∧ True) rfl ⟨hc, trivial⟩ ?_
      obtain ⟨h3, h⟩ := gd_elim h
      refine ite_elim h (fun hc h => ?_) (fun hc h => ?_)
      · refine a_run (md qX3_isGap_ok) hz 6 [0] (pc' := 19) (lv' := [some (.inr 59), some (.inl x1)]) (st' := []) (M' := M) (P := (0 ≤ x1 ∧ x1 < 16) ∧ (¬ ¬ (M 63 x1.toNat) = (-6 : Int)) ∧ True) rfl ⟨h3, fun h9 => h9 hc, trivial⟩ ?_
        refine a_mask [false, false] ?_
        exact hK1  h
      · refine a_run (md qX3_isGap_ok) hz 6 [1] (pc' := 23) (lv' := [some (.inr 59), some (.inl x1)]) (st' := []) (M' := M) (P := (0 ≤ x1 ∧ x1 < 16) ∧ (¬ (M 63 x1.toNat) = (-6 : Int)) ∧ True) rfl ⟨h3, hc, trivial⟩ ?_
        refine a_run (md qX3_isGap_ok) hz 1 [] (pc' := 24) (lv' := [some (.inr 59), some (.inl x1)]) (st' := [.inl (0 : Int)]) (M' := M) (P := True) rfl trivial ?_
        exact a_ri (md qX3_isGap_ok) hz hR rfl (Or.inr ⟨rfl, by decide⟩) h
def fX3_hasCandidate (b : Nat) (M : Mm) (x1 : Int) (x2 : Int) : Option (Int) := jn (some (0 : Int)) (fun (K1 : Option (Int)) => cal (fX3_hasFix b M x1) (fun (r2 : Int) => if r2 = 0 then K1 else if x2 < 0 then K1 else gd ((0 ≤ x1 ∧ x1 < 16)) (if (M (b + 14) x1.toNat) ≤ x2 then K1 else some (1 : Int))))
set_option maxRecDepth 100000 in
theorem mX3_hasCandidate_2 (g : Gx) {M : Mm} {x1 : Int} {x2 : Int} {r : Int} (h : fX3_hasCandidate 2 M x1 x2 = some r) : Ct g qX3_hasCandidate [.inr 13, .inl x1, .inl x2] M (fun r' M' => r' = some r ∧ M' = M) := by
  refine c_ofP h qX3_hasCandidate_ok (Nat.le_of_ble_eq_true rfl) (fun z hz Q hR h => ?_)
  unfold fX3_hasCandidate at h
  show Aw z 0 [some (.inr 13), some (.inl x1), some (.inl x2)] [] M
  refine jn_elim h (fun (K1 : Option (Int)) => OK (K1) (fun r2 => Q (some r2) M) → Aw z 26 [none, none, none] [] M) (fun h => ?_) (fun K1 hK1 h => ?_)
  · refine a_run (md qX3_hasCandidate_ok) hz 1 [] (pc' := 27) (lv' := [none, none, none]) (st' := [.inl (0 : Int)]) (M' := M) (P := True) rfl trivial ?_
    exact a_ri (md qX3_hasCandidate_ok) hz hR rfl (Or.inr ⟨rfl, by decide⟩) h
  · refine a_run (md qX3_hasCandidate_ok) hz 2 [] (pc' := 2) (lv' := [some (.inr 13), some (.inl x1), some (.inl x2)]) (st' := [.inl x1, .inr 13]) (M' := M) (P := True) rfl trivial ?_
    obtain ⟨r2, hr, h⟩ := cal_elim h
    refine a_fV (as := [.inl x1]) (a := 13) (st := []) (mX3_hasFix_2 z.1 hr) (md qX3_hasCandidate_ok) qX3_hasFix_ok hz lkX3_58 rfl 1 0 (by decide +kernel) rfl rfl rfl rfl ?_
    show Aw z 5 [some (.inr 13), some (.inl x1), some (.inl x2)] [.inl r2] M
    refine ite_elim h (fun hc h => ?_) (fun hc h => ?_)
    · refine a_run (md qX3_hasCandidate_ok) hz 1 [1] (pc' := 26) (lv' := [some (.inr 13), some (.inl x1), some (.inl x2)]) (st' := []) (M' := M) (P := (r2 = 0) ∧ True) rfl ⟨hc, trivial⟩ ?_
      refine a_mask [false, false, false] ?_
      exact hK1  h
    · refine a_run (md qX3_hasCandidate_ok) hz 1 [0] (pc' := 8) (lv' := [some (.inr 13), some (.inl x1), some (.inl x2)]) (st' := []) (M' := M) (P := (¬ (r2 = 0)) ∧ True) rfl ⟨hc, trivial⟩ ?_
      refine ite_elim h (fun hc h => ?_) (fun hc h => ?_)
      · refine a_run (md qX3_hasCandidate_ok) hz 2 [1] (pc' := 26) (lv' := [some (.inr 13), some (.inl x1), some (.inl x2)]) (st' := []) (M' := M) (P := (x2 < 0) ∧ True) rfl ⟨hc, trivial⟩ ?_
        refine a_mask [false, false, false] ?_
        exact hK1  h
      · refine a_run (md qX3_hasCandidate_ok) hz 2 [0] (pc' := 12) (lv' := [some (.inr 13), some (.inl x1), some (.inl x2)]) (st' := []) (M' := M) (P := (¬ (x2 < 0)) ∧ True) rfl ⟨hc, trivial⟩ ?_
        obtain ⟨h3, h⟩ := gd_elim h
        refine ite_elim h (fun hc h => ?_) (fun hc h => ?_)
        · refine a_run (md qX3_hasCandidate_ok) hz 6 [1] (pc' := 26) (lv' := [some (.inr 13), some (.inl x1), some (.inl x2)]) (st' := []) (M' := M) (P := (0 ≤ x1 ∧ x1 < 16) ∧ ((M 16 x1.toNat) ≤ x2) ∧ True) rfl ⟨h3, hc, trivial⟩ ?_
          refine a_mask [false, false, false] ?_
          exact hK1  h
        · refine a_run (md qX3_hasCandidate_ok) hz 6 [0] (pc' := 22) (lv' := [some (.inr 13), some (.inl x1), some (.inl x2)]) (st' := []) (M' := M) (P := (0 ≤ x1 ∧ x1 < 16) ∧ (¬ ((M 16 x1.toNat) ≤ x2)) ∧ True) rfl ⟨h3, hc, trivial⟩ ?_
          refine a_run (md qX3_hasCandidate_ok) hz 2 [] (pc' := 27) (lv' := [some (.inr 13), some (.inl x1), some (.inl x2)]) (st' := [.inl (1 : Int)]) (M' := M) (P := True) rfl trivial ?_
          exact a_ri (md qX3_hasCandidate_ok) hz hR rfl (Or.inr ⟨rfl, by decide⟩) h
set_option maxRecDepth 100000 in
theorem mX3_hasCandidate_25 (g : Gx) {M : Mm} {x1 : Int} {x2 : Int} {r : Int} (h : fX3_hasCandidate 25 M x1 x2 = some r) : Ct g qX3_hasCandidate [.inr 36, .inl x1, .inl x2] M (fun r' M' => r' = some r ∧ M' = M) := by
  refine c_ofP h qX3_hasCandidate_ok (Nat.le_of_ble_eq_true rfl) (fun z hz Q hR h => ?_)
  unfold fX3_hasCandidate at h
  show Aw z 0 [some (.inr 36), some (.inl x1), some (.inl x2)] [] M
  refine jn_elim h (fun (K1 : Option (Int)) => OK (K1) (fun r2 => Q (some r2) M) → Aw z 26 [none, none, none] [] M) (fun h => ?_) (fun K1 hK1 h => ?_)
  · refine a_run (md qX3_hasCandidate_ok) hz 1 [] (pc' := 27) (lv' := [none, none, none]) (st' := [.inl (0 : Int)]) (M' := M) (P := True) rfl trivial ?_
    exact a_ri (md qX3_hasCandidate_ok) hz hR rfl (Or.inr ⟨rfl, by decide⟩) h
  · refine a_run (md qX3_hasCandidate_ok) hz 2 [] (pc' := 2) (lv' := [some (.inr 36), some (.inl x1), some (.inl x2)]) (st' := [.inl x1, .inr 36]) (M' := M) (P := True) rfl trivial ?_
    obtain ⟨r2, hr, h⟩ := cal_elim h
    refine a_fV (as := [.inl x1]) (a := 36) (st := []) (mX3_hasFix_25 z.1 hr) (md qX3_hasCandidate_ok) qX3_hasFix_ok hz lkX3_58 rfl 1 0 (by decide +kernel) rfl rfl rfl rfl ?_
    show Aw z 5 [some (.inr 36), some (.inl x1), some (.inl x2)] [.inl r2] M
    refine ite_elim h (fun hc h => ?_) (fun hc h => ?_)
    · refine a_run (md qX3_hasCandidate_ok) hz 1 [1] (pc' := 26) (lv' := [some (.inr 36), some (.inl x1), some (.inl x2)]) (st' := []) (M' := M) (P := (r2 = 0) ∧ True) rfl ⟨hc, trivial⟩ ?_
      refine a_mask [false, false, false] ?_
      exact hK1  h
    · refine a_run (md qX3_hasCandidate_ok) hz 1 [0] (pc' := 8) (lv' := [some (.inr 36), some (.inl x1), some (.inl x2)]) (st' := []) (M' := M) (P := (¬ (r2 = 0)) ∧ True) rfl ⟨hc, trivial⟩ ?_
      refine ite_elim h (fun hc h => ?_) (fun hc h => ?_)
      · refine a_run (md qX3_hasCandidate_ok) hz 2 [1] (pc' := 26) (lv' := [some (.inr 36), some (.inl x1), some (.inl x2)]) (st' := []) (M' := M) (P := (x2 < 0) ∧ True) rfl ⟨hc, trivial⟩ ?_
        refine a_mask [false, false, false] ?_
        exact hK1  h
      · refine a_run (md qX3_hasCandidate_ok) hz 2 [0] (pc' := 12) (lv' := [some (.inr 36), some (.inl x1), some (.inl x2)]) (st' := []) (M' := M) (P := (¬ (x2 < 0)) ∧ True) rfl ⟨hc, trivial⟩ ?_
        obtain ⟨h3, h⟩ := gd_elim h
        refine ite_elim h (fun hc h => ?_) (fun hc h => ?_)
        · refine a_run (md qX3_hasCandidate_ok) hz 6 [1] (pc' := 26) (lv' := [some (.inr 36), some (.inl x1), some (.inl x2)]) (st' := []) (M' := M) (P := (0 ≤ x1 ∧ x1 < 16) ∧ ((M 39 x1.toNat) ≤ x2) ∧ True) rfl ⟨h3, hc, trivial⟩ ?_
          refine a_mask [false, false, false] ?_
          exact hK1  h
        · refine a_run (md qX3_hasCandidate_ok) hz 6 [0] (pc' := 22) (lv' := [some (.inr 36), some (.inl x1), some (.inl x2)]) (st' := []) (M' := M) (P := (0 ≤ x1 ∧ x1 < 16) ∧ (¬ ((M 39 x1.toNat) ≤ x2)) ∧ True) rfl ⟨h3, hc, trivial⟩ ?_
          refine a_run (md qX3_hasCandidate_ok) hz 2 [] (pc' := 27) (lv' := [some (.inr 36), some (.inl x1), some (.inl x2)]) (st' := [.inl (1 : Int)]) (M' := M) (P := True) rfl trivial ?_
          exact a_ri (md qX3_hasCandidate_ok) hz hR rfl (Or.inr ⟨rfl, by decide⟩) h
set_option maxRecDepth 100000 in
theorem mX3_hasCandidate_48 (g : Gx) {M : Mm} {x1 : Int} {x2 : Int} {r : Int} (h : fX3_hasCandidate 48 M x1 x2 = some r) : Ct g qX3_hasCandidate [.inr 59, .inl x1, .inl x2] M (fun r' M' => r' = some r ∧ M' = M) := by
  refine c_ofP h qX3_hasCandidate_ok (Nat.le_of_ble_eq_true rfl) (fun z hz Q hR h => ?_)
  unfold fX3_hasCandidate at h
  show Aw z 0 [some (.inr 59), some (.inl x1), some (.inl x2)] [] M
  refine jn_elim h (fun (K1 : Option (Int)) => OK (K1) (fun r2 => Q (some r2) M) → Aw z 26 [none, none, none] [] M) (fun h => ?_) (fun K1 hK1 h => ?_)
  · refine a_run (md qX3_hasCandidate_ok) hz 1 [] (pc' := 27) (lv' := [none, none, none]) (st' := [.inl (0 : Int)]) (M' := M) (P := True) rfl trivial ?_
    exact a_ri (md qX3_hasCandidate_ok) hz hR rfl (Or.inr ⟨rfl, by decide⟩) h
  · refine a_run (md qX3_hasCandidate_ok) hz 2 [] (pc' := 2) (lv' := [some (.inr 59), some (.inl x1), some (.inl x2)]) (st' := [.inl x1, .inr 59]) (M' := M) (P := True) rfl trivial ?_
    obtain ⟨r2, hr, h⟩ := cal_elim h
    refine a_fV (as := [.inl x1]) (a := 59) (st := []) (mX3_hasFix_48 z.1 hr) (md qX3_hasCandidate_ok) qX3_hasFix_ok hz lkX3_58 rfl 1 0 (by decide +kernel) rfl rfl rfl rfl ?_
    show Aw z 5 [some (.inr 59), some (.inl x1), some (.inl x2)] [.inl r2] M
    refine ite_elim h (fun hc h => ?_) (fun hc h => ?_)
    · refine a_run (md qX3_hasCandidate_ok) hz 1 [1] (pc' := 26) (lv' := [some (.inr 59), some (.inl x1), some (.inl x2)]) (st' := []) (M' := M) (P := (r2 = 0) ∧ True) rfl ⟨hc, trivial⟩ ?_
      refine a_mask [false, false, false] ?_
      exact hK1  h
    · refine a_run (md qX3_hasCandidate_ok) hz 1 [0] (pc' := 8) (lv' := [some (.inr 59), some (.inl x1), some (.inl x2)]) (st' := []) (M' := M) (P := (¬ (r2 = 0)) ∧ True) rfl ⟨hc, trivial⟩ ?_
      refine ite_elim h (fun hc h => ?_) (fun hc h => ?_)
      · refine a_run (md qX3_hasCandidate_ok) hz 2 [1] (pc' := 26) (lv' := [some (.inr 59), some (.inl x1), some (.inl x2)]) (st' := []) (M' := M) (P := (x2 < 0) ∧ True) rfl ⟨hc, trivial⟩ ?_
        refine a_mask [false, false, false] ?_
        exact hK1  h
      · refine a_run (md qX3_hasCandidate_ok) hz 2 [0] (pc' := 12) (lv' := [some (.inr 59), some (.inl x1), some (.inl x2)]) (st' := []) (M' := M) (P := (¬ (x2 < 0)) ∧ True) rfl ⟨hc, trivial⟩ ?_
        obtain ⟨h3, h⟩ := gd_elim h
        refine ite_elim h (fun hc h => ?_) (fun hc h => ?_)
        · refine a_run (md qX3_hasCandidate_ok) hz 6 [1] (pc' := 26) (lv' := [some (.inr 59), some (.inl x1), some (.inl x2)]) (st' := []) (M' := M) (P := (0 ≤ x1 ∧ x1 < 16) ∧ ((M 62 x1.toNat) ≤ x2) ∧ True) rfl ⟨h3, hc, trivial⟩ ?_
          refine a_mask [false, false, false] ?_
          exact hK1  h
        · refine a_run (md qX3_hasCandidate_ok) hz 6 [0] (pc' := 22) (lv' := [some (.inr 59), some (.inl x1), some (.inl x2)]) (st' := []) (M' := M) (P := (0 ≤ x1 ∧ x1 < 16) ∧ (¬ ((M 62 x1.toNat) ≤ x2)) ∧ True) rfl ⟨h3, hc, trivial⟩ ?_
          refine a_run (md qX3_hasCandidate_ok) hz 2 [] (pc' := 27) (lv' := [some (.inr 59), some (.inl x1), some (.inl x2)]) (st' := [.inl (1 : Int)]) (M' := M) (P := True) rfl trivial ?_
          exact a_ri (md qX3_hasCandidate_ok) hz hR rfl (Or.inr ⟨rfl, by decide⟩) h
def fX3_slot (M : Mm) (x0 : Int) (x1 : Int) : Option (Int) := gd ((inR (x0 * (20 : Int))) ∧ (inR ((x0 * (20 : Int)) + x1))) (some ((x0 * (20 : Int)) + x1))
set_option maxRecDepth 100000 in
theorem mX3_slot (g : Gx) {M : Mm} {x0 : Int} {x1 : Int} {r : Int} (h : fX3_slot M x0 x1 = some r) : Ct g qX3_slot [.inl x0, .inl x1] M (fun r' M' => r' = some r ∧ M' = M) := by
  refine c_ofP h qX3_slot_ok (Nat.le_of_ble_eq_true rfl) (fun z hz Q hR h => ?_)
  unfold fX3_slot at h
  show Aw z 0 [some (.inl x0), some (.inl x1)] [] M
  obtain ⟨⟨h1, h2⟩, h⟩ := gd_elim h
  refine a_run (md qX3_slot_ok) hz 5 [] (pc' := 6) (lv' := [some (.inl x0), some (.inl x1)]) (st' := [.inl ((x0 * (20 : Int)) + x1)]) (M' := M) (P := (inR (x0 * (20 : Int))) ∧ (inR ((x0 * (20 : Int)) + x1)) ∧ True) rfl ⟨h1, h2, trivial⟩ ?_
  exact a_ri (md qX3_slot_ok) hz hR rfl (Or.inl rfl) h
def fX3_backOf (b : Nat) (M : Mm) (x1 : Int) (x2 : Int) : Option (Int) := cal (fX3_hasCandidate b M x1 x2) (fun (r1 : Int) => if r1 = 0 then some (-6 : Int) else cal (fX3_slot M x1 x2) (fun (r2 : Int) => gd ((0 ≤ r2 ∧ r2 < 320)) (some (M (b + 20) r2.toNat))))
set_option maxRecDepth 100000 in
theorem mX3_backOf_2 (g : Gx) {M : Mm} {x1 : Int} {x2 : Int} {r : Int} (h : fX3_backOf 2 M x1 x2 = some r) : Ct g qX3_backOf [.inr 13, .inl x1, .inl x2] M (fun r' M' => r' = some r ∧ M' = M) := by
  refine c_ofP h qX3_backOf_ok (Nat.le_of_ble_eq_true rfl) (fun z hz Q hR h => ?_)
  unfold fX3_backOf at h
  show Aw z 0 [some (.inr 13), some (.inl x1), some (.inl x2)] [] M
  refine a_run (md qX3_backOf_ok) hz 3 [] (pc' := 3) (lv' := [some (.inr 13), some (.inl x1), some (.inl x2)]) (st' := [.inl x2, .inl x1, .inr 13]) (M' := M) (P := True) rfl trivial ?_
  obtain ⟨r1, hr, h⟩ := cal_elim h
  refine a_fV (as := [.inl x1, .inl x2]) (a := 13) (st := []) (mX3_hasCandidate_2 z.1 hr) (md qX3_backOf_ok) qX3_hasCandidate_ok hz lkX3_118 rfl 2 0 (by decide +kernel) rfl rfl rfl rfl ?_
  show Aw z 6 [some (.inr 13), some (.inl x1), some (.inl x2)] [.inl r1] M
  refine ite_elim h (fun hc h => ?_) (fun hc h => ?_)
  · refine a_run (md qX3_backOf_ok) hz 1 [1] (pc' := 22) (lv' := [some (.inr 13), some (.inl x1), some (.inl x2)]) (st' := []) (M' := M) (P := (r1 = 0) ∧ True) rfl ⟨hc, trivial⟩ ?_
    refine a_run (md qX3_backOf_ok) hz 1 [] (pc' := 24) (lv' := [some (.inr 13), some (.inl x1), some (.inl x2)]) (st' := [.inl (-6 : Int)]) (M' := M) (P := True) rfl trivial ?_
    exact a_ri (md qX3_backOf_ok) hz hR rfl (Or.inl rfl) h
  · refine a_run (md qX3_backOf_ok) hz 1 [0] (pc' := 9) (lv' := [some (.inr 13), some (.inl x1), some (.inl x2)]) (st' := []) (M' := M) (P := (¬ (r1 = 0)) ∧ True) rfl ⟨hc, trivial⟩ ?_
    refine a_run (md qX3_backOf_ok) hz 4 [] (pc' := 15) (lv' := [some (.inr 13), some (.inl x1), some (.inl x2)]) (st' := [.inl x2, .inl x1, .inr 22]) (M' := M) (P := True) rfl trivial ?_
    obtain ⟨r2, hr, h⟩ := cal_elim h
    refine a_fS (as := [.inl x1, .inl x2]) (st := [.inr 22]) (mX3_slot z.1 hr) (md qX3_backOf_ok) qX3_slot_ok hz lkX3_98 rfl 2 1 (by decide +kernel) rfl rfl ?_
    show Aw z 18 [some (.inr 13), some (.inl x1), some (.inl x2)] [.inl r2, .inr 22] M
    obtain ⟨h3, h⟩ := gd_elim h
    refine a_run (md qX3_backOf_ok) hz 2 [] (pc' := 24) (lv' := [some (.inr 13), some (.inl x1), some (.inl x2)]) (st' := [.inl (M 22 r2.toNat)]) (M' := M) (P := (0 ≤ r2 ∧ r2 < 320) ∧ True) rfl ⟨h3, trivial⟩ ?_
    exact a_ri (md qX3_backOf_ok) hz hR rfl (Or.inl rfl) h
set_option maxRecDepth 100000 in
theorem mX3_backOf_25 (g : Gx) {M : Mm} {x1 : Int} {x2 : Int} {r : Int} (h : fX3_backOf 25 M x1 x2 = some r) : Ct g qX3_backOf [.inr 36, .inl x1, .inl x2] M (fun r' M' => r' = some r ∧ M' = M) := by
  refine c_ofP h qX3_backOf_ok (Nat.le_of_ble_eq_true rfl) (fun z hz Q hR h => ?_)
  unfold fX3_backOf at h
  show Aw z 0 [some (.inr 36), some (.inl x1), some (.inl x2)] [] M
  refine a_run (md qX3_backOf_ok) hz 3 [] (pc' := 3) (lv' := [some (.inr 36), some (.inl x1), some (.inl x2)]) (st' := [.inl x2, .inl x1, .inr 36]) (M' := M) (P := True) rfl trivial ?_
  obtain ⟨r1, hr, h⟩ := cal_elim h
  refine a_fV (as := [.inl x1, .inl x2]) (a := 36) (st := []) (mX3_hasCandidate_25 z.1 hr) (md qX3_backOf_ok) qX3_hasCandidate_ok hz lkX3_118 rfl 2 0 (by decide +kernel) rfl rfl rfl rfl ?_
  show Aw z 6 [some (.inr 36), some (.inl x1), some (.inl x2)] [.inl r1] M
  refine ite_elim h (fun hc h => ?_) (fun hc h => ?_)
  · refine a_run (md qX3_backOf_ok) hz 1 [1] (pc' := 22) (lv' := [some (.inr 36), some (.inl x1), some (.inl x2)]) (st' := []) (M' := M) (P := (r1 = 0) ∧ True) rfl ⟨hc, trivial⟩ ?_
    refine a_run (md qX3_backOf_ok) hz 1 [] (pc' := 24) (lv' := [some (.inr 36), some (.inl x1), some (.inl x2)]) (st' := [.inl (-6 : Int)]) (M' := M) (P := True) rfl trivial ?_
    exact a_ri (md qX3_backOf_ok) hz hR rfl (Or.inl rfl) h
  · refine a_run (md qX3_backOf_ok) hz 1 [0] (pc' := 9) (lv' := [some (.inr 36), some (.inl x1), some (.inl x2)]) (st' := []) (M' := M) (P := (¬ (r1 = 0)) ∧ True) rfl ⟨hc, trivial⟩ ?_
    refine a_run (md qX3_backOf_ok) hz 4 [] (pc' := 15) (lv' := [some (.inr 36), some (.inl x1), some (.inl x2)]) (st' := [.inl x2, .inl x1, .inr 45]) (M' := M) (P := True) rfl trivial ?_
    obtain ⟨r2, hr, h⟩ := cal_elim h
    refine a_fS (as := [.inl x1, .inl x2]) (st := [.inr 45]) (mX3_slot z.1 hr) (md qX3_backOf_ok) qX3_slot_ok hz lkX3_98 rfl 2 1 (by decide +kernel) rfl rfl ?_
    show Aw z 18 [some (.inr 36), some (.inl x1), some (.inl x2)] [.inl r2, .inr 45] M
    obtain ⟨h3, h⟩ := gd_elim h
    refine a_run (md qX3_backOf_ok) hz 2 [] (pc' := 24) (lv' := [some (.inr 36), some (.inl x1), some (.inl x2)]) (st' := [.inl (M 45 r2.toNat)]) (M' := M) (P := (0 ≤ r2 ∧ r2 < 320) ∧ True) rfl ⟨h3, trivial⟩ ?_
    exact a_ri (md qX3_backOf_ok) hz hR rfl (Or.inl rfl) h
set_option maxRecDepth 100000 in
theorem mX3_backOf_48 (g : Gx) {M : Mm} {x1 : Int} {x2 : Int} {r : Int} (h : fX3_backOf 48 M x1 x2 = some r) : Ct g qX3_backOf [.inr 59, .inl x1, .inl x2] M (fun r' M' => r' = some r ∧ M' = M) := by
  refine c_ofP h qX3_backOf_ok (Nat.le_of_ble_eq_true rfl) (fun z hz Q hR h => ?_)
  unfold fX3_backOf at h
  show Aw z 0 [some (.inr 59), some (.inl x1), some (.inl x2)] [] M
  refine a_run (md qX3_backOf_ok) hz 3 [] (pc' := 3) (lv' := [some (.inr 59), some (.inl x1), some (.inl x2)]) (st' := [.inl x2, .inl x1, .inr 59]) (M' := M) (P := True) rfl trivial ?_
  obtain ⟨r1, hr, h⟩ := cal_elim h
  refine a_fV (as := [.inl x1, .inl x2]) (a := 59) (st := []) (mX3_hasCandidate_48 z.1 hr) (md qX3_backOf_ok) qX3_hasCandidate_ok hz lkX3_118 rfl 2 0 (by decide +kernel) rfl rfl rfl rfl ?_
  show Aw z 6 [some (.inr 59), some (.inl x1), some (.inl x2)] [.inl r1] M
  refine ite_elim h (fun hc h => ?_) (fun hc h => ?_)
  · refine a_run (md qX3_backOf_ok) hz 1 [1] (pc' := 22) (lv' := [some (.inr 59), some (.inl x1), some (.inl x2)]) (st' := []) (M' := M) (P := (r1 = 0) ∧ True) rfl ⟨hc, trivial⟩ ?_
    refine a_run (md qX3_backOf_ok) hz 1 [] (pc' := 24) (lv' := [some (.inr 59), some (.inl x1), some (.inl x2)]) (st' := [.inl (-6 : Int)]) (M' := M) (P := True) rfl trivial ?_
    exact a_ri (md qX3_backOf_ok) hz hR rfl (Or.inl rfl) h
  · refine a_run (md qX3_backOf_ok) hz 1 [0] (pc' := 9) (lv' := [some (.inr 59), some (.inl x1), some (.inl x2)]) (st' := []) (M' := M) (P := (¬ (r1 = 0)) ∧ True) rfl ⟨hc, trivial⟩ ?_
    refine a_run (md qX3_backOf_ok) hz 4 [] (pc' := 15) (lv' := [some (.inr 59), some (.inl x1), some (.inl x2)]) (st' := [.inl x2, .inl x1, .inr 68]) (M' := M) (P := True) rfl trivial ?_
    obtain ⟨r2, hr, h⟩ := cal_elim h
    refine a_fS (as := [.inl x1, .inl x2]) (st := [.inr 68]) (mX3_slot z.1 hr) (md qX3_backOf_ok) qX3_slot_ok hz lkX3_98 rfl 2 1 (by decide +kernel) rfl rfl ?_
    show Aw z 18 [some (.inr 59), some (.inl x1), some (.inl x2)] [.inl r2, .inr 68] M
    obtain ⟨h3, h⟩ := gd_elim h
    refine a_run (md qX3_backOf_ok) hz 2 [] (pc' := 24) (lv' := [some (.inr 59), some (.inl x1), some (.inl x2)]) (st' := [.inl (M 68 r2.toNat)]) (M' := M) (P := (0 ≤ r2 ∧ r2 < 320) ∧ True) rfl ⟨h3, trivial⟩ ?_
    exact a_ri (md qX3_backOf_ok) hz hR rfl (Or.inl rfl) h
def fX3_backsOf_L5 (b : Nat) (x1 : Int) (x2 : Int) (M : Mm) : Nat → Int → Int → Option (Int)
  | 0, _, _ => none
  | n + 1, v1, v2 => gd ((0 ≤ x1 ∧ x1 < 16)) (if (M (b + 14) x1.toNat) ≤ v2 then some v1 else jn (fun (v3 : Int) (v4 : Int) => gd ((inR (v4 + (1 : Int)))) (fX3_backsOf_L5 b x1 x2 M n v3 (v4 + (1 : Int)))) (fun (K5 : Int → Int → Option (Int)) => if (iandI (ishrI x2 v2) (1 : Int)) = (1 : Int) then cal (fX3_slot M x1 v2) (fun (r7 : Int) => gd ((0 ≤ r7 ∧ r7 < 320)) (if (M (b + 20) r7.toNat) < 0 then K5 v1 v2 else cal (fX3_slot M x1 v2) (fun (r8 : Int) => gd ((0 ≤ r8 ∧ r8 < 320)) (bnd (iorI v1 (ishlI (1 : Int) (M (b + 20) r8.toNat))) (fun (t9 : Int) => K5 t9 v2))))) else K5 v1 v2))
def fX3_backsOf (b : Nat) (M : Mm) (x1 : Int) (x2 : Int) : Option (Int) := fX3_backsOf_L5 b x1 x2 M 1000 (0 : Int) (0 : Int)
set_option maxRecDepth 100000 in
theorem mX3_backsOf_2_L5 {z : Zx} (hz : Cx qX3_backsOf z) {Q : Option Int → Mm → Prop} (hR : Rt Q z) {x1 : Int} {x2 : Int} {M : Mm} : ∀ (n : Nat) (v1 : Int) (v2 : Int), OK (fX3_backsOf_L5 2 x1 x2 M n v1 v2) (fun r2 => Q (some r2) M) → Aw z 5 [some (.inr 13), some (.inl x1), some (.inl x2), some (.inl v1), some (.inl v2)] [] M := by
  intro n
  induction n with
  | zero =>
    intro v1 v2 h
    exact (show False from h).elim
  | succ n ih =>
    intro v1 v2 h
    unfold fX3_backsOf_L5 at h
    obtain ⟨h12, h⟩ := gd_elim h
    refine ite_elim h (fun hc h => ?_) (fun hc h => ?_)
    · refine a_run (md qX3_backsOf_ok) hz 6 [1] (pc' := 62) (lv' := [some (.inr 13), some (.inl x1), some (.inl x2), some (.inl v1), some (.inl v2)]) (st' := []) (M' := M) (P := (0 ≤ x1 ∧ x1 < 16) ∧ ((M 16 x1.toNat) ≤ v2) ∧ True) rfl ⟨h12, hc, trivial⟩ ?_
      refine a_run (md qX3_backsOf_ok) hz 1 [] (pc' := 63) (lv' := [some (.inr 13), some (.inl x1), some (.inl x2), some (.inl v1), some (.inl v2)]) (st' := [.inl v1]) (M' := M) (P := True) rfl trivial ?_
      exact a_ri (md qX3_backsOf_ok) hz hR rfl (Or.inl rfl) h
    · refine a_run (md qX3_backsOf_ok) hz 6 [0] (pc' := 16) (lv' := [some (.inr 13), some (.inl x1), some (.inl x2), some (.inl v1), some (.inl v2)]) (st' := []) (M' := M) (P := (0 ≤ x1 ∧ x1 < 16) ∧ (¬ ((M 16 x1.toNat) ≤ v2)) ∧ True) rfl ⟨h12, hc, trivial⟩ ?_
      refine jn_elim h (fun (K5 : Int → Int → Option (Int)) => ∀ (v3 : Int), ∀ (v4 : Int), OK (K5 v3 v4) (fun r2 => Q (some r2) M) → Aw z 56 [some (.inr 13), some (.inl x1), some (.inl x2), some (.inl v3), some (.inl v4)] [] M) (fun v3 v4 h => ?_) (fun K5 hK5 h => ?_)
      · obtain ⟨h6, h⟩ := gd_elim h
        refine a_run (md qX3_backsOf_ok) hz 2 [] (pc' := 5) (lv' := [some (.inr 13), some (.inl x1), some (.inl x2), some (.inl v3), some (.inl (v4 + (1 : Int)))]) (st' := []) (M' := M) (P := (inR (v4 + (1 : Int))) ∧ True) rfl ⟨h6, trivial⟩ ?_
        refine a_mask [true, true, true, true, true] ?_
        exact ih v3 (v4 + (1 : Int)) h
      · refine ite_elim h (fun hc h => ?_) (fun hc h => ?_)
        · refine a_run (md qX3_backsOf_ok) hz 7 [0] (pc' := 26) (lv' := [some (.inr 13), some (.inl x1), some (.inl x2), some (.inl v1), some (.inl v2)]) (st' := []) (M' := M) (P := (¬ ¬ (iandI (ishrI x2 v2) (1 : Int)) = (1 : Int)) ∧ True) rfl ⟨fun h9 => h9 hc, trivial⟩ ?_
          refine a_run (md qX3_backsOf_ok) hz 4 [] (pc' := 33) (lv' := [some (.inr 13), some (.inl x1), some (.inl x2), some (.inl v1), some (.inl v2)]) (st' := [.inl v2, .inl x1, .inr 22]) (M' := M) (P := True) rfl trivial ?_
          obtain ⟨r7, hr, h⟩ := cal_elim h
          refine a_fS (as := [.inl x1, .inl v2]) (st := [.inr 22]) (mX3_slot z.1 hr) (md qX3_backsOf_ok) qX3_slot_ok hz lkX3_98 rfl 2 1 (by decide +kernel) rfl rfl ?_
          show Aw z 36 [some (.inr 13), some (.inl x1), some (.inl x2), some (.inl v1), some (.inl v2)] [.inl r7, .inr 22] M
          obtain ⟨h11, h⟩ := gd_elim h
          refine ite_elim h (fun hc h => ?_) (fun hc h => ?_)
          · refine a_run (md qX3_backsOf_ok) hz 2 [1] (pc' := 56) (lv' := [some (.inr 13), some (.inl x1), some (.inl x2), some (.inl v1), some (.inl v2)]) (st' := []) (M' := M) (P := (0 ≤ r7 ∧ r7 < 320) ∧ ((M 22 r7.toNat) < 0) ∧ True) rfl ⟨h11, hc, trivial⟩ ?_
            refine a_mask [true, true, true, true, true] ?_
            exact hK5 v1 v2 h
          · refine a_run (md qX3_backsOf_ok) hz 2 [0] (pc' := 40) (lv' := [some (.inr 13), some (.inl x1), some (.inl x2), some (.inl v1), some (.inl v2)]) (st' := []) (M' := M) (P := (0 ≤ r7 ∧ r7 < 320) ∧ (¬ ((M 22 r7.toNat) < 0)) ∧ True) rfl ⟨h11, hc, trivial⟩ ?_
            refine a_run (md qX3_backsOf_ok) hz 6 [] (pc' := 49) (lv' := [some (.inr 13), some (.inl x1), some (.inl x2), some (.inl v1), some (.inl v2)]) (st' := [.inl v2, .inl x1, .inr 22, .inl (1 : Int), .inl v1]) (M' := M) (P := True) rfl trivial ?_
            obtain ⟨r8, hr, h⟩ := cal_elim h
            refine a_fS (as := [.inl x1, .inl v2]) (st := [.inr 22, .inl (1 : Int), .inl v1]) (mX3_slot z.1 hr) (md qX3_backsOf_ok) qX3_slot_ok hz lkX3_98 rfl 2 3 (by decide +kernel) rfl rfl ?_
            show Aw z 52 [some (.inr 13), some (.inl x1), some (.inl x2), some (.inl v1), some (.inl v2)] [.inl r8, .inr 22, .inl (1 : Int), .inl v1] M
            obtain ⟨h10, h⟩ := gd_elim h
            refine a_run (md qX3_backsOf_ok) hz 4 [] (pc' := 56) (lv' := [some (.inr 13), some (.inl x1), some (.inl x2), some (.inl (iorI v1 (ishlI (1 : Int) (M 22 r8.toNat)))), some (.inl v2)]) (st' := []) (M' := M) (P := (0 ≤ r8 ∧ r8 < 320) ∧ True) rfl ⟨h10, trivial⟩ ?_
            refine bnd_elim (G := fun (t9 : Int) => Aw z 56 [some (.inr 13), some (.inl x1), some (.inl x2), some (.inl t9), some (.inl v2)] [] M) h (fun t9 h => ?_)
            refine a_mask [true, true, true, true, true] ?_
            exact hK5 t9 v2 h
        · refine a_run (md qX3_backsOf_ok) hz 7 [1] (pc' := 56) (lv' := [some (.inr 13), some (.inl x1), some (.inl x2), some (.inl v1), some (.inl v2)]) (st' := []) (M' := M) (P := (¬ (iandI (ishrI x2 v2) (1 : Int)) = (1 : Int)) ∧ True) rfl ⟨hc, trivial⟩ ?_
          refine a_mask [true, true, true, true, true] ?_
          exact hK5 v1 v2 h
set_option maxRecDepth 100000 in
theorem mX3_backsOf_2 (g : Gx) {M : Mm} {x1 : Int} {x2 : Int} {r : Int} (h : fX3_backsOf 2 M x1 x2 = some r) : Ct g qX3_backsOf [.inr 13, .inl x1, .inl x2] M (fun r' M' => r' = some r ∧ M' = M) := by
  refine c_ofP h qX3_backsOf_ok (Nat.le_of_ble_eq_true rfl) (fun z hz Q hR h => ?_)
  unfold fX3_backsOf at h
  show Aw z 0 [some (.inr 13), some (.inl x1), some (.inl x2), none, none] [] M
  refine a_run (md qX3_backsOf_ok) hz 4 [] (pc' := 5) (lv' := [some (.inr 13), some (.inl x1), some (.inl x2), some (.inl (0 : Int)), some (.inl (0 : Int))]) (st' := []) (M' := M) (P := True) rfl trivial ?_
  refine a_mask [true, true, true, true, true] ?_
  refine mX3_backsOf_2_L5 hz hR  1000 (0 : Int) (0 : Int) h
set_option maxRecDepth 100000 in
theorem mX3_backsOf_25_L5 {z : Zx} (hz : Cx qX3_backsOf z) {Q : Option Int → Mm → Prop} (hR : Rt Q z) {x1 : Int} {x2 : Int} {M : Mm} : ∀ (n : Nat) (v1 : Int) (v2 : Int), OK (fX3_backsOf_L5 25 x1 x2 M n v1 v2) (fun r2 => Q (some r2) M) → Aw z 5 [some (.inr 36), some (.inl x1), some (.inl x2), some (.inl v1), some (.inl v2)] [] M := by
  intro n
  induction n with
  | zero =>
    intro v1 v2 h
    exact (show False from h).elim
  | succ n ih =>
    intro v1 v2 h
    unfold fX3_backsOf_L5 at h
    obtain ⟨h12, h⟩ := gd_elim h
    refine ite_elim h (fun hc h => ?_) (fun hc h => ?_)
    · refine a_run (md qX3_backsOf_ok) hz 6 [1] (pc' := 62) (lv' := [some (.inr 36), some (.inl x1), some (.inl x2), some (.inl v1), some (.inl v2)]) (st' := []) (M' := M) (P := (0 ≤ x1 ∧ x1 < 16) ∧ ((M 39 x1.toNat) ≤ v2) ∧ True) rfl ⟨h12, hc, trivial⟩ ?_
      refine a_run (md qX3_backsOf_ok) hz 1 [] (pc' := 63) (lv' := [some (.inr 36), some (.inl x1), some (.inl x2), some (.inl v1), some (.inl v2)]) (st' := [.inl v1]) (M' := M) (P := True) rfl trivial ?_
      exact a_ri (md qX3_backsOf_ok) hz hR rfl (Or.inl rfl) h
    · refine a_run (md qX3_backsOf_ok) hz 6 [0] (pc' := 16) (lv' := [some (.inr 36), some (.inl x1), some (.inl x2), some (.inl v1), some (.inl v2)]) (st' := []) (M' := M) (P := (0 ≤ x1 ∧ x1 < 16) ∧ (¬ ((M 39 x1.toNat) ≤ v2)) ∧ True) rfl ⟨h12, hc, trivial⟩ ?_
      refine jn_elim h (fun (K5 : Int → Int → Option (Int)) => ∀ (v3 : Int), ∀ (v4 : Int), OK (K5 v3 v4) (fun r2 => Q (some r2) M) → Aw z 56 [some (.inr 36), some (.inl x1), some (.inl x2), some (.inl v3), some (.inl v4)] [] M) (fun v3 v4 h => ?_) (fun K5 hK5 h => ?_)
      · obtain ⟨h6, h⟩ := gd_elim h
        refine a_run (md qX3_backsOf_ok) hz 2 [] (pc' := 5) (lv' := [some (.inr 36), some (.inl x1), some (.inl x2), some (.inl v3), some (.inl (v4 + (1 : Int)))]) (st' := []) (M' := M) (P := (inR (v4 + (1 : Int))) ∧ True) rfl ⟨h6, trivial⟩ ?_
        refine a_mask [true, true, true, true, true] ?_
        exact ih v3 (v4 + (1 : Int)) h
      · refine ite_elim h (fun hc h => ?_) (fun hc h => ?_)
        · refine a_run (md qX3_backsOf_ok) hz 7 [0] (pc' := 26) (lv' := [some (.inr 36), some (.inl x1), some (.inl x2), some (.inl v1), some (.inl v2)]) (st' := []) (M' := M) (P := (¬ ¬ (iandI (ishrI x2 v2) (1 : Int)) = (1 : Int)) ∧ True) rfl ⟨fun h9 => h9 hc, trivial⟩ ?_
          refine a_run (md qX3_backsOf_ok) hz 4 [] (pc' := 33) (lv' := [some (.inr 36), some (.inl x1), some (.inl x2), some (.inl v1), some (.inl v2)]) (st' := [.inl v2, .inl x1, .inr 45]) (M' := M) (P := True) rfl trivial ?_
          obtain ⟨r7, hr, h⟩ := cal_elim h
          refine a_fS (as := [.inl x1, .inl v2]) (st := [.inr 45]) (mX3_slot z.1 hr) (md qX3_backsOf_ok) qX3_slot_ok hz lkX3_98 rfl 2 1 (by decide +kernel) rfl rfl ?_
          show Aw z 36 [some (.inr 36), some (.inl x1), some (.inl x2), some (.inl v1), some (.inl v2)] [.inl r7, .inr 45] M
          obtain ⟨h11, h⟩ := gd_elim h
          refine ite_elim h (fun hc h => ?_) (fun hc h => ?_)
          · refine a_run (md qX3_backsOf_ok) hz 2 [1] (pc' := 56) (lv' := [some (.inr 36), some (.inl x1), some (.inl x2), some (.inl v1), some (.inl v2)]) (st' := []) (M' := M) (P := (0 ≤ r7 ∧ r7 < 320) ∧ ((M 45 r7.toNat) < 0) ∧ True) rfl ⟨h11, hc, trivial⟩ ?_
            refine a_mask [true, true, true, true, true] ?_
            exact hK5 v1 v2 h
          · refine a_run (md qX3_backsOf_ok) hz 2 [0] (pc' := 40) (lv' := [some (.inr 36), some (.inl x1), some (.inl x2), some (.inl v1), some (.inl v2)]) (st' := []) (M' := M) (P := (0 ≤ r7 ∧ r7 < 320) ∧ (¬ ((M 45 r7.toNat) < 0)) ∧ True) rfl ⟨h11, hc, trivial⟩ ?_
            refine a_run (md qX3_backsOf_ok) hz 6 [] (pc' := 49) (lv' := [some (.inr 36), some (.inl x1), some (.inl x2), some (.inl v1), some (.inl v2)]) (st' := [.inl v2, .inl x1, .inr 45, .inl (1 : Int), .inl v1]) (M' := M) (P := True) rfl trivial ?_
            obtain ⟨r8, hr, h⟩ := cal_elim h
            refine a_fS (as := [.inl x1, .inl v2]) (st := [.inr 45, .inl (1 : Int), .inl v1]) (mX3_slot z.1 hr) (md qX3_backsOf_ok) qX3_slot_ok hz lkX3_98 rfl 2 3 (by decide +kernel) rfl rfl ?_
            show Aw z 52 [some (.inr 36), some (.inl x1), some (.inl x2), some (.inl v1), some (.inl v2)] [.inl r8, .inr 45, .inl (1 : Int), .inl v1] M
            obtain ⟨h10, h⟩ := gd_elim h
            refine a_run (md qX3_backsOf_ok) hz 4 [] (pc' := 56) (lv' := [some (.inr 36), some (.inl x1), some (.inl x2), some (.inl (iorI v1 (ishlI (1 : Int) (M 45 r8.toNat)))), some (.inl v2)]) (st' := []) (M' := M) (P := (0 ≤ r8 ∧ r8 < 320) ∧ True) rfl ⟨h10, trivial⟩ ?_
            refine bnd_elim (G := fun (t9 : Int) => Aw z 56 [some (.inr 36), some (.inl x1), some (.inl x2), some (.inl t9), some (.inl v2)] [] M) h (fun t9 h => ?_)
            refine a_mask [true, true, true, true, true] ?_
            exact hK5 t9 v2 h
        · refine a_run (md qX3_backsOf_ok) hz 7 [1] (pc' := 56) (lv' := [some (.inr 36), some (.inl x1), some (.inl x2), some (.inl v1), some (.inl v2)]) (st' := []) (M' := M) (P := (¬ (iandI (ishrI x2 v2) (1 : Int)) = (1 : Int)) ∧ True) rfl ⟨hc, trivial⟩ ?_
          refine a_mask [true, true, true, true, true] ?_
          exact hK5 v1 v2 h
set_option maxRecDepth 100000 in
theorem mX3_backsOf_25 (g : Gx) {M : Mm} {x1 : Int} {x2 : Int} {r : Int} (h : fX3_backsOf 25 M x1 x2 = some r) : Ct g qX3_backsOf [.inr 36, .inl x1, .inl x2] M (fun r' M' => r' = some r ∧ M' = M) := by
  refine c_ofP h qX3_backsOf_ok (Nat.le_of_ble_eq_true rfl) (fun z hz Q hR h => ?_)
  unfold fX3_backsOf at h
  show Aw z 0 [some (.inr 36), some (.inl x1), some (.inl x2), none, none] [] M
  refine a_run (md qX3_backsOf_ok) hz 4 [] (pc' := 5) (lv' := [some (.inr 36), some (.inl x1), some (.inl x2), some (.inl (0 : Int)), some (.inl (0 : Int))]) (st' := []) (M' := M) (P := True) rfl trivial ?_
  refine a_mask [true, true, true, true, true] ?_
  refine mX3_backsOf_25_L5 hz hR  1000 (0 : Int) (0 : Int) h
set_option maxRecDepth 100000 in
theorem mX3_backsOf_48_L5 {z : Zx} (hz : Cx qX3_backsOf z) {Q : Option Int → Mm → Prop} (hR : Rt Q z) {x1 : Int} {x2 : Int} {M : Mm} : ∀ (n : Nat) (v1 : Int) (v2 : Int), OK (fX3_backsOf_L5 48 x1 x2 M n v1 v2) (fun r2 => Q (some r2) M) → Aw z 5 [some (.inr 59), some (.inl x1), some (.inl x2), some (.inl v1), some (.inl v2)] [] M := by
  intro n
  induction n with
  | zero =>
    intro v1 v2 h
    exact (show False from h).elim
  | succ n ih =>
    intro v1 v2 h
    unfold fX3_backsOf_L5 at h
    obtain ⟨h12, h⟩ := gd_elim h
    refine ite_elim h (fun hc h => ?_) (fun hc h => ?_)
    · refine a_run (md qX3_backsOf_ok) hz 6 [1] (pc' := 62) (lv' := [some (.inr 59), some (.inl x1), some (.inl x2), some (.inl v1), some (.inl v2)]) (st' := []) (M' := M) (P := (0 ≤ x1 ∧ x1 < 16) ∧ ((M 62 x1.toNat) ≤ v2) ∧ True) rfl ⟨h12, hc, trivial⟩ ?_
      refine a_run (md qX3_backsOf_ok) hz 1 [] (pc' := 63) (lv' := [some (.inr 59), some (.inl x1), some (.inl x2), some (.inl v1), some (.inl v2)]) (st' := [.inl v1]) (M' := M) (P := True) rfl trivial ?_
      exact a_ri (md qX3_backsOf_ok) hz hR rfl (Or.inl rfl) h
    · refine a_run (md qX3_backsOf_ok) hz 6 [0] (pc' := 16) (lv' := [some (.inr 59), some (.inl x1), some (.inl x2), some (.inl v1), some (.inl v2)]) (st' := []) (M' := M) (P := (0 ≤ x1 ∧ x1 < 16) ∧ (¬ ((M 62 x1.toNat) ≤ v2)) ∧ True) rfl ⟨h12, hc, trivial⟩ ?_
      refine jn_elim h (fun (K5 : Int → Int → Option (Int)) => ∀ (v3 : Int), ∀ (v4 : Int), OK (K5 v3 v4) (fun r2 => Q (some r2) M) → Aw z 56 [some (.inr 59), some (.inl x1), some (.inl x2), some (.inl v3), some (.inl v4)] [] M) (fun v3 v4 h => ?_) (fun K5 hK5 h => ?_)
      · obtain ⟨h6, h⟩ := gd_elim h
        refine a_run (md qX3_backsOf_ok) hz 2 [] (pc' := 5) (lv' := [some (.inr 59), some (.inl x1), some (.inl x2), some (.inl v3), some (.inl (v4 + (1 : Int)))]) (st' := []) (M' := M) (P := (inR (v4 + (1 : Int))) ∧ True) rfl ⟨h6, trivial⟩ ?_
        refine a_mask [true, true, true, true, true] ?_
        exact ih v3 (v4 + (1 : Int)) h
      · refine ite_elim h (fun hc h => ?_) (fun hc h => ?_)
        · refine a_run (md qX3_backsOf_ok) hz 7 [0] (pc' := 26) (lv' := [some (.inr 59), some (.inl x1), some (.inl x2), some (.inl v1), some (.inl v2)]) (st' := []) (M' := M) (P := (¬ ¬ (iandI (ishrI x2 v2) (1 : Int)) = (1 : Int)) ∧ True) rfl ⟨fun h9 => h9 hc, trivial⟩ ?_
          refine a_run (md qX3_backsOf_ok) hz 4 [] (pc' := 33) (lv' := [some (.inr 59), some (.inl x1), some (.inl x2), some (.inl v1), some (.inl v2)]) (st' := [.inl v2, .inl x1, .inr 68]) (M' := M) (P := True) rfl trivial ?_
          obtain ⟨r7, hr, h⟩ := cal_elim h
          refine a_fS (as := [.inl x1, .inl v2]) (st := [.inr 68]) (mX3_slot z.1 hr) (md qX3_backsOf_ok) qX3_slot_ok hz lkX3_98 rfl 2 1 (by decide +kernel) rfl rfl ?_
          show Aw z 36 [some (.inr 59), some (.inl x1), some (.inl x2), some (.inl v1), some (.inl v2)] [.inl r7, .inr 68] M
          obtain ⟨h11, h⟩ := gd_elim h
          refine ite_elim h (fun hc h => ?_) (fun hc h => ?_)
          · refine a_run (md qX3_backsOf_ok) hz 2 [1] (pc' := 56) (lv' := [some (.inr 59), some (.inl x1), some (.inl x2), some (.inl v1), some (.inl v2)]) (st' := []) (M' := M) (P := (0 ≤ r7 ∧ r7 < 320) ∧ ((M 68 r7.toNat) < 0) ∧ True) rfl ⟨h11, hc, trivial⟩ ?_
            refine a_mask [true, true, true, true, true] ?_
            exact hK5 v1 v2 h
          · refine a_run (md qX3_backsOf_ok) hz 2 [0] (pc' := 40) (lv' := [some (.inr 59), some (.inl x1), some (.inl x2), some (.inl v1), some (.inl v2)]) (st' := []) (M' := M) (P := (0 ≤ r7 ∧ r7 < 320) ∧ (¬ ((M 68 r7.toNat) < 0)) ∧ True) rfl ⟨h11, hc, trivial⟩ ?_
            refine a_run (md qX3_backsOf_ok) hz 6 [] (pc' := 49) (lv' := [some (.inr 59), some (.inl x1), some (.inl x2), some (.inl v1), some (.inl v2)]) (st' := [.inl v2, .inl x1, .inr 68, .inl (1 : Int), .inl v1]) (M' := M) (P := True) rfl trivial ?_
            obtain ⟨r8, hr, h⟩ := cal_elim h
            refine a_fS (as := [.inl x1, .inl v2]) (st := [.inr 68, .inl (1 : Int), .inl v1]) (mX3_slot z.1 hr) (md qX3_backsOf_ok) qX3_slot_ok hz lkX3_98 rfl 2 3 (by decide +kernel) rfl rfl ?_
            show Aw z 52 [some (.inr 59), some (.inl x1), some (.inl x2), some (.inl v1), some (.inl v2)] [.inl r8, .inr 68, .inl (1 : Int), .inl v1] M
            obtain ⟨h10, h⟩ := gd_elim h
            refine a_run (md qX3_backsOf_ok) hz 4 [] (pc' := 56) (lv' := [some (.inr 59), some (.inl x1), some (.inl x2), some (.inl (iorI v1 (ishlI (1 : Int) (M 68 r8.toNat)))), some (.inl v2)]) (st' := []) (M' := M) (P := (0 ≤ r8 ∧ r8 < 320) ∧ True) rfl ⟨h10, trivial⟩ ?_
            refine bnd_elim (G := fun (t9 : Int) => Aw z 56 [some (.inr 59), some (.inl x1), some (.inl x2), some (.inl t9), some (.inl v2)] [] M) h (fun t9 h => ?_)
            refine a_mask [true, true, true, true, true] ?_
            exact hK5 t9 v2 h
        · refine a_run (md qX3_backsOf_ok) hz 7 [1] (pc' := 56) (lv' := [some (.inr 59), some (.inl x1), some (.inl x2), some (.inl v1), some (.inl v2)]) (st' := []) (M' := M) (P := (¬ (iandI (ishrI x2 v2) (1 : Int)) = (1 : Int)) ∧ True) rfl ⟨hc, trivial⟩ ?_
          refine a_mask [true, true, true, true, true] ?_
          exact hK5 v1 v2 h
set_option maxRecDepth 100000 in
theorem mX3_backsOf_48 (g : Gx) {M : Mm} {x1 : Int} {x2 : Int} {r : Int} (h : fX3_backsOf 48 M x1 x2 = some r) : Ct g qX3_backsOf [.inr 59, .inl x1, .inl x2] M (fun r' M' => r' = some r ∧ M' = M) := by
  refine c_ofP h qX3_backsOf_ok (Nat.le_of_ble_eq_true rfl) (fun z hz Q hR h => ?_)
  unfold fX3_backsOf at h
  show Aw z 0 [some (.inr 59), some (.inl x1), some (.inl x2), none, none] [] M
  refine a_run (md qX3_backsOf_ok) hz 4 [] (pc' := 5) (lv' := [some (.inr 59), some (.inl x1), some (.inl x2), some (.inl (0 : Int)), some (.inl (0 : Int))]) (st' := []) (M' := M) (P := True) rfl trivial ?_
  refine a_mask [true, true, true, true, true] ?_
  refine mX3_backsOf_48_L5 hz hR  1000 (0 : Int) (0 : Int) h
def fX3_cheapest_L9 (b : Nat) (x1 : Int) (M : Mm) : Nat → Int → Int → Int → Option (Int)
  | 0, _, _, _ => none
  | n + 1, v1, v2, v3 => gd ((0 ≤ x1 ∧ x1 < 16)) (if (M (b + 14) x1.toNat) ≤ v3 then some v1 else jn (fun (v4 : Int) (v5 : Int) (v6 : Int) => gd ((inR (v6 + (1 : Int)))) (fX3_cheapest_L9 b x1 M n v4 v5 (v6 + (1 : Int)))) (fun (K7 : Int → Int → Int → Option (Int)) => cal (fX3_slot M x1 v3) (fun (r9 : Int) => gd ((0 ≤ r9 ∧ r9 < 320)) (bnd (M (b + 19) r9.toNat) (fun (t10 : Int) => if t10 = (-6 : Int) then K7 v1 v2 v3 else jn (fun (v11 : Int) (v12 : Int) => K7 v11 v12 v11) (fun (K13 : Int → Int → Option (Int)) => if v2 = (-6 : Int) then K13 v3 t10 else if v2 ≤ t10 then K7 v1 v2 v3 else K13 v3 t10))))))
def fX3_cheapest (b : Nat) (M : Mm) (x1 : Int) : Option (Int) := fX3_cheapest_L9 b x1 M 1000 (-6 : Int) (-6 : Int) (0 : Int)
set_option maxRecDepth 100000 in
theorem mX3_cheapest_2_L9 {z : Zx} (hz : Cx qX3_cheapest z) {Q : Option Int → Mm → Prop} (hR : Rt Q z) {x1 : Int} {M : Mm} : ∀ (n : Nat) (v1 : Int) (v2 : Int) (v3 : Int), OK (fX3_cheapest_L9 2 x1 M n v1 v2 v3) (fun r2 => Q (some r2) M) → Aw z 9 [some (.inr 13), some (.inl x1), some (.inl v1), some (.inl v2), some (.inl v3), none] [] M := by
  intro n
  induction n with
  | zero =>
    intro v1 v2 v3 h
    exact (show False from h).elim
  | succ n ih =>
    intro v1 v2 v3 h
    unfold fX3_cheapest_L9 at h
    obtain ⟨h14, h⟩ := gd_elim h
    refine ite_elim h (fun hc h => ?_) (fun hc h => ?_)
    · refine a_run (md qX3_cheapest_ok) hz 6 [1] (pc' := 64) (lv' := [some (.inr 13), some (.inl x1), some (.inl v1), some (.inl v2), some (.inl v3), none]) (st' := []) (M' := M) (P := (0 ≤ x1 ∧ x1 < 16) ∧ ((M 16 x1.toNat) ≤ v3) ∧ True) rfl ⟨h14, hc, trivial⟩ ?_
      refine a_run (md qX3_cheapest_ok) hz 1 [] (pc' := 65) (lv' := [some (.inr 13), some (.inl x1), some (.inl v1), some (.inl v2), some (.inl v3), none]) (st' := [.inl v1]) (M' := M) (P := True) rfl trivial ?_
      exact a_ri (md qX3_cheapest_ok) hz hR rfl (Or.inl rfl) h
    · refine a_run (md qX3_cheapest_ok) hz 6 [0] (pc' := 20) (lv' := [some (.inr 13), some (.inl x1), some (.inl v1), some (.inl v2), some (.inl v3), none]) (st' := []) (M' := M) (P := (0 ≤ x1 ∧ x1 < 16) ∧ (¬ ((M 16 x1.toNat) ≤ v3)) ∧ True) rfl ⟨h14, hc, trivial⟩ ?_
      refine jn_elim h (fun (K7 : Int → Int → Int → Option (Int)) => ∀ (v4 : Int), ∀ (v5 : Int), ∀ (v6 : Int), OK (K7 v4 v5 v6) (fun r2 => Q (some r2) M) → Aw z 58 [some (.inr 13), some (.inl x1), some (.inl v4), some (.inl v5), some (.inl v6), none] [] M) (fun v4 v5 v6 h => ?_) (fun K7 hK7 h => ?_)
      · obtain ⟨h8, h⟩ := gd_elim h
        refine a_run (md qX3_cheapest_ok) hz 2 [] (pc' := 9) (lv' := [some (.inr 13), some (.inl x1), some (.inl v4), some (.inl v5), some (.inl (v6 + (1 : Int))), none]) (st' := []) (M' := M) (P := (inR (v6 + (1 : Int))) ∧ True) rfl ⟨h8, trivial⟩ ?_
        refine a_mask [true, true, true, true, true, false] ?_
        exact ih v4 v5 (v6 + (1 : Int)) h
      · refine a_run (md qX3_cheapest_ok) hz 4 [] (pc' := 27) (lv' := [some (.inr 13), some (.inl x1), some (.inl v1), some (.inl v2), some (.inl v3), none]) (st' := [.inl v3, .inl x1, .inr 21]) (M' := M) (P := True) rfl trivial ?_
        obtain ⟨r9, hr, h⟩ := cal_elim h
        refine a_fS (as := [.inl x1, .inl v3]) (st := [.inr 21]) (mX3_slot z.1 hr) (md qX3_cheapest_ok) qX3_slot_ok hz lkX3_98 rfl 2 1 (by decide +kernel) rfl rfl ?_
        show Aw z 30 [some (.inr 13), some (.inl x1), some (.inl v1), some (.inl v2), some (.inl v3), none] [.inl r9, .inr 21] M
        obtain ⟨h13, h⟩ := gd_elim h
        refine ite_elim h (fun hc h => ?_) (fun hc h => ?_)
        · refine a_run (md qX3_cheapest_ok) hz 5 [1] (pc' := 58) (lv' := [some (.inr 13), some (.inl x1), some (.inl v1), some (.inl v2), some (.inl v3), some (.inl (M 21 r9.toNat))]) (st' := []) (M' := M) (P := (0 ≤ r9 ∧ r9 < 320) ∧ ((M 21 r9.toNat) = (-6 : Int)) ∧ True) rfl ⟨h13, hc, trivial⟩ ?_
          refine a_mask [true, true, true, true, true, false] ?_
          exact hK7 v1 v2 v3 h
        · refine a_run (md qX3_cheapest_ok) hz 5 [0] (pc' := 40) (lv' := [some (.inr 13), some (.inl x1), some (.inl v1), some (.inl v2), some (.inl v3), some (.inl (M 21 r9.toNat))]) (st' := []) (M' := M) (P := (0 ≤ r9 ∧ r9 < 320) ∧ (¬ ((M 21 r9.toNat) = (-6 : Int))) ∧ True) rfl ⟨h13, hc, trivial⟩ ?_
          refine jn_elim h (fun (K12 : Int → Int → Option (Int)) => ∀ (v10 : Int), ∀ (v11 : Int), OK (K12 v10 v11) (fun r2 => Q (some r2) M) → Aw z 52 [some (.inr 13), some (.inl x1), none, none, some (.inl v10), some (.inl v11)] [] M) (fun v10 v11 h => ?_) (fun K12 hK12 h => ?_)
          · refine a_run (md qX3_cheapest_ok) hz 4 [] (pc' := 58) (lv' := [some (.inr 13), some (.inl x1), some (.inl v10), some (.inl v11), some (.inl v10), some (.inl v11)]) (st' := []) (M' := M) (P := True) rfl trivial ?_
            refine a_mask [true, true, true, true, true, false] ?_
            exact hK7 v10 v11 v10 h
          · refine ite_elim h (fun hc h => ?_) (fun hc h => ?_)
            · refine a_run (md qX3_cheapest_ok) hz 3 [1] (pc' := 52) (lv' := [some (.inr 13), some (.inl x1), some (.inl v1), some (.inl v2), some (.inl v3), some (.inl (M 21 r9.toNat))]) (st' := []) (M' := M) (P := (v2 = (-6 : Int)) ∧ True) rfl ⟨hc, trivial⟩ ?_
              refine a_mask [true, true, false, false, true, true] ?_
              exact hK12 v3 (M 21 r9.toNat) h
            · refine a_run (md qX3_cheapest_ok) hz 3 [0] (pc' := 46) (lv' := [some (.inr 13), some (.inl x1), some (.inl v1), some (.inl v2), some (.inl v3), some (.inl (M 21 r9.toNat))]) (st' := []) (M' := M) (P := (¬ (v2 = (-6 : Int))) ∧ True) rfl ⟨hc, trivial⟩ ?_
              refine ite_elim h (fun hc h => ?_) (fun hc h => ?_)
              · refine a_run (md qX3_cheapest_ok) hz 3 [1] (pc' := 58) (lv' := [some (.inr 13), some (.inl x1), some (.inl v1), some (.inl v2), some (.inl v3), some (.inl (M 21 r9.toNat))]) (st' := []) (M' := M) (P := (v2 ≤ (M 21 r9.toNat)) ∧ True) rfl ⟨hc, trivial⟩ ?_
                refine a_mask [true, true, true, true, true, false] ?_
                exact hK7 v1 v2 v3 h
              · refine a_run (md qX3_cheapest_ok) hz 3 [0] (pc' := 52) (lv' := [some (.inr 13), some (.inl x1), some (.inl v1), some (.inl v2), some (.inl v3), some (.inl (M 21 r9.toNat))]) (st' := []) (M' := M) (P := (¬ (v2 ≤ (M 21 r9.toNat))) ∧ True) rfl ⟨hc, trivial⟩ ?_
                refine a_mask [true, true, false, false, true, true] ?_
                exact hK12 v3 (M 21 r9.toNat) h
set_option maxRecDepth 100000 in
theorem mX3_cheapest_2 (g : Gx) {M : Mm} {x1 : Int} {r : Int} (h : fX3_cheapest 2 M x1 = some r) : Ct g qX3_cheapest [.inr 13, .inl x1] M (fun r' M' => r' = some r ∧ M' = M) := by
  refine c_ofP h qX3_cheapest_ok (Nat.le_of_ble_eq_true rfl) (fun z hz Q hR h => ?_)
  unfold fX3_cheapest at h
  show Aw z 0 [some (.inr 13), some (.inl x1), none, none, none, none] [] M
  refine a_run (md qX3_cheapest_ok) hz 6 [] (pc' := 9) (lv' := [some (.inr 13), some (.inl x1), some (.inl (-6 : Int)), some (.inl (-6 : Int)), some (.inl (0 : Int)), none]) (st' := []) (M' := M) (P := True) rfl trivial ?_
  refine a_mask [true, true, true, true, true, false] ?_
  refine mX3_cheapest_2_L9 hz hR  1000 (-6 : Int) (-6 : Int) (0 : Int) h
set_option maxRecDepth 100000 in
theorem mX3_cheapest_25_L9 {z : Zx} (hz : Cx qX3_cheapest z) {Q : Option Int → Mm → Prop} (hR : Rt Q z) {x1 : Int} {M : Mm} : ∀ (n : Nat) (v1 : Int) (v2 : Int) (v3 : Int), OK (fX3_cheapest_L9 25 x1 M n v1 v2 v3) (fun r2 => Q (some r2) M) → Aw z 9 [some (.inr 36), some (.inl x1), some (.inl v1), some (.inl v2), some (.inl v3), none] [] M := by
  intro n
  induction n with
  | zero =>
    intro v1 v2 v3 h
    exact (show False from h).elim
  | succ n ih =>
    intro v1 v2 v3 h
    unfold fX3_cheapest_L9 at h
    obtain ⟨h14, h⟩ := gd_elim h
    refine ite_elim h (fun hc h => ?_) (fun hc h => ?_)
    · refine a_run (md qX3_cheapest_ok) hz 6 [1] (pc' := 64) (lv' := [some (.inr 36), some (.inl x1), some (.inl v1), some (.inl v2), some (.inl v3), none]) (st' := []) (M' := M) (P := (0 ≤ x1 ∧ x1 < 16) ∧ ((M 39 x1.toNat) ≤ v3) ∧ True) rfl ⟨h14, hc, trivial⟩ ?_
      refine a_run (md qX3_cheapest_ok) hz 1 [] (pc' := 65) (lv' := [some (.inr 36), some (.inl x1), some (.inl v1), some (.inl v2), some (.inl v3), none]) (st' := [.inl v1]) (M' := M) (P := True) rfl trivial ?_
      exact a_ri (md qX3_cheapest_ok) hz hR rfl (Or.inl rfl) h
    · refine a_run (md qX3_cheapest_ok) hz 6 [0] (pc' := 20) (lv' := [some (.inr 36), some (.inl x1), some (.inl v1), some (.inl v2), some (.inl v3), none]) (st' := []) (M' := M) (P := (0 ≤ x1 ∧ x1 < 16) ∧ (¬ ((M 39 x1.toNat) ≤ v3)) ∧ True) rfl ⟨h14, hc, trivial⟩ ?_
      refine jn_elim h (fun (K7 : Int → Int → Int → Option (Int)) => ∀ (v4 : Int), ∀ (v5 : Int), ∀ (v6 : Int), OK (K7 v4 v5 v6) (fun r2 => Q (some r2) M) → Aw z 58 [some (.inr 36), some (.inl x1), some (.inl v4), some (.inl v5), some (.inl v6), none] [] M) (fun v4 v5 v6 h => ?_) (fun K7 hK7 h => ?_)
      · obtain ⟨h8, h⟩ := gd_elim h
        refine a_run (md qX3_cheapest_ok) hz 2 [] (pc' := 9) (lv' := [some (.inr 36), some (.inl x1), some (.inl v4), some (.inl v5), some (.inl (v6 + (1 : Int))), none]) (st' := []) (M' := M) (P := (inR (v6 + (1 : Int))) ∧ True) rfl ⟨h8, trivial⟩ ?_
        refine a_mask [true, true, true, true, true, false] ?_
        exact ih v4 v5 (v6 + (1 : Int)) h
      · refine a_run (md qX3_cheapest_ok) hz 4 [] (pc' := 27) (lv' := [some (.inr 36), some (.inl x1), some (.inl v1), some (.inl v2), some (.inl v3), none]) (st' := [.inl v3, .inl x1, .inr 44]) (M' := M) (P := True) rfl trivial ?_
        obtain ⟨r9, hr, h⟩ := cal_elim h
        refine a_fS (as := [.inl x1, .inl v3]) (st := [.inr 44]) (mX3_slot z.1 hr) (md qX3_cheapest_ok) qX3_slot_ok hz lkX3_98 rfl 2 1 (by decide +kernel) rfl rfl ?_
        show Aw z 30 [some (.inr 36), some (.inl x1), some (.inl v1), some (.inl v2), some (.inl v3), none] [.inl r9, .inr 44] M
        obtain ⟨h13, h⟩ := gd_elim h
        refine ite_elim h (fun hc h => ?_) (fun hc h => ?_)
        · refine a_run (md qX3_cheapest_ok) hz 5 [1] (pc' := 58) (lv' := [some (.inr 36), some (.inl x1), some (.inl v1), some (.inl v2), some (.inl v3), some (.inl (M 44 r9.toNat))]) (st' := []) (M' := M) (P := (0 ≤ r9 ∧ r9 < 320) ∧ ((M 44 r9.toNat) = (-6 : Int)) ∧ True) rfl ⟨h13, hc, trivial⟩ ?_
          refine a_mask [true, true, true, true, true, false] ?_
          exact hK7 v1 v2 v3 h
        · refine a_run (md qX3_cheapest_ok) hz 5 [0] (pc' := 40) (lv' := [some (.inr 36), some (.inl x1), some (.inl v1), some (.inl v2), some (.inl v3), some (.inl (M 44 r9.toNat))]) (st' := []) (M' := M) (P := (0 ≤ r9 ∧ r9 < 320) ∧ (¬ ((M 44 r9.toNat) = (-6 : Int))) ∧ True) rfl ⟨h13, hc, trivial⟩ ?_
          refine jn_elim h (fun (K12 : Int → Int → Option (Int)) => ∀ (v10 : Int), ∀ (v11 : Int), OK (K12 v10 v11) (fun r2 => Q (some r2) M) → Aw z 52 [some (.inr 36), some (.inl x1), none, none, some (.inl v10), some (.inl v11)] [] M) (fun v10 v11 h => ?_) (fun K12 hK12 h => ?_)
          · refine a_run (md qX3_cheapest_ok) hz 4 [] (pc' := 58) (lv' := [some (.inr 36), some (.inl x1), some (.inl v10), some (.inl v11), some (.inl v10), some (.inl v11)]) (st' := []) (M' := M) (P := True) rfl trivial ?_
            refine a_mask [true, true, true, true, true, false] ?_
            exact hK7 v10 v11 v10 h
          · refine ite_elim h (fun hc h => ?_) (fun hc h => ?_)
            · refine a_run (md qX3_cheapest_ok) hz 3 [1] (pc' := 52) (lv' := [some (.inr 36), some (.inl x1), some (.inl v1), some (.inl v2), some (.inl v3), some (.inl (M 44 r9.toNat))]) (st' := []) (M' := M) (P := (v2 = (-6 : Int)) ∧ True) rfl ⟨hc, trivial⟩ ?_
              refine a_mask [true, true, false, false, true, true] ?_
              exact hK12 v3 (M 44 r9.toNat) h
            · refine a_run (md qX3_cheapest_ok) hz 3 [0] (pc' := 46) (lv' := [some (.inr 36), some (.inl x1), some (.inl v1), some (.inl v2), some (.inl v3), some (.inl (M 44 r9.toNat))]) (st' := []) (M' := M) (P := (¬ (v2 = (-6 : Int))) ∧ True) rfl ⟨hc, trivial⟩ ?_
              refine ite_elim h (fun hc h => ?_) (fun hc h => ?_)
              · refine a_run (md qX3_cheapest_ok) hz 3 [1] (pc' := 58) (lv' := [some (.inr 36), some (.inl x1), some (.inl v1), some (.inl v2), some (.inl v3), some (.inl (M 44 r9.toNat))]) (st' := []) (M' := M) (P := (v2 ≤ (M 44 r9.toNat)) ∧ True) rfl ⟨hc, trivial⟩ ?_
                refine a_mask [true, true, true, true, true, false] ?_
                exact hK7 v1 v2 v3 h
              · refine a_run (md qX3_cheapest_ok) hz 3 [0] (pc' := 52) (lv' := [some (.inr 36), some (.inl x1), some (.inl v1), some (.inl v2), some (.inl v3), some (.inl (M 44 r9.toNat))]) (st' := []) (M' := M) (P := (¬ (v2 ≤ (M 44 r9.toNat))) ∧ True) rfl ⟨hc, trivial⟩ ?_
                refine a_mask [true, true, false, false, true, true] ?_
                exact hK12 v3 (M 44 r9.toNat) h
set_option maxRecDepth 100000 in
theorem mX3_cheapest_25 (g : Gx) {M : Mm} {x1 : Int} {r : Int} (h : fX3_cheapest 25 M x1 = some r) : Ct g qX3_cheapest [.inr 36, .inl x1] M (fun r' M' => r' = some r ∧ M' = M) := by
  refine c_ofP h qX3_cheapest_ok (Nat.le_of_ble_eq_true rfl) (fun z hz Q hR h => ?_)
  unfold fX3_cheapest at h
  show Aw z 0 [some (.inr 36), some (.inl x1), none, none, none, none] [] M
  refine a_run (md qX3_cheapest_ok) hz 6 [] (pc' := 9) (lv' := [some (.inr 36), some (.inl x1), some (.inl (-6 : Int)), some (.inl (-6 : Int)), some (.inl (0 : Int)), none]) (st' := []) (M' := M) (P := True) rfl trivial ?_
  refine a_mask [true, true, true, true, true, false] ?_
  refine mX3_cheapest_25_L9 hz hR  1000 (-6 : Int) (-6 : Int) (0 : Int) h
set_option maxRecDepth 100000 in
theorem mX3_cheapest_48_L9 {z : Zx} (hz : Cx qX3_cheapest z) {Q : Option Int → Mm → Prop} (hR : Rt Q z) {x1 : Int} {M : Mm} : ∀ (n : Nat) (v1 : Int) (v2 : Int) (v3 : Int), OK (fX3_cheapest_L9 48 x1 M n v1 v2 v3) (fun r2 => Q (some r2) M) → Aw z 9 [some (.inr 59), some (.inl x1), some (.inl v1), some (.inl v2), some (.inl v3), none] [] M := by
  intro n
  induction n with
  | zero =>
    intro v1 v2 v3 h
    exact (show False from h).elim
  | succ n ih =>
    intro v1 v2 v3 h
    unfold fX3_cheapest_L9 at h
    obtain ⟨h14, h⟩ := gd_elim h
    refine ite_elim h (fun hc h => ?_) (fun hc h => ?_)
    · refine a_run (md qX3_cheapest_ok) hz 6 [1] (pc' := 64) (lv' := [some (.inr 59), some (.inl x1), some (.inl v1), some (.inl v2), some (.inl v3), none]) (st' := []) (M' := M) (P := (0 ≤ x1 ∧ x1 < 16) ∧ ((M 62 x1.toNat) ≤ v3) ∧ True) rfl ⟨h14, hc, trivial⟩ ?_
      refine a_run (md qX3_cheapest_ok) hz 1 [] (pc' := 65) (lv' := [some (.inr 59), some (.inl x1), some (.inl v1), some (.inl v2), some (.inl v3), none]) (st' := [.inl v1]) (M' := M) (P := True) rfl trivial ?_
      exact a_ri (md qX3_cheapest_ok) hz hR rfl (Or.inl rfl) h
    · refine a_run (md qX3_cheapest_ok) hz 6 [0] (pc' := 20) (lv' := [some (.inr 59), some (.inl x1), some (.inl v1), some (.inl v2), some (.inl v3), none]) (st' := []) (M' := M) (P := (0 ≤ x1 ∧ x1 < 16) ∧ (¬ ((M 62 x1.toNat) ≤ v3)) ∧ True) rfl ⟨h14, hc, trivial⟩ ?_
      refine jn_elim h (fun (K7 : Int → Int → Int → Option (Int)) => ∀ (v4 : Int), ∀ (v5 : Int), ∀ (v6 : Int), OK (K7 v4 v5 v6) (fun r2 => Q (some r2) M) → Aw z 58 [some (.inr 59), some (.inl x1), some (.inl v4), some (.inl v5), some (.inl v6), none] [] M) (fun v4 v5 v6 h => ?_) (fun K7 hK7 h => ?_)
      · obtain ⟨h8, h⟩ := gd_elim h
        refine a_run (md qX3_cheapest_ok) hz 2 [] (pc' := 9) (lv' := [some (.inr 59), some (.inl x1), some (.inl v4), some (.inl v5), some (.inl (v6 + (1 : Int))), none]) (st' := []) (M' := M) (P := (inR (v6 + (1 : Int))) ∧ True) rfl ⟨h8, trivial⟩ ?_
        refine a_mask [true, true, true, true, true, false] ?_
        exact ih v4 v5 (v6 + (1 : Int)) h
      · refine a_run (md qX3_cheapest_ok) hz 4 [] (pc' := 27) (lv' := [some (.inr 59), some (.inl x1), some (.inl v1), some (.inl v2), some (.inl v3), none]) (st' := [.inl v3, .inl x1, .inr 67]) (M' := M) (P := True) rfl trivial ?_
        obtain ⟨r9, hr, h⟩ := cal_elim h
        refine a_fS (as := [.inl x1, .inl v3]) (st := [.inr 67]) (mX3_slot z.1 hr) (md qX3_cheapest_ok) qX3_slot_ok hz lkX3_98 rfl 2 1 (by decide +kernel) rfl rfl ?_
        show Aw z 30 [some (.inr 59), some (.inl x1), some (.inl v1), some (.inl v2), some (.inl v3), none] [.inl r9, .inr 67] M
        obtain ⟨h13, h⟩ := gd_elim h
        refine ite_elim h (fun hc h => ?_) (fun hc h => ?_)
        · refine a_run (md qX3_cheapest_ok) hz 5 [1] (pc' := 58) (lv' := [some (.inr 59), some (.inl x1), some (.inl v1), some (.inl v2), some (.inl v3), some (.inl (M 67 r9.toNat))]) (st' := []) (M' := M) (P := (0 ≤ r9 ∧ r9 < 320) ∧ ((M 67 r9.toNat) = (-6 : Int)) ∧ True) rfl ⟨h13, hc, trivial⟩ ?_
          refine a_mask [true, true, true, true, true, false] ?_
          exact hK7 v1 v2 v3 h
        · refine a_run (md qX3_cheapest_ok) hz 5 [0] (pc' := 40) (lv' := [some (.inr 59), some (.inl x1), some (.inl v1), some (.inl v2), some (.inl v3), some (.inl (M 67 r9.toNat))]) (st' := []) (M' := M) (P := (0 ≤ r9 ∧ r9 < 320) ∧ (¬ ((M 67 r9.toNat) = (-6 : Int))) ∧ True) rfl ⟨h13, hc, trivial⟩ ?_
          refine jn_elim h (fun (K12 : Int → Int → Option (Int)) => ∀ (v10 : Int), ∀ (v11 : Int), OK (K12 v10 v11) (fun r2 => Q (some r2) M) → Aw z 52 [some (.inr 59), some (.inl x1), none, none, some (.inl v10), some (.inl v11)] [] M) (fun v10 v11 h => ?_) (fun K12 hK12 h => ?_)
          · refine a_run (md qX3_cheapest_ok) hz 4 [] (pc' := 58) (lv' := [some (.inr 59), some (.inl x1), some (.inl v10), some (.inl v11), some (.inl v10), some (.inl v11)]) (st' := []) (M' := M) (P := True) rfl trivial ?_
            refine a_mask [true, true, true, true, true, false] ?_
            exact hK7 v10 v11 v10 h
          · refine ite_elim h (fun hc h => ?_) (fun hc h => ?_)
            · refine a_run (md qX3_cheapest_ok) hz 3 [1] (pc' := 52) (lv' := [some (.inr 59), some (.inl x1), some (.inl v1), some (.inl v2), some (.inl v3), some (.inl (M 67 r9.toNat))]) (st' := []) (M' := M) (P := (v2 = (-6 : Int)) ∧ True) rfl ⟨hc, trivial⟩ ?_
              refine a_mask [true, true, false, false, true, true] ?_
              exact hK12 v3 (M 67 r9.toNat) h
            · refine a_run (md qX3_cheapest_ok) hz 3 [0] (pc' := 46) (lv' := [some (.inr 59), some (.inl x1), some (.inl v1), some (.inl v2), some (.inl v3), some (.inl (M 67 r9.toNat))]) (st' := []) (M' := M) (P := (¬ (v2 = (-6 : Int))) ∧ True) rfl ⟨hc, trivial⟩ ?_
              refine ite_elim h (fun hc h => ?_) (fun hc h => ?_)
              · refine a_run (md qX3_cheapest_ok) hz 3 [1] (pc' := 58) (lv' := [some (.inr 59), some (.inl x1), some (.inl v1), some (.inl v2), some (.inl v3), some (.inl (M 67 r9.toNat))]) (st' := []) (M' := M) (P := (v2 ≤ (M 67 r9.toNat)) ∧ True) rfl ⟨hc, trivial⟩ ?_
                refine a_mask [true, true, true, true, true, false] ?_
                exact hK7 v1 v2 v3 h
              · refine a_run (md qX3_cheapest_ok) hz 3 [0] (pc' := 52) (lv' := [some (.inr 59), some (.inl x1), some (.inl v1), some (.inl v2), some (.inl v3), some (.inl (M 67 r9.toNat))]) (st' := []) (M' := M) (P := (¬ (v2 ≤ (M 67 r9.toNat))) ∧ True) rfl ⟨hc, trivial⟩ ?_
                refine a_mask [true, true, false, false, true, true] ?_
                exact hK12 v3 (M 67 r9.toNat) h
set_option maxRecDepth 100000 in
theorem mX3_cheapest_48 (g : Gx) {M : Mm} {x1 : Int} {r : Int} (h : fX3_cheapest 48 M x1 = some r) : Ct g qX3_cheapest [.inr 59, .inl x1] M (fun r' M' => r' = some r ∧ M' = M) := by
  refine c_ofP h qX3_cheapest_ok (Nat.le_of_ble_eq_true rfl) (fun z hz Q hR h => ?_)
  unfold fX3_cheapest at h
  show Aw z 0 [some (.inr 59), some (.inl x1), none, none, none, none] [] M
  refine a_run (md qX3_cheapest_ok) hz 6 [] (pc' := 9) (lv' := [some (.inr 59), some (.inl x1), some (.inl (-6 : Int)), some (.inl (-6 : Int)), some (.inl (0 : Int)), none]) (st' := []) (M' := M) (P := True) rfl trivial ?_
  refine a_mask [true, true, true, true, true, false] ?_
  refine mX3_cheapest_48_L9 hz hR  1000 (-6 : Int) (-6 : Int) (0 : Int) h
def fX3_alive_L4 (b : Nat) (x1 : Int) (M : Mm) : Nat → Int → Int → Option (Int)
  | 0, _, _ => none
  | n + 1, v1, v2 => gd ((0 ≤ x1 ∧ x1 < 16)) (if (M (b + 14) x1.toNat) ≤ v2 then some v1 else jn (fun (v3 : Int) (v4 : Int) => gd ((inR (v4 + (1 : Int)))) (fX3_alive_L4 b x1 M n v3 (v4 + (1 : Int)))) (fun (K5 : Int → Int → Option (Int)) => cal (fX3_slot M x1 v2) (fun (r7 : Int) => gd ((0 ≤ r7 ∧ r7 < 320)) (if (M (b + 19) r7.toNat) = (-6 : Int) then K5 v1 v2 else bnd (iorI v1 (ishlI (1 : Int) v2)) (fun (t8 : Int) => K5 t8 v2)))))
def fX3_alive (b : Nat) (M : Mm) (x1 : Int) : Option (Int) := fX3_alive_L4 b x1 M 1000 (0 : Int) (0 : Int)
set_option maxRecDepth 100000 in
theorem mX3_alive_2_L4 {z : Zx} (hz : Cx qX3_alive z) {Q : Option Int → Mm → Prop} (hR : Rt Q z) {x1 : Int} {M : Mm} : ∀ (n : Nat) (v1 : Int) (v2 : Int), OK (fX3_alive_L4 2 x1 M n v1 v2) (fun r2 => Q (some r2) M) → Aw z 4 [some (.inr 13), some (.inl x1), some (.inl v1), some (.inl v2)] [] M := by
  intro n
  induction n with
  | zero =>
    intro v1 v2 h
    exact (show False from h).elim
  | succ n ih =>
    intro v1 v2 h
    unfold fX3_alive_L4 at h
    obtain ⟨h10, h⟩ := gd_elim h
    refine ite_elim h (fun hc h => ?_) (fun hc h => ?_)
    · refine a_run (md qX3_alive_ok) hz 6 [1] (pc' := 41) (lv' := [some (.inr 13), some (.inl x1), some (.inl v1), some (.inl v2)]) (st' := []) (M' := M) (P := (0 ≤ x1 ∧ x1 < 16) ∧ ((M 16 x1.toNat) ≤ v2) ∧ True) rfl ⟨h10, hc, trivial⟩ ?_
      refine a_run (md qX3_alive_ok) hz 1 [] (pc' := 42) (lv' := [some (.inr 13), some (.inl x1), some (.inl v1), some (.inl v2)]) (st' := [.inl v1]) (M' := M) (P := True) rfl trivial ?_
      exact a_ri (md qX3_alive_ok) hz hR rfl (Or.inl rfl) h
    · refine a_run (md qX3_alive_ok) hz 6 [0] (pc' := 14) (lv' := [some (.inr 13), some (.inl x1), some (.inl v1), some (.inl v2)]) (st' := []) (M' := M) (P := (0 ≤ x1 ∧ x1 < 16) ∧ (¬ ((M 16 x1.toNat) ≤ v2)) ∧ True) rfl ⟨h10, hc, trivial⟩ ?_
      refine jn_elim h (fun (K5 : Int → Int → Option (Int)) => ∀ (v3 : Int), ∀ (v4 : Int), OK (K5 v3 v4) (fun r2 => Q (some r2) M) → Aw z 35 [some (.inr 13), some (.inl x1), some (.inl v3), some (.inl v4)] [] M) (fun v3 v4 h => ?_) (fun K5 hK5 h => ?_)
      · obtain ⟨h6, h⟩ := gd_elim h
        refine a_run (md qX3_alive_ok) hz 2 [] (pc' := 4) (lv' := [some (.inr 13), some (.inl x1), some (.inl v3), some (.inl (v4 + (1 : Int)))]) (st' := []) (M' := M) (P := (inR (v4 + (1 : Int))) ∧ True) rfl ⟨h6, trivial⟩ ?_
        refine a_mask [true, true, true, true] ?_
        exact ih v3 (v4 + (1 : Int)) h
      · refine a_run (md qX3_alive_ok) hz 4 [] (pc' := 20) (lv' := [some (.inr 13), some (.inl x1), some (.inl v1), some (.inl v2)]) (st' := [.inl v2, .inl x1, .inr 21]) (M' := M) (P := True) rfl trivial ?_
        obtain ⟨r7, hr, h⟩ := cal_elim h
        refine a_fS (as := [.inl x1, .inl v2]) (st := [.inr 21]) (mX3_slot z.1 hr) (md qX3_alive_ok) qX3_slot_ok hz lkX3_98 rfl 2 1 (by decide +kernel) rfl rfl ?_
        show Aw z 23 [some (.inr 13), some (.inl x1), some (.inl v1), some (.inl v2)] [.inl r7, .inr 21] M
        obtain ⟨h9, h⟩ := gd_elim h
        refine ite_elim h (fun hc h => ?_) (fun hc h => ?_)
        · refine a_run (md qX3_alive_ok) hz 3 [1] (pc' := 35) (lv' := [some (.inr 13), some (.inl x1), some (.inl v1), some (.inl v2)]) (st' := []) (M' := M) (P := (0 ≤ r7 ∧ r7 < 320) ∧ ((M 21 r7.toNat) = (-6 : Int)) ∧ True) rfl ⟨h9, hc, trivial⟩ ?_
          refine a_mask [true, true, true, true] ?_
          exact hK5 v1 v2 h
        · refine a_run (md qX3_alive_ok) hz 3 [0] (pc' := 29) (lv' := [some (.inr 13), some (.inl x1), some (.inl v1), some (.inl v2)]) (st' := []) (M' := M) (P := (0 ≤ r7 ∧ r7 < 320) ∧ (¬ ((M 21 r7.toNat) = (-6 : Int))) ∧ True) rfl ⟨h9, hc, trivial⟩ ?_
          refine a_run (md qX3_alive_ok) hz 6 [] (pc' := 35) (lv' := [some (.inr 13), some (.inl x1), some (.inl (iorI v1 (ishlI (1 : Int) v2))), some (.inl v2)]) (st' := []) (M' := M) (P := True) rfl trivial ?_
          refine bnd_elim (G := fun (t8 : Int) => Aw z 35 [some (.inr 13), some (.inl x1), some (.inl t8), some (.inl v2)] [] M) h (fun t8 h => ?_)
          refine a_mask [true, true, true, true] ?_
          exact hK5 t8 v2 h
set_option maxRecDepth 100000 in
theorem mX3_alive_2 (g : Gx) {M : Mm} {x1 : Int} {r : Int} (h : fX3_alive 2 M x1 = some r) : Ct g qX3_alive [.inr 13, .inl x1] M (fun r' M' => r' = some r ∧ M' = M) := by
  refine c_ofP h qX3_alive_ok (Nat.le_of_ble_eq_true rfl) (fun z hz Q hR h => ?_)
  unfold fX3_alive at h
  show Aw z 0 [some (.inr 13), some (.inl x1), none, none] [] M
  refine a_run (md qX3_alive_ok) hz 4 [] (pc' := 4) (lv' := [some (.inr 13), some (.inl x1), some (.inl (0 : Int)), some (.inl (0 : Int))]) (st' := []) (M' := M) (P := True) rfl trivial ?_
  refine a_mask [true, true, true, true] ?_
  refine mX3_alive_2_L4 hz hR  1000 (0 : Int) (0 : Int) h
set_option maxRecDepth 100000 in
theorem mX3_alive_25_L4 {z : Zx} (hz : Cx qX3_alive z) {Q : Option Int → Mm → Prop} (hR : Rt Q z) {x1 : Int} {M : Mm} : ∀ (n : Nat) (v1 : Int) (v2 : Int), OK (fX3_alive_L4 25 x1 M n v1 v2) (fun r2 => Q (some r2) M) → Aw z 4 [some (.inr 36), some (.inl x1), some (.inl v1), some (.inl v2)] [] M := by
  intro n
  induction n with
  | zero =>
    intro v1 v2 h
    exact (show False from h).elim
  | succ n ih =>
    intro v1 v2 h
    unfold fX3_alive_L4 at h
    obtain ⟨h10, h⟩ := gd_elim h
    refine ite_elim h (fun hc h => ?_) (fun hc h => ?_)
    · refine a_run (md qX3_alive_ok) hz 6 [1] (pc' := 41) (lv' := [some (.inr 36), some (.inl x1), some (.inl v1), some (.inl v2)]) (st' := []) (M' := M) (P := (0 ≤ x1 ∧ x1 < 16) ∧ ((M 39 x1.toNat) ≤ v2) ∧ True) rfl ⟨h10, hc, trivial⟩ ?_
      refine a_run (md qX3_alive_ok) hz 1 [] (pc' := 42) (lv' := [some (.inr 36), some (.inl x1), some (.inl v1), some (.inl v2)]) (st' := [.inl v1]) (M' := M) (P := True) rfl trivial ?_
      exact a_ri (md qX3_alive_ok) hz hR rfl (Or.inl rfl) h
    · refine a_run (md qX3_alive_ok) hz 6 [0] (pc' := 14) (lv' := [some (.inr 36), some (.inl x1), some (.inl v1), some (.inl v2)]) (st' := []) (M' := M) (P := (0 ≤ x1 ∧ x1 < 16) ∧ (¬ ((M 39 x1.toNat) ≤ v2)) ∧ True) rfl ⟨h10, hc, trivial⟩ ?_
      refine jn_elim h (fun (K5 : Int → Int → Option (Int)) => ∀ (v3 : Int), ∀ (v4 : Int), OK (K5 v3 v4) (fun r2 => Q (some r2) M) → Aw z 35 [some (.inr 36), some (.inl x1), some (.inl v3), some (.inl v4)] [] M) (fun v3 v4 h => ?_) (fun K5 hK5 h => ?_)
      · obtain ⟨h6, h⟩ := gd_elim h
        refine a_run (md qX3_alive_ok) hz 2 [] (pc' := 4) (lv' := [some (.inr 36), some (.inl x1), some (.inl v3), some (.inl (v4 + (1 : Int)))]) (st' := []) (M' := M) (P := (inR (v4 + (1 : Int))) ∧ True) rfl ⟨h6, trivial⟩ ?_
        refine a_mask [true, true, true, true] ?_
        exact ih v3 (v4 + (1 : Int)) h
      · refine a_run (md qX3_alive_ok) hz 4 [] (pc' := 20) (lv' := [some (.inr 36), some (.inl x1), some (.inl v1), some (.inl v2)]) (st' := [.inl v2, .inl x1, .inr 44]) (M' := M) (P := True) rfl trivial ?_
        obtain ⟨r7, hr, h⟩ := cal_elim h
        refine a_fS (as := [.inl x1, .inl v2]) (st := [.inr 44]) (mX3_slot z.1 hr) (md qX3_alive_ok) qX3_slot_ok hz lkX3_98 rfl 2 1 (by decide +kernel) rfl rfl ?_
        show Aw z 23 [some (.inr 36), some (.inl x1), some (.inl v1), some (.inl v2)] [.inl r7, .inr 44] M
        obtain ⟨h9, h⟩ := gd_elim h
        refine ite_elim h (fun hc h => ?_) (fun hc h => ?_)
        · refine a_run (md qX3_alive_ok) hz 3 [1] (pc' := 35) (lv' := [some (.inr 36), some (.inl x1), some (.inl v1), some (.inl v2)]) (st' := []) (M' := M) (P := (0 ≤ r7 ∧ r7 < 320) ∧ ((M 44 r7.toNat) = (-6 : Int)) ∧ True) rfl ⟨h9, hc, trivial⟩ ?_
          refine a_mask [true, true, true, true] ?_
          exact hK5 v1 v2 h
        · refine a_run (md qX3_alive_ok) hz 3 [0] (pc' := 29) (lv' := [some (.inr 36), some (.inl x1), some (.inl v1), some (.inl v2)]) (st' := []) (M' := M) (P := (0 ≤ r7 ∧ r7 < 320) ∧ (¬ ((M 44 r7.toNat) = (-6 : Int))) ∧ True) rfl ⟨h9, hc, trivial⟩ ?_
          refine a_run (md qX3_alive_ok) hz 6 [] (pc' := 35) (lv' := [some (.inr 36), some (.inl x1), some (.inl (iorI v1 (ishlI (1 : Int) v2))), some (.inl v2)]) (st' := []) (M' := M) (P := True) rfl trivial ?_
          refine bnd_elim (G := fun (t8 : Int) => Aw z 35 [some (.inr 36), some (.inl x1), some (.inl t8), some (.inl v2)] [] M) h (fun t8 h => ?_)
          refine a_mask [true, true, true, true] ?_
          exact hK5 t8 v2 h
set_option maxRecDepth 100000 in
theorem mX3_alive_25 (g : Gx) {M : Mm} {x1 : Int} {r : Int} (h : fX3_alive 25 M x1 = some r) : Ct g qX3_alive [.inr 36, .inl x1] M (fun r' M' => r' = some r ∧ M' = M) := by
  refine c_ofP h qX3_alive_ok (Nat.le_of_ble_eq_true rfl) (fun z hz Q hR h => ?_)
  unfold fX3_alive at h
  show Aw z 0 [some (.inr 36), some (.inl x1), none, none] [] M
  refine a_run (md qX3_alive_ok) hz 4 [] (pc' := 4) (lv' := [some (.inr 36), some (.inl x1), some (.inl (0 : Int)), some (.inl (0 : Int))]) (st' := []) (M' := M) (P := True) rfl trivial ?_
  refine a_mask [true, true, true, true] ?_
  refine mX3_alive_25_L4 hz hR  1000 (0 : Int) (0 : Int) h
set_option maxRecDepth 100000 in
theorem mX3_alive_48_L4 {z : Zx} (hz : Cx qX3_alive z) {Q : Option Int → Mm → Prop} (hR : Rt Q z) {x1 : Int} {M : Mm} : ∀ (n : Nat) (v1 : Int) (v2 : Int), OK (fX3_alive_L4 48 x1 M n v1 v2) (fun r2 => Q (some r2) M) → Aw z 4 [some (.inr 59), some (.inl x1), some (.inl v1), some (.inl v2)] [] M := by
  intro n
  induction n with
  | zero =>
    intro v1 v2 h
    exact (show False from h).elim
  | succ n ih =>
    intro v1 v2 h
    unfold fX3_alive_L4 at h
    obtain ⟨h10, h⟩ := gd_elim h
    refine ite_elim h (fun hc h => ?_) (fun hc h => ?_)
    · refine a_run (md qX3_alive_ok) hz 6 [1] (pc' := 41) (lv' := [some (.inr 59), some (.inl x1), some (.inl v1), some (.inl v2)]) (st' := []) (M' := M) (P := (0 ≤ x1 ∧ x1 < 16) ∧ ((M 62 x1.toNat) ≤ v2) ∧ True) rfl ⟨h10, hc, trivial⟩ ?_
      refine a_run (md qX3_alive_ok) hz 1 [] (pc' := 42) (lv' := [some (.inr 59), some (.inl x1), some (.inl v1), some (.inl v2)]) (st' := [.inl v1]) (M' := M) (P := True) rfl trivial ?_
      exact a_ri (md qX3_alive_ok) hz hR rfl (Or.inl rfl) h
    · refine a_run (md qX3_alive_ok) hz 6 [0] (pc' := 14) (lv' := [some (.inr 59), some (.inl x1), some (.inl v1), some (.inl v2)]) (st' := []) (M' := M) (P := (0 ≤ x1 ∧ x1 < 16) ∧ (¬ ((M 62 x1.toNat) ≤ v2)) ∧ True) rfl ⟨h10, hc, trivial⟩ ?_
      refine jn_elim h (fun (K5 : Int → Int → Option (Int)) => ∀ (v3 : Int), ∀ (v4 : Int), OK (K5 v3 v4) (fun r2 => Q (some r2) M) → Aw z 35 [some (.inr 59), some (.inl x1), some (.inl v3), some (.inl v4)] [] M) (fun v3 v4 h => ?_) (fun K5 hK5 h => ?_)
      · obtain ⟨h6, h⟩ := gd_elim h
        refine a_run (md qX3_alive_ok) hz 2 [] (pc' := 4) (lv' := [some (.inr 59), some (.inl x1), some (.inl v3), some (.inl (v4 + (1 : Int)))]) (st' := []) (M' := M) (P := (inR (v4 + (1 : Int))) ∧ True) rfl ⟨h6, trivial⟩ ?_
        refine a_mask [true, true, true, true] ?_
        exact ih v3 (v4 + (1 : Int)) h
      · refine a_run (md qX3_alive_ok) hz 4 [] (pc' := 20) (lv' := [some (.inr 59), some (.inl x1), some (.inl v1), some (.inl v2)]) (st' := [.inl v2, .inl x1, .inr 67]) (M' := M) (P := True) rfl trivial ?_
        obtain ⟨r7, hr, h⟩ := cal_elim h
        refine a_fS (as := [.inl x1, .inl v2]) (st := [.inr 67]) (mX3_slot z.1 hr) (md qX3_alive_ok) qX3_slot_ok hz lkX3_98 rfl 2 1 (by decide +kernel) rfl rfl ?_
        show Aw z 23 [some (.inr 59), some (.inl x1), some (.inl v1), some (.inl v2)] [.inl r7, .inr 67] M
        obtain ⟨h9, h⟩ := gd_elim h
        refine ite_elim h (fun hc h => ?_) (fun hc h => ?_)
        · refine a_run (md qX3_alive_ok) hz 3 [1] (pc' := 35) (lv' := [some (.inr 59), some (.inl x1), some (.inl v1), some (.inl v2)]) (st' := []) (M' := M) (P := (0 ≤ r7 ∧ r7 < 320) ∧ ((M 67 r7.toNat) = (-6 : Int)) ∧ True) rfl ⟨h9, hc, trivial⟩ ?_
          refine a_mask [true, true, true, true] ?_
          exact hK5 v1 v2 h
        · refine a_run (md qX3_alive_ok) hz 3 [0] (pc' := 29) (lv' := [some (.inr 59), some (.inl x1), some (.inl v1), some (.inl v2)]) (st' := []) (M' := M) (P := (0 ≤ r7 ∧ r7 < 320) ∧ (¬ ((M 67 r7.toNat) = (-6 : Int))) ∧ True) rfl ⟨h9, hc, trivial⟩ ?_
          refine a_run (md qX3_alive_ok) hz 6 [] (pc' := 35) (lv' := [some (.inr 59), some (.inl x1), some (.inl (iorI v1 (ishlI (1 : Int) v2))), some (.inl v2)]) (st' := []) (M' := M) (P := True) rfl trivial ?_
          refine bnd_elim (G := fun (t8 : Int) => Aw z 35 [some (.inr 59), some (.inl x1), some (.inl t8), some (.inl v2)] [] M) h (fun t8 h => ?_)
          refine a_mask [true, true, true, true] ?_
          exact hK5 t8 v2 h
set_option maxRecDepth 100000 in
theorem mX3_alive_48 (g : Gx) {M : Mm} {x1 : Int} {r : Int} (h : fX3_alive 48 M x1 = some r) : Ct g qX3_alive [.inr 59, .inl x1] M (fun r' M' => r' = some r ∧ M' = M) := by
  refine c_ofP h qX3_alive_ok (Nat.le_of_ble_eq_true rfl) (fun z hz Q hR h => ?_)
  unfold fX3_alive at h
  show Aw z 0 [some (.inr 59), some (.inl x1), none, none] [] M
  refine a_run (md qX3_alive_ok) hz 4 [] (pc' := 4) (lv' := [some (.inr 59), some (.inl x1), some (.inl (0 : Int)), some (.inl (0 : Int))]) (st' := []) (M' := M) (P := True) rfl trivial ?_
  refine a_mask [true, true, true, true] ?_
  refine mX3_alive_48_L4 hz hR  1000 (0 : Int) (0 : Int) h
def fX3_settle_L15 (b : Nat) : Nat → Int → Int → Int → Int → Mm → Option (Mm)
  | 0, _, _, _, _, _ => none
  | n + 1, v2, v3, v4, v5, M6 => if v5 < 0 then some M6 else jn (fun (v7 : Int) (v8 : Int) (v9 : Int) (v10 : Int) (M11 : Mm) => gd ((inR (v10 + (-1 : Int)))) (fX3_settle_L15 b n v7 v8 v9 (v10 + (-1 : Int)) M11)) (fun (K12 : Int → Int → Int → Int → Mm → Option (Mm)) => cal (fX3_isGap b M6 v5) (fun (r14 : Int) => if r14 = 0 then jn (fun (v15 : Int) (v16 : Int) (v17 : Int) (M18 : Mm) => jn (fun (v20 : Int) (v21 : Int) (v22 : Int) (w23 : Int) (w24 : Int) (M25 : Mm) => gd (((0 ≤ w24 ∧ w24 < 16) ∧ (w23 = 0 ∨ w23 = 1))) (bnd (up M25 (b + 22) w24.toNat w23) (fun (M27 : Mm) => K12 v22 v20 v21 v22 M27))) (fun (K26 : Int → Int → Int → Int → Int → Mm → Option (Mm)) => jn (fun (v29 : Int) (v30 : Int) (v31 : Int) (w32 : Int) (M33 : Mm) => K26 v29 v30 v31 (1 : Int) w32 M33) (fun (K34 : Int → Int → Int → Int → Mm → Option (Mm)) => if v16 = 0 then K34 v15 v16 v17 v17 M18 else cal (fJ6_bitCount M18 v15) (fun (r35 : Int) => if r35 = (1 : Int) then K34 v15 v16 v17 v17 M18 else K26 v15 v16 v17 (0 : Int) v17 M18)))) (fun (K19 : Int → Int → Int → Mm → Option (Mm)) => jn (fun (v36 : Int) (v37 : Int) (M38 : Mm) => jn (fun (v40 : Int) (v41 : Int) (w42 : Int) (M43 : Mm) => K19 v40 w42 v41 M43) (fun (K44 : Int → Int → Int → Mm → Option (Mm)) => cal (fX3_cheapest b M38 v37) (fun (r45 : Int) => gd ((0 ≤ v37 ∧ v37 < 16)) (bnd (up M38 (b + 21) v37.toNat r45) (fun (M46 : Mm) => cal (fX3_alive b M46 v37) (fun (r47 : Int) => if v36 = (-6 : Int) then K44 r47 v37 (1 : Int) M46 else K44 r47 v37 (0 : Int) M46)))))) (fun (K39 : Int → Int → Mm → Option (Mm)) => if v2 = (-6 : Int) then K39 v2 v5 M6 else gd ((0 ≤ v2 ∧ v2 < 16)) (if (M6 (b + 16) v2.toNat) = v5 then gd ((0 ≤ v2 ∧ v2 < 16)) (cal (fX3_backOf b M6 v2 (M6 (b + 21) v2.toNat)) (fun (r49 : Int) => gd ((0 ≤ v5 ∧ v5 < 16)) (bnd (up M6 (b + 21) v5.toNat r49) (fun (M50 : Mm) => cal (fX3_backsOf b M50 v2 v3) (fun (r51 : Int) => K19 r51 v4 v5 M50))))) else K39 v2 v5 M6))) else gd ((0 ≤ v5 ∧ v5 < 16)) (bnd (up M6 (b + 21) v5.toNat (-6 : Int)) (fun (M55 : Mm) => gd (((0 ≤ v5 ∧ v5 < 16) ∧ ((0 : Int) = 0 ∨ (0 : Int) = 1))) (bnd (up M55 (b + 22) v5.toNat (0 : Int)) (fun (M56 : Mm) => K12 v2 v3 v4 v5 M56))))))
def fX3_settle (b : Nat) (M : Mm) : Option (Mm) := gd ((inR ((M (b + 11) 2) - (1 : Int)))) (bnd ((M (b + 11) 2) - (1 : Int)) (fun (t1 : Int) => fX3_settle_L15 b 1000 (-6 : Int) (0 : Int) (1 : Int) t1 M))
set_option maxRecDepth 100000 in
theorem mX3_settle_2_L15 {z : Zx} (hz : Cx qX3_settle z) {Q : Option Int → Mm → Prop} (hR : Rt Q z) : ∀ (n : Nat) (v2 : Int) (v3 : Int) (v4 : Int) (v5 : Int) (M6 : Mm), OK (fX3_settle_L15 2 n v2 v3 v4 v5 M6) (fun r2 => Q none r2) → Aw z 15 [some (.inr 13), some (.inl v2), some (.inl v3), some (.inl v4), some (.inl v5)] [] M6 := by
  intro n
  induction n with
  | zero =>
    intro v2 v3 v4 v5 M6 h
    exact (show False from h).elim
  | succ n ih =>
    intro v2 v3 v4 v5 M6 h
    unfold fX3_settle_L15 at h
    refine ite_elim h (fun hc h => ?_) (fun hc h => ?_)
    · refine a_run (md qX3_settle_ok) hz 2 [1] (pc' := 159) (lv' := [some (.inr 13), some (.inl v2), some (.inl v3), some (.inl v4), some (.inl v5)]) (st' := []) (M' := M6) (P := (v5 < 0) ∧ True) rfl ⟨hc, trivial⟩ ?_
      exact a_rv (md qX3_settle_ok) hz hR rfl rfl h
    · refine a_run (md qX3_settle_ok) hz 2 [0] (pc' := 20) (lv' := [some (.inr 13), some (.inl v2), some (.inl v3), some (.inl v4), some (.inl v5)]) (st' := []) (M' := M6) (P := (¬ (v5 < 0)) ∧ True) rfl ⟨hc, trivial⟩ ?_
      refine jn_elim h (fun (K12 : Int → Int → Int → Int → Mm → Option (Mm)) => ∀ (v7 : Int), ∀ (v8 : Int), ∀ (v9 : Int), ∀ (v10 : Int), ∀ (M11 : Mm), OK (K12 v7 v8 v9 v10 M11) (fun r2 => Q none r2) → Aw z 153 [some (.inr 13), some (.inl v7), some (.inl v8), some (.inl v9), some (.inl v10)] [] M11) (fun v7 v8 v9 v10 M11 h => ?_) (fun K12 hK12 h => ?_)
      · obtain ⟨h13, h⟩ := gd_elim h
        refine a_run (md qX3_settle_ok) hz 2 [] (pc' := 15) (lv' := [some (.inr 13), some (.inl v7), some (.inl v8), some (.inl v9), some (.inl (v10 + (-1 : Int)))]) (st' := []) (M' := M11) (P := (inR (v10 + (-1 : Int))) ∧ True) rfl ⟨h13, trivial⟩ ?_
        refine a_mask [true, true, true, true, true] ?_
        exact ih v7 v8 v9 (v10 + (-1 : Int)) M11 h
      · refine a_run (md qX3_settle_ok) hz 2 [] (pc' := 23) (lv' := [some (.inr 13), some (.inl v2), some (.inl v3), some (.inl v4), some (.inl v5)]) (st' := [.inl v5, .inr 13]) (M' := M6) (P := True) rfl trivial ?_
        obtain ⟨r14, hr, h⟩ := cal_elim h
        refine a_fV (as := [.inl v5]) (a := 13) (st := []) (mX3_isGap_2 z.1 hr) (md qX3_settle_ok) qX3_isGap_ok hz lkX3_81 rfl 1 0 (by decide +kernel) rfl rfl rfl rfl ?_
        show Aw z 26 [some (.inr 13), some (.inl v2), some (.inl v3), some (.inl v4), some (.inl v5)] [.inl r14] M6
        refine ite_elim h (fun hc h => ?_) (fun hc h => ?_)
        · refine a_run (md qX3_settle_ok) hz 1 [1] (pc' := 49) (lv' := [some (.inr 13), some (.inl v2), some (.inl v3), some (.inl v4), some (.inl v5)]) (st' := []) (M' := M6) (P := (r14 = 0) ∧ True) rfl ⟨hc, trivial⟩ ?_
          refine jn_elim h (fun (K19 : Int → Int → Int → Mm → Option (Mm)) => ∀ (v15 : Int), ∀ (v16 : Int), ∀ (v17 : Int), ∀ (M18 : Mm), OK (K19 v15 v16 v17 M18) (fun r2 => Q none r2) → Aw z 126 [some (.inr 13), none, some (.inl v15), some (.inl v16), some (.inl v17)] [] M18) (fun v15 v16 v17 M18 h => ?_) (fun K19 hK19 h => ?_)
          · refine jn_elim h (fun (K26 : Int → Int → Int → Int → Int → Mm → Option (Mm)) => ∀ (v20 : Int), ∀ (v21 : Int), ∀ (v22 : Int), ∀ (w23 : Int), ∀ (w24 : Int), ∀ (M25 : Mm), OK (K26 v20 v21 v22 w23 w24 M25) (fun r2 => Q none r2) → Aw z 149 [some (.inr 13), none, some (.inl v20), some (.inl v21), some (.inl v22)] [.inl w23, .inl w24, .inr 24] M25) (fun v20 v21 v22 w23 w24 M25 h => ?_) (fun K26 hK26 h => ?_)
            · obtain ⟨h28, h⟩ := gd_elim h
              refine a_run (md qX3_settle_ok) hz 1 [] (pc' := 150) (lv' := [some (.inr 13), none, some (.inl v20), some (.inl v21), some (.inl v22)]) (st' := []) (M' := (up M25 24 w24.toNat w23)) (P := ((0 ≤ w24 ∧ w24 < 16) ∧ (w23 = 0 ∨ w23 = 1)) ∧ True) rfl ⟨h28, trivial⟩ ?_
              refine bnd_elim (G := fun (M27 : Mm) => Aw z 150 [some (.inr 13), none, some (.inl v20), some (.inl v21), some (.inl v22)] [] M27) h (fun M27 h => ?_)
              refine a_run (md qX3_settle_ok) hz 2 [] (pc' := 153) (lv' := [some (.inr 13), some (.inl v22), some (.inl v20), some (.inl v21), some (.inl v22)]) (st' := []) (M' := M27) (P := True) rfl trivial ?_
              refine a_mask [true, true, true, true, true] ?_
              exact hK12 v22 v20 v21 v22 M27 h
            · refine jn_elim h (fun (K34 : Int → Int → Int → Int → Mm → Option (Mm)) => ∀ (v29 : Int), ∀ (v30 : Int), ∀ (v31 : Int), ∀ (w32 : Int), ∀ (M33 : Mm), OK (K34 v29 v30 v31 w32 M33) (fun r2 => Q none r2) → Aw z 144 [some (.inr 13), none, some (.inl v29), some (.inl v30), some (.inl v31)] [.inl w32, .inr 24] M33) (fun v29 v30 v31 w32 M33 h => ?_) (fun K34 hK34 h => ?_)
              · refine a_run (md qX3_settle_ok) hz 2 [] (pc' := 149) (lv' := [some (.inr 13), none, some (.inl v29), some (.inl v30), some (.inl v31)]) (st' := [.inl (1 : Int), .inl w32, .inr 24]) (M' := M33) (P := True) rfl trivial ?_
                refine a_mask [true, false, true, true, true] ?_
                exact hK26 v29 v30 v31 (1 : Int) w32 M33 h
              · refine ite_elim h (fun hc h => ?_) (fun hc h => ?_)
                · refine a_run (md qX3_settle_ok) hz 5 [1] (pc' := 144) (lv' := [some (.inr 13), none, some (.inl v15), some (.inl v16), some (.inl v17)]) (st' := [.inl v17, .inr 24]) (M' := M18) (P := (v16 = 0) ∧ True) rfl ⟨hc, trivial⟩ ?_
                  refine a_mask [true, false, true, true, true] ?_
                  exact hK34 v15 v16 v17 v17 M18 h
                · refine a_run (md qX3_settle_ok) hz 5 [0] (pc' := 136) (lv' := [some (.inr 13), none, some (.inl v15), some (.inl v16), some (.inl v17)]) (st' := [.inl v17, .inr 24]) (M' := M18) (P := (¬ (v16 = 0)) ∧ True) rfl ⟨hc, trivial⟩ ?_
                  refine a_run (md qX3_settle_ok) hz 1 [] (pc' := 137) (lv' := [some (.inr 13), none, some (.inl v15), some (.inl v16), some (.inl v17)]) (st' := [.inl v15, .inl v17, .inr 24]) (M' := M18) (P := True) rfl trivial ?_
                  obtain ⟨r35, hr, h⟩ := cal_elim h
                  refine a_fS (as := [.inl v15]) (st := [.inl v17, .inr 24]) (mJ6_bitCount z.1 hr) (md qX3_settle_ok) qJ6_bitCount_ok hz lkX3_133 rfl 1 2 (by decide +kernel) rfl rfl ?_
                  show Aw z 140 [some (.inr 13), none, some (.inl v15), some (.inl v16), some (.inl v17)] [.inl r35, .inl v17, .inr 24] M18
                  refine ite_elim h (fun hc h => ?_) (fun hc h => ?_)
                  · refine a_run (md qX3_settle_ok) hz 2 [0] (pc' := 144) (lv' := [some (.inr 13), none, some (.inl v15), some (.inl v16), some (.inl v17)]) (st' := [.inl v17, .inr 24]) (M' := M18) (P := (¬ ¬ r35 = (1 : Int)) ∧ True) rfl ⟨fun h9 => h9 hc, trivial⟩ ?_
                    refine a_mask [true, false, true, true, true] ?_
                    exact hK34 v15 v16 v17 v17 M18 h
                  · refine a_run (md qX3_settle_ok) hz 2 [1] (pc' := 148) (lv' := [some (.inr 13), none, some (.inl v15), some (.inl v16), some (.inl v17)]) (st' := [.inl v17, .inr 24]) (M' := M18) (P := (¬ r35 = (1 : Int)) ∧ True) rfl ⟨hc, trivial⟩ ?_
                    refine a_run (md qX3_settle_ok) hz 1 [] (pc' := 149) (lv' := [some (.inr 13), none, some (.inl v15), some (.inl v16), some (.inl v17)]) (st' := [.inl (0 : Int), .inl v17, .inr 24]) (M' := M18) (P := True) rfl trivial ?_
                    refine a_mask [true, false, true, true, true] ?_
                    exact hK26 v15 v16 v17 (0 : Int) v17 M18 h
          · refine jn_elim h (fun (K39 : Int → Int → Mm → Option (Mm)) => ∀ (v36 : Int), ∀ (v37 : Int), ∀ (M38 : Mm), OK (K39 v36 v37 M38) (fun r2 => Q none r2) → Aw z 94 [some (.inr 13), some (.inl v36), none, none, some (.inl v37)] [] M38) (fun v36 v37 M38 h => ?_) (fun K39 hK39 h => ?_)
            · refine jn_elim h (fun (K44 : Int → Int → Int → Mm → Option (Mm)) => ∀ (v40 : Int), ∀ (v41 : Int), ∀ (w42 : Int), ∀ (M43 : Mm), OK (K44 v40 v41 w42 M43) (fun r2 => Q none r2) → Aw z 125 [some (.inr 13), none, some (.inl v40), none, some (.inl v41)] [.inl w42] M43) (fun v40 v41 w42 M43 h => ?_) (fun K44 hK44 h => ?_)
              · refine a_run (md qX3_settle_ok) hz 1 [] (pc' := 126) (lv' := [some (.inr 13), none, some (.inl v40), some (.inl w42), some (.inl v41)]) (st' := []) (M' := M43) (P := True) rfl trivial ?_
                refine a_mask [true, false, true, true, true] ?_
                exact hK19 v40 w42 v41 M43 h
              · refine a_run (md qX3_settle_ok) hz 5 [] (pc' := 103) (lv' := [some (.inr 13), some (.inl v36), none, none, some (.inl v37)]) (st' := [.inl v37, .inr 13, .inl v37, .inr 23]) (M' := M38) (P := True) rfl trivial ?_
                obtain ⟨r45, hr, h⟩ := cal_elim h
                refine a_fV (as := [.inl v37]) (a := 13) (st := [.inl v37, .inr 23]) (mX3_cheapest_2 z.1 hr) (md qX3_settle_ok) qX3_cheapest_ok hz lkX3_127 rfl 1 2 (by decide +kernel) rfl rfl rfl rfl ?_
                show Aw z 106 [some (.inr 13), some (.inl v36), none, none, some (.inl v37)] [.inl r45, .inl v37, .inr 23] M38
                obtain ⟨h48, h⟩ := gd_elim h
                refine a_run (md qX3_settle_ok) hz 1 [] (pc' := 107) (lv' := [some (.inr 13), some (.inl v36), none, none, some (.inl v37)]) (st' := []) (M' := (up M38 23 v37.toNat r45)) (P := (0 ≤ v37 ∧ v37 < 16) ∧ True) rfl ⟨h48, trivial⟩ ?_
                refine bnd_elim (G := fun (M46 : Mm) => Aw z 107 [some (.inr 13), some (.inl v36), none, none, some (.inl v37)] [] M46) h (fun M46 h => ?_)
                refine a_run (md qX3_settle_ok) hz 2 [] (pc' := 110) (lv' := [some (.inr 13), some (.inl v36), none, none, some (.inl v37)]) (st' := [.inl v37, .inr 13]) (M' := M46) (P := True) rfl trivial ?_
                obtain ⟨r47, hr, h⟩ := cal_elim h
                refine a_fV (as := [.inl v37]) (a := 13) (st := []) (mX3_alive_2 z.1 hr) (md qX3_settle_ok) qX3_alive_ok hz lkX3_130 rfl 1 0 (by decide +kernel) rfl rfl rfl rfl ?_
                show Aw z 113 [some (.inr 13), some (.inl v36), none, none, some (.inl v37)] [.inl r47] M46
                refine ite_elim h (fun hc h => ?_) (fun hc h => ?_)
                · refine a_run (md qX3_settle_ok) hz 4 [0] (pc' := 120) (lv' := [some (.inr 13), some (.inl v36), some (.inl r47), none, some (.inl v37)]) (st' := []) (M' := M46) (P := (¬ ¬ v36 = (-6 : Int)) ∧ True) rfl ⟨fun h9 => h9 hc, trivial⟩ ?_
                  refine a_run (md qX3_settle_ok) hz 2 [] (pc' := 125) (lv' := [some (.inr 13), some (.inl v36), some (.inl r47), none, some (.inl v37)]) (st' := [.inl (1 : Int)]) (M' := M46) (P := True) rfl trivial ?_
                  refine a_mask [true, false, true, false, true] ?_
                  exact hK44 r47 v37 (1 : Int) M46 h
                · refine a_run (md qX3_settle_ok) hz 4 [1] (pc' := 124) (lv' := [some (.inr 13), some (.inl v36), some (.inl r47), none, some (.inl v37)]) (st' := []) (M' := M46) (P := (¬ v36 = (-6 : Int)) ∧ True) rfl ⟨hc, trivial⟩ ?_
                  refine a_run (md qX3_settle_ok) hz 1 [] (pc' := 125) (lv' := [some (.inr 13), some (.inl v36), some (.inl r47), none, some (.inl v37)]) (st' := [.inl (0 : Int)]) (M' := M46) (P := True) rfl trivial ?_
                  refine a_mask [true, false, true, false, true] ?_
                  exact hK44 r47 v37 (0 : Int) M46 h
            · refine ite_elim h (fun hc h => ?_) (fun hc h => ?_)
              · refine a_run (md qX3_settle_ok) hz 3 [1] (pc' := 94) (lv' := [some (.inr 13), some (.inl v2), some (.inl v3), some (.inl v4), some (.inl v5)]) (st' := []) (M' := M6) (P := (v2 = (-6 : Int)) ∧ True) rfl ⟨hc, trivial⟩ ?_
                refine a_mask [true, true, false, false, true] ?_
                exact hK39 v2 v5 M6 h
              · refine a_run (md qX3_settle_ok) hz 3 [0] (pc' := 55) (lv' := [some (.inr 13), some (.inl v2), some (.inl v3), some (.inl v4), some (.inl v5)]) (st' := []) (M' := M6) (P := (¬ (v2 = (-6 : Int))) ∧ True) rfl ⟨hc, trivial⟩ ?_
                obtain ⟨h54, h⟩ := gd_elim h
                refine ite_elim h (fun hc h => ?_) (fun hc h => ?_)
                · refine a_run (md qX3_settle_ok) hz 6 [0] (pc' := 66) (lv' := [some (.inr 13), some (.inl v2), some (.inl v3), some (.inl v4), some (.inl v5)]) (st' := []) (M' := M6) (P := (0 ≤ v2 ∧ v2 < 16) ∧ (¬ ¬ (M6 18 v2.toNat) = v5) ∧ True) rfl ⟨h54, fun h9 => h9 hc, trivial⟩ ?_
                  obtain ⟨h53, h⟩ := gd_elim h
                  refine a_run (md qX3_settle_ok) hz 9 [] (pc' := 80) (lv' := [some (.inr 13), some (.inl v2), some (.inl v3), some (.inl v4), some (.inl v5)]) (st' := [.inl (M6 23 v2.toNat), .inl v2, .inr 13, .inl v5, .inr 23]) (M' := M6) (P := (0 ≤ v2 ∧ v2 < 16) ∧ True) rfl ⟨h53, trivial⟩ ?_
                  obtain ⟨r49, hr, h⟩ := cal_elim h
                  refine a_fV (as := [.inl v2, .inl (M6 23 v2.toNat)]) (a := 13) (st := [.inl v5, .inr 23]) (mX3_backOf_2 z.1 hr) (md qX3_settle_ok) qX3_backOf_ok hz lkX3_121 rfl 2 2 (by decide +kernel) rfl rfl rfl rfl ?_
                  show Aw z 83 [some (.inr 13), some (.inl v2), some (.inl v3), some (.inl v4), some (.inl v5)] [.inl r49, .inl v5, .inr 23] M6
                  obtain ⟨h52, h⟩ := gd_elim h
                  refine a_run (md qX3_settle_ok) hz 1 [] (pc' := 84) (lv' := [some (.inr 13), some (.inl v2), some (.inl v3), some (.inl v4), some (.inl v5)]) (st' := []) (M' := (up M6 23 v5.toNat r49)) (P := (0 ≤ v5 ∧ v5 < 16) ∧ True) rfl ⟨h52, trivial⟩ ?_
                  refine bnd_elim (G := fun (M50 : Mm) => Aw z 84 [some (.inr 13), some (.inl v2), some (.inl v3), some (.inl v4), some (.inl v5)] [] M50) h (fun M50 h => ?_)
                  refine a_run (md qX3_settle_ok) hz 3 [] (pc' := 87) (lv' := [some (.inr 13), some (.inl v2), some (.inl v3), some (.inl v4), some (.inl v5)]) (st' := [.inl v3, .inl v2, .inr 13]) (M' := M50) (P := True) rfl trivial ?_
                  obtain ⟨r51, hr, h⟩ := cal_elim h
                  refine a_fV (as := [.inl v2, .inl v3]) (a := 13) (st := []) (mX3_backsOf_2 z.1 hr) (md qX3_settle_ok) qX3_backsOf_ok hz lkX3_124 rfl 2 0 (by decide +kernel) rfl rfl rfl rfl ?_
                  show Aw z 90 [some (.inr 13), some (.inl v2), some (.inl v3), some (.inl v4), some (.inl v5)] [.inl r51] M50
                  refine a_run (md qX3_settle_ok) hz 2 [] (pc' := 126) (lv' := [some (.inr 13), some (.inl v2), some (.inl r51), some (.inl v4), some (.inl v5)]) (st' := []) (M' := M50) (P := True) rfl trivial ?_
                  refine a_mask [true, false, true, true, true] ?_
                  exact hK19 r51 v4 v5 M50 h
                · refine a_run (md qX3_settle_ok) hz 6 [1] (pc' := 94) (lv' := [some (.inr 13), some (.inl v2), some (.inl v3), some (.inl v4), some (.inl v5)]) (st' := []) (M' := M6) (P := (0 ≤ v2 ∧ v2 < 16) ∧ (¬ (M6 18 v2.toNat) = v5) ∧ True) rfl ⟨h54, hc, trivial⟩ ?_
                  refine a_mask [true, true, false, false, true] ?_
                  exact hK39 v2 v5 M6 h
        · refine a_run (md qX3_settle_ok) hz 1 [0] (pc' := 29) (lv' := [some (.inr 13), some (.inl v2), some (.inl v3), some (.inl v4), some (.inl v5)]) (st' := []) (M' := M6) (P := (¬ (r14 = 0)) ∧ True) rfl ⟨hc, trivial⟩ ?_
          obtain ⟨h58, h⟩ := gd_elim h
          refine a_run (md qX3_settle_ok) hz 5 [] (pc' := 38) (lv' := [some (.inr 13), some (.inl v2), some (.inl v3), some (.inl v4), some (.inl v5)]) (st' := []) (M' := (up M6 23 v5.toNat (-6 : Int))) (P := (0 ≤ v5 ∧ v5 < 16) ∧ True) rfl ⟨h58, trivial⟩ ?_
          refine bnd_elim (G := fun (M55 : Mm) => Aw z 38 [some (.inr 13), some (.inl v2), some (.inl v3), some (.inl v4), some (.inl v5)] [] M55) h (fun M55 h => ?_)
          obtain ⟨h57, h⟩ := gd_elim h
          refine a_run (md qX3_settle_ok) hz 5 [] (pc' := 46) (lv' := [some (.inr 13), some (.inl v2), some (.inl v3), some (.inl v4), some (.inl v5)]) (st' := []) (M' := (up M55 24 v5.toNat (0 : Int))) (P := ((0 ≤ v5 ∧ v5 < 16) ∧ ((0 : Int) = 0 ∨ (0 : Int) = 1)) ∧ True) rfl ⟨h57, trivial⟩ ?_
          refine bnd_elim (G := fun (M56 : Mm) => Aw z 46 [some (.inr 13), some (.inl v2), some (.inl v3), some (.inl v4), some (.inl v5)] [] M56) h (fun M56 h => ?_)
          refine a_run (md qX3_settle_ok) hz 1 [] (pc' := 153) (lv' := [some (.inr 13), some (.inl v2), some (.inl v3), some (.inl v4), some (.inl v5)]) (st' := []) (M' := M56) (P := True) rfl trivial ?_
          refine a_mask [true, true, true, true, true] ?_
          exact hK12 v2 v3 v4 v5 M56 h
set_option maxRecDepth 100000 in
theorem mX3_settle_2 (g : Gx) {M : Mm} {M2 : Mm} (h : fX3_settle 2 M = some M2) : Ct g qX3_settle [.inr 13] M (fun r' M' => r' = none ∧ M' = M2) := by
  refine c_ofV h qX3_settle_ok (Nat.le_of_ble_eq_true rfl) (fun z hz Q hR h => ?_)
  unfold fX3_settle at h
  show Aw z 0 [some (.inr 13), none, none, none, none] [] M
  obtain ⟨h59, h⟩ := gd_elim h
  refine a_run (md qX3_settle_ok) hz 11 [] (pc' := 15) (lv' := [some (.inr 13), some (.inl (-6 : Int)), some (.inl (0 : Int)), some (.inl (1 : Int)), some (.inl ((M 13 2) - (1 : Int)))]) (st' := []) (M' := M) (P := (inR ((M 13 2) - (1 : Int))) ∧ True) rfl ⟨h59, trivial⟩ ?_
  refine bnd_elim (G := fun (t1 : Int) => Aw z 15 [some (.inr 13), some (.inl (-6 : Int)), some (.inl (0 : Int)), some (.inl (1 : Int)), some (.inl t1)] [] M) h (fun t1 h => ?_)
  refine a_mask [true, true, true, true, true] ?_
  refine mX3_settle_2_L15 hz hR  1000 (-6 : Int) (0 : Int) (1 : Int) t1 M h
set_option maxRecDepth 100000 in
theorem mX3_settle_25_L15 {z : Zx} (hz : Cx qX3_settle z) {Q : Option Int → Mm → Prop} (hR : Rt Q z) : ∀ (n : Nat) (v2 : Int) (v3 : Int) (v4 : Int) (v5 : Int) (M6 : Mm), OK (fX3_settle_L15 25 n v2 v3 v4 v5 M6) (fun r2 => Q none r2) → Aw z 15 [some (.inr 36), some (.inl v2), some (.inl v3), some (.inl v4), some (.inl v5)] [] M6 := by
  intro n
  induction n with
  | zero =>
    intro v2 v3 v4 v5 M6 h
    exact (show False from h).elim
  | succ n ih =>
    intro v2 v3 v4 v5 M6 h
    unfold fX3_settle_L15 at h
    refine ite_elim h (fun hc h => ?_) (fun hc h => ?_)
    · refine a_run (md qX3_settle_ok) hz 2 [1] (pc' := 159) (lv' := [some (.inr 36), some (.inl v2), some (.inl v3), some (.inl v4), some (.inl v5)]) (st' := []) (M' := M6) (P := (v5 < 0) ∧ True) rfl ⟨hc, trivial⟩ ?_
      exact a_rv (md qX3_settle_ok) hz hR rfl rfl h
    · refine a_run (md qX3_settle_ok) hz 2 [0] (pc' := 20) (lv' := [some (.inr 36), some (.inl v2), some (.inl v3), some (.inl v4), some (.inl v5)]) (st' := []) (M' := M6) (P := (¬ (v5 < 0)) ∧ True) rfl ⟨hc, trivial⟩ ?_
      refine jn_elim h (fun (K12 : Int → Int → Int → Int → Mm → Option (Mm)) => ∀ (v7 : Int), ∀ (v8 : Int), ∀ (v9 : Int), ∀ (v10 : Int), ∀ (M11 : Mm), OK (K12 v7 v8 v9 v10 M11) (fun r2 => Q none r2) → Aw z 153 [some (.inr 36), some (.inl v7), some (.inl v8), some (.inl v9), some (.inl v10)] [] M11) (fun v7 v8 v9 v10 M11 h => ?_) (fun K12 hK12 h => ?_)
      · obtain ⟨h13, h⟩ := gd_elim h
        refine a_run (md qX3_settle_ok) hz 2 [] (pc' := 15) (lv' := [some (.inr 36), some (.inl v7), some (.inl v8), some (.inl v9), some (.inl (v10 + (-1 : Int)))]) (st' := []) (M' := M11) (P := (inR (v10 + (-1 : Int))) ∧ True) rfl ⟨h13, trivial⟩ ?_
        refine a_mask [true, true, true, true, true] ?_
        exact ih v7 v8 v9 (v10 + (-1 : Int)) M11 h
      · refine a_run (md qX3_settle_ok) hz 2 [] (pc' := 23) (lv' := [some (.inr 36), some (.inl v2), some (.inl v3), some (.inl v4), some (.inl v5)]) (st' := [.inl v5, .inr 36]) (M' := M6) (P := True) rfl trivial ?_
        obtain ⟨r14, hr, h⟩ := cal_elim h
        refine a_fV (as := [.inl v5]) (a := 36) (st := []) (mX3_isGap_25 z.1 hr) (md qX3_settle_ok) qX3_isGap_ok hz lkX3_81 rfl 1 0 (by decide +kernel) rfl rfl rfl rfl ?_
        show Aw z 26 [some (.inr 36), some (.inl v2), some (.inl v3), some (.inl v4), some (.inl v5)] [.inl r14] M6
        refine ite_elim h (fun hc h => ?_) (fun hc h => ?_)
        · refine a_run (md qX3_settle_ok) hz 1 [1] (pc' := 49) (lv' := [some (.inr 36), some (.inl v2), some (.inl v3), some (.inl v4), some (.inl v5)]) (st' := []) (M' := M6) (P := (r14 = 0) ∧ True) rfl ⟨hc, trivial⟩ ?_
          refine jn_elim h (fun (K19 : Int → Int → Int → Mm → Option (Mm)) => ∀ (v15 : Int), ∀ (v16 : Int), ∀ (v17 : Int), ∀ (M18 : Mm), OK (K19 v15 v16 v17 M18) (fun r2 => Q none r2) → Aw z 126 [some (.inr 36), none, some (.inl v15), some (.inl v16), some (.inl v17)] [] M18) (fun v15 v16 v17 M18 h => ?_) (fun K19 hK19 h => ?_)
          · refine jn_elim h (fun (K26 : Int → Int → Int → Int → Int → Mm → Option (Mm)) => ∀ (v20 : Int), ∀ (v21 : Int), ∀ (v22 : Int), ∀ (w23 : Int), ∀ (w24 : Int), ∀ (M25 : Mm), OK (K26 v20 v21 v22 w23 w24 M25) (fun r2 => Q none r2) → Aw z 149 [some (.inr 36), none, some (.inl v20), some (.inl v21), some (.inl v22)] [.inl w23, .inl w24, .inr 47] M25) (fun v20 v21 v22 w23 w24 M25 h => ?_) (fun K26 hK26 h => ?_)
            · obtain ⟨h28, h⟩ := gd_elim h
              refine a_run (md qX3_settle_ok) hz 1 [] (pc' := 150) (lv' := [some (.inr 36), none, some (.inl v20), some (.inl v21), some (.inl v22)]) (st' := []) (M' := (up M25 47 w24.toNat w23)) (P := ((0 ≤ w24 ∧ w24 < 16) ∧ (w23 = 0 ∨ w23 = 1)) ∧ True) rfl ⟨h28, trivial⟩ ?_
              refine bnd_elim (G := fun (M27 : Mm) => Aw z 150 [some (.inr 36), none, some (.inl v20), some (.inl v21), some (.inl v22)] [] M27) h (fun M27 h => ?_)
              refine a_run (md qX3_settle_ok) hz 2 [] (pc' := 153) (lv' := [some (.inr 36), some (.inl v22), some (.inl v20), some (.inl v21), some (.inl v22)]) (st' := []) (M' := M27) (P := True) rfl trivial ?_
              refine a_mask [true, true, true, true, true] ?_
              exact hK12 v22 v20 v21 v22 M27 h
            · refine jn_elim h (fun (K34 : Int → Int → Int → Int → Mm → Option (Mm)) => ∀ (v29 : Int), ∀ (v30 : Int), ∀ (v31 : Int), ∀ (w32 : Int), ∀ (M33 : Mm), OK (K34 v29 v30 v31 w32 M33) (fun r2 => Q none r2) → Aw z 144 [some (.inr 36), none, some (.inl v29), some (.inl v30), some (.inl v31)] [.inl w32, .inr 47] M33) (fun v29 v30 v31 w32 M33 h => ?_) (fun K34 hK34 h => ?_)
              · refine a_run (md qX3_settle_ok) hz 2 [] (pc' := 149) (lv' := [some (.inr 36), none, some (.inl v29), some (.inl v30), some (.inl v31)]) (st' := [.inl (1 : Int), .inl w32, .inr 47]) (M' := M33) (P := True) rfl trivial ?_
                refine a_mask [true, false, true, true, true] ?_
                exact hK26 v29 v30 v31 (1 : Int) w32 M33 h
              · refine ite_elim h (fun hc h => ?_) (fun hc h => ?_)
                · refine a_run (md qX3_settle_ok) hz 5 [1] (pc' := 144) (lv' := [some (.inr 36), none, some (.inl v15), some (.inl v16), some (.inl v17)]) (st' := [.inl v17, .inr 47]) (M' := M18) (P := (v16 = 0) ∧ True) rfl ⟨hc, trivial⟩ ?_
                  refine a_mask [true, false, true, true, true] ?_
                  exact hK34 v15 v16 v17 v17 M18 h
                · refine a_run (md qX3_settle_ok) hz 5 [0] (pc' := 136) (lv' := [some (.inr 36), none, some (.inl v15), some (.inl v16), some (.inl v17)]) (st' := [.inl v17, .inr 47]) (M' := M18) (P := (¬ (v16 = 0)) ∧ True) rfl ⟨hc, trivial⟩ ?_
                  refine a_run (md qX3_settle_ok) hz 1 [] (pc' := 137) (lv' := [some (.inr 36), none, some (.inl v15), some (.inl v16), some (.inl v17)]) (st' := [.inl v15, .inl v17, .inr 47]) (M' := M18) (P := True) rfl trivial ?_
                  obtain ⟨r35, hr, h⟩ := cal_elim h
                  refine a_fS (as := [.inl v15]) (st := [.inl v17, .inr 47]) (mJ6_bitCount z.1 hr) (md qX3_settle_ok) qJ6_bitCount_ok hz lkX3_133 rfl 1 2 (by decide +kernel) rfl rfl ?_
                  show Aw z 140 [some (.inr 36), none, some (.inl v15), some (.inl v16), some (.inl v17)] [.inl r35, .inl v17, .inr 47] M18
                  refine ite_elim h (fun hc h => ?_) (fun hc h => ?_)
                  · refine a_run (md qX3_settle_ok) hz 2 [0] (pc' := 144) (lv' := [some (.inr 36), none, some (.inl v15), some (.inl v16), some (.inl v17)]) (st' := [.inl v17, .inr 47]) (M' := M18) (P := (¬ ¬ r35 = (1 : Int)) ∧ True) rfl ⟨fun h9 => h9 hc, trivial⟩ ?_
                    refine a_mask [true, false, true, true, true] ?_
                    exact hK34 v15 v16 v17 v17 M18 h
                  · refine a_run (md qX3_settle_ok) hz 2 [1] (pc' := 148) (lv' := [some (.inr 36), none, some (.inl v15), some (.inl v16), some (.inl v17)]) (st' := [.inl v17, .inr 47]) (M' := M18) (P := (¬ r35 = (1 : Int)) ∧ True) rfl ⟨hc, trivial⟩ ?_
                    refine a_run (md qX3_settle_ok) hz 1 [] (pc' := 149) (lv' := [some (.inr 36), none, some (.inl v15), some (.inl v16), some (.inl v17)]) (st' := [.inl (0 : Int), .inl v17, .inr 47]) (M' := M18) (P := True) rfl trivial ?_
                    refine a_mask [true, false, true, true, true] ?_
                    exact hK26 v15 v16 v17 (0 : Int) v17 M18 h
          · refine jn_elim h (fun (K39 : Int → Int → Mm → Option (Mm)) => ∀ (v36 : Int), ∀ (v37 : Int), ∀ (M38 : Mm), OK (K39 v36 v37 M38) (fun r2 => Q none r2) → Aw z 94 [some (.inr 36), some (.inl v36), none, none, some (.inl v37)] [] M38) (fun v36 v37 M38 h => ?_) (fun K39 hK39 h => ?_)
            · refine jn_elim h (fun (K44 : Int → Int → Int → Mm → Option (Mm)) => ∀ (v40 : Int), ∀ (v41 : Int), ∀ (w42 : Int), ∀ (M43 : Mm), OK (K44 v40 v41 w42 M43) (fun r2 => Q none r2) → Aw z 125 [some (.inr 36), none, some (.inl v40), none, some (.inl v41)] [.inl w42] M43) (fun v40 v41 w42 M43 h => ?_) (fun K44 hK44 h => ?_)
              · refine a_run (md qX3_settle_ok) hz 1 [] (pc' := 126) (lv' := [some (.inr 36), none, some (.inl v40), some (.inl w42), some (.inl v41)]) (st' := []) (M' := M43) (P := True) rfl trivial ?_
                refine a_mask [true, false, true, true, true] ?_
                exact hK19 v40 w42 v41 M43 h
              · refine a_run (md qX3_settle_ok) hz 5 [] (pc' := 103) (lv' := [some (.inr 36), some (.inl v36), none, none, some (.inl v37)]) (st' := [.inl v37, .inr 36, .inl v37, .inr 46]) (M' := M38) (P := True) rfl trivial ?_
                obtain ⟨r45, hr, h⟩ := cal_elim h
                refine a_fV (as := [.inl v37]) (a := 36) (st := [.inl v37, .inr 46]) (mX3_cheapest_25 z.1 hr) (md qX3_settle_ok) qX3_cheapest_ok hz lkX3_127 rfl 1 2 (by decide +kernel) rfl rfl rfl rfl ?_
                show Aw z 106 [some (.inr 36), some (.inl v36), none, none, some (.inl v37)] [.inl r45, .inl v37, .inr 46] M38
                obtain ⟨h48, h⟩ := gd_elim h
                refine a_run (md qX3_settle_ok) hz 1 [] (pc' := 107) (lv' := [some (.inr 36), some (.inl v36), none, none, some (.inl v37)]) (st' := []) (M' := (up M38 46 v37.toNat r45)) (P := (0 ≤ v37 ∧ v37 < 16) ∧ True) rfl ⟨h48, trivial⟩ ?_
                refine bnd_elim (G := fun (M46 : Mm) => Aw z 107 [some (.inr 36), some (.inl v36), none, none, some (.inl v37)] [] M46) h (fun M46 h => ?_)
                refine a_run (md qX3_settle_ok) hz 2 [] (pc' := 110) (lv' := [some (.inr 36), some (.inl v36), none, none, some (.inl v37)]) (st' := [.inl v37, .inr 36]) (M' := M46) (P := True) rfl trivial ?_
                obtain ⟨r47, hr, h⟩ := cal_elim h
                refine a_fV (as := [.inl v37]) (a := 36) (st := []) (mX3_alive_25 z.1 hr) (md qX3_settle_ok) qX3_alive_ok hz lkX3_130 rfl 1 0 (by decide +kernel) rfl rfl rfl rfl ?_
                show Aw z 113 [some (.inr 36), some (.inl v36), none, none, some (.inl v37)] [.inl r47] M46
                refine ite_elim h (fun hc h => ?_) (fun hc h => ?_)
                · refine a_run (md qX3_settle_ok) hz 4 [0] (pc' := 120) (lv' := [some (.inr 36), some (.inl v36), some (.inl r47), none, some (.inl v37)]) (st' := []) (M' := M46) (P := (¬ ¬ v36 = (-6 : Int)) ∧ True) rfl ⟨fun h9 => h9 hc, trivial⟩ ?_
                  refine a_run (md qX3_settle_ok) hz 2 [] (pc' := 125) (lv' := [some (.inr 36), some (.inl v36), some (.inl r47), none, some (.inl v37)]) (st' := [.inl (1 : Int)]) (M' := M46) (P := True) rfl trivial ?_
                  refine a_mask [true, false, true, false, true] ?_
                  exact hK44 r47 v37 (1 : Int) M46 h
                · refine a_run (md qX3_settle_ok) hz 4 [1] (pc' := 124) (lv' := [some (.inr 36), some (.inl v36), some (.inl r47), none, some (.inl v37)]) (st' := []) (M' := M46) (P := (¬ v36 = (-6 : Int)) ∧ True) rfl ⟨hc, trivial⟩ ?_
                  refine a_run (md qX3_settle_ok) hz 1 [] (pc' := 125) (lv' := [some (.inr 36), some (.inl v36), some (.inl r47), none, some (.inl v37)]) (st' := [.inl (0 : Int)]) (M' := M46) (P := True) rfl trivial ?_
                  refine a_mask [true, false, true, false, true] ?_
                  exact hK44 r47 v37 (0 : Int) M46 h
            · refine ite_elim h (fun hc h => ?_) (fun hc h => ?_)
              · refine a_run (md qX3_settle_ok) hz 3 [1] (pc' := 94) (lv' := [some (.inr 36), some (.inl v2), some (.inl v3), some (.inl v4), some (.inl v5)]) (st' := []) (M' := M6) (P := (v2 = (-6 : Int)) ∧ True) rfl ⟨hc, trivial⟩ ?_
                refine a_mask [true, true, false, false, true] ?_
                exact hK39 v2 v5 M6 h
              · refine a_run (md qX3_settle_ok) hz 3 [0] (pc' := 55) (lv' := [some (.inr 36), some (.inl v2), some (.inl v3), some (.inl v4), some (.inl v5)]) (st' := []) (M' := M6) (P := (¬ (v2 = (-6 : Int))) ∧ True) rfl ⟨hc, trivial⟩ ?_
                obtain ⟨h54, h⟩ := gd_elim h
                refine ite_elim h (fun hc h => ?_) (fun hc h => ?_)
                · refine a_run (md qX3_settle_ok) hz 6 [0] (pc' := 66) (lv' := [some (.inr 36), some (.inl v2), some (.inl v3), some (.inl v4), some (.inl v5)]) (st' := []) (M' := M6) (P := (0 ≤ v2 ∧ v2 < 16) ∧ (¬ ¬ (M6 41 v2.toNat) = v5) ∧ True) rfl ⟨h54, fun h9 => h9 hc, trivial⟩ ?_
                  obtain ⟨h53, h⟩ := gd_elim h
                  refine a_run (md qX3_settle_ok) hz 9 [] (pc' := 80) (lv' := [some (.inr 36), some (.inl v2), some (.inl v3), some (.inl v4), some (.inl v5)]) (st' := [.inl (M6 46 v2.toNat), .inl v2, .inr 36, .inl v5, .inr 46]) (M' := M6) (P := (0 ≤ v2 ∧ v2 < 16) ∧ True) rfl ⟨h53, trivial⟩ ?_
                  obtain ⟨r49, hr, h⟩ := cal_elim h
                  refine a_fV (as := [.inl v2, .inl (M6 46 v2.toNat)]) (a := 36) (st := [.inl v5, .inr 46]) (mX3_backOf_25 z.1 hr) (md qX3_settle_ok) qX3_backOf_ok hz lkX3_121 rfl 2 2 (by decide +kernel) rfl rfl rfl rfl ?_
                  show Aw z 83 [some (.inr 36), some (.inl v2), some (.inl v3), some (.inl v4), some (.inl v5)] [.inl r49, .inl v5, .inr 46] M6
                  obtain ⟨h52, h⟩ := gd_elim h
                  refine a_run (md qX3_settle_ok) hz 1 [] (pc' := 84) (lv' := [some (.inr 36), some (.inl v2), some (.inl v3), some (.inl v4), some (.inl v5)]) (st' := []) (M' := (up M6 46 v5.toNat r49)) (P := (0 ≤ v5 ∧ v5 < 16) ∧ True) rfl ⟨h52, trivial⟩ ?_
                  refine bnd_elim (G := fun (M50 : Mm) => Aw z 84 [some (.inr 36), some (.inl v2), some (.inl v3), some (.inl v4), some (.inl v5)] [] M50) h (fun M50 h => ?_)
                  refine a_run (md qX3_settle_ok) hz 3 [] (pc' := 87) (lv' := [some (.inr 36), some (.inl v2), some (.inl v3), some (.inl v4), some (.inl v5)]) (st' := [.inl v3, .inl v2, .inr 36]) (M' := M50) (P := True) rfl trivial ?_
                  obtain ⟨r51, hr, h⟩ := cal_elim h
                  refine a_fV (as := [.inl v2, .inl v3]) (a := 36) (st := []) (mX3_backsOf_25 z.1 hr) (md qX3_settle_ok) qX3_backsOf_ok hz lkX3_124 rfl 2 0 (by decide +kernel) rfl rfl rfl rfl ?_
                  show Aw z 90 [some (.inr 36), some (.inl v2), some (.inl v3), some (.inl v4), some (.inl v5)] [.inl r51] M50
                  refine a_run (md qX3_settle_ok) hz 2 [] (pc' := 126) (lv' := [some (.inr 36), some (.inl v2), some (.inl r51), some (.inl v4), some (.inl v5)]) (st' := []) (M' := M50) (P := True) rfl trivial ?_
                  refine a_mask [true, false, true, true, true] ?_
                  exact hK19 r51 v4 v5 M50 h
                · refine a_run (md qX3_settle_ok) hz 6 [1] (pc' := 94) (lv' := [some (.inr 36), some (.inl v2), some (.inl v3), some (.inl v4), some (.inl v5)]) (st' := []) (M' := M6) (P := (0 ≤ v2 ∧ v2 < 16) ∧ (¬ (M6 41 v2.toNat) = v5) ∧ True) rfl ⟨h54, hc, trivial⟩ ?_
                  refine a_mask [true, true, false, false, true] ?_
                  exact hK39 v2 v5 M6 h
        · refine a_run (md qX3_settle_ok) hz 1 [0] (pc' := 29) (lv' := [some (.inr 36), some (.inl v2), some (.inl v3), some (.inl v4), some (.inl v5)]) (st' := []) (M' := M6) (P := (¬ (r14 = 0)) ∧ True) rfl ⟨hc, trivial⟩ ?_
          obtain ⟨h58, h⟩ := gd_elim h
          refine a_run (md qX3_settle_ok) hz 5 [] (pc' := 38) (lv' := [some (.inr 36), some (.inl v2), some (.inl v3), some (.inl v4), some (.inl v5)]) (st' := []) (M' := (up M6 46 v5.toNat (-6 : Int))) (P := (0 ≤ v5 ∧ v5 < 16) ∧ True) rfl ⟨h58, trivial⟩ ?_
          refine bnd_elim (G := fun (M55 : Mm) => Aw z 38 [some (.inr 36), some (.inl v2), some (.inl v3), some (.inl v4), some (.inl v5)] [] M55) h (fun M55 h => ?_)
          obtain ⟨h57, h⟩ := gd_elim h
          refine a_run (md qX3_settle_ok) hz 5 [] (pc' := 46) (lv' := [some (.inr 36), some (.inl v2), some (.inl v3), some (.inl v4), some (.inl v5)]) (st' := []) (M' := (up M55 47 v5.toNat (0 : Int))) (P := ((0 ≤ v5 ∧ v5 < 16) ∧ ((0 : Int) = 0 ∨ (0 : Int) = 1)) ∧ True) rfl ⟨h57, trivial⟩ ?_
          refine bnd_elim (G := fun (M56 : Mm) => Aw z 46 [some (.inr 36), some (.inl v2), some (.inl v3), some (.inl v4), some (.inl v5)] [] M56) h (fun M56 h => ?_)
          refine a_run (md qX3_settle_ok) hz 1 [] (pc' := 153) (lv' := [some (.inr 36), some (.inl v2), some (.inl v3), some (.inl v4), some (.inl v5)]) (st' := []) (M' := M56) (P := True) rfl trivial ?_
          refine a_mask [true, true, true, true, true] ?_
          exact hK12 v2 v3 v4 v5 M56 h
set_option maxRecDepth 100000 in
theorem mX3_settle_25 (g : Gx) {M : Mm} {M2 : Mm} (h : fX3_settle 25 M = some M2) : Ct g qX3_settle [.inr 36] M (fun r' M' => r' = none ∧ M' = M2) := by
  refine c_ofV h qX3_settle_ok (Nat.le_of_ble_eq_true rfl) (fun z hz Q hR h => ?_)
  unfold fX3_settle at h
  show Aw z 0 [some (.inr 36), none, none, none, none] [] M
  obtain ⟨h59, h⟩ := gd_elim h
  refine a_run (md qX3_settle_ok) hz 11 [] (pc' := 15) (lv' := [some (.inr 36), some (.inl (-6 : Int)), some (.inl (0 : Int)), some (.inl (1 : Int)), some (.inl ((M 36 2) - (1 : Int)))]) (st' := []) (M' := M) (P := (inR ((M 36 2) - (1 : Int))) ∧ True) rfl ⟨h59, trivial⟩ ?_
  refine bnd_elim (G := fun (t1 : Int) => Aw z 15 [some (.inr 36), some (.inl (-6 : Int)), some (.inl (0 : Int)), some (.inl (1 : Int)), some (.inl t1)] [] M) h (fun t1 h => ?_)
  refine a_mask [true, true, true, true, true] ?_
  refine mX3_settle_25_L15 hz hR  1000 (-6 : Int) (0 : Int) (1 : Int) t1 M h
set_option maxRecDepth 100000 in
theorem mX3_settle_48_L15 {z : Zx} (hz : Cx qX3_settle z) {Q : Option Int → Mm → Prop} (hR : Rt Q z) : ∀ (n : Nat) (v2 : Int) (v3 : Int) (v4 : Int) (v5 : Int) (M6 : Mm), OK (fX3_settle_L15 48 n v2 v3 v4 v5 M6) (fun r2 => Q none r2) → Aw z 15 [some (.inr 59), some (.inl v2), some (.inl v3), some (.inl v4), some (.inl v5)] [] M6 := by
  intro n
  induction n with
  | zero =>
    intro v2 v3 v4 v5 M6 h
    exact (show False from h).elim
  | succ n ih =>
    intro v2 v3 v4 v5 M6 h
    unfold fX3_settle_L15 at h
    refine ite_elim h (fun hc h => ?_) (fun hc h => ?_)
    · refine a_run (md qX3_settle_ok) hz 2 [1] (pc' := 159) (lv' := [some (.inr 59), some (.inl v2), some (.inl v3), some (.inl v4), some (.inl v5)]) (st' := []) (M' := M6) (P := (v5 < 0) ∧ True) rfl ⟨hc, trivial⟩ ?_
      exact a_rv (md qX3_settle_ok) hz hR rfl rfl h
    · refine a_run (md qX3_settle_ok) hz 2 [0] (pc' := 20) (lv' := [some (.inr 59), some (.inl v2), some (.inl v3), some (.inl v4), some (.inl v5)]) (st' := []) (M' := M6) (P := (¬ (v5 < 0)) ∧ True) rfl ⟨hc, trivial⟩ ?_
      refine jn_elim h (fun (K12 : Int → Int → Int → Int → Mm → Option (Mm)) => ∀ (v7 : Int), ∀ (v8 : Int), ∀ (v9 : Int), ∀ (v10 : Int), ∀ (M11 : Mm), OK (K12 v7 v8 v9 v10 M11) (fun r2 => Q none r2) → Aw z 153 [some (.inr 59), some (.inl v7), some (.inl v8), some (.inl v9), some (.inl v10)] [] M11) (fun v7 v8 v9 v10 M11 h => ?_) (fun K12 hK12 h => ?_)
      · obtain ⟨h13, h⟩ := gd_elim h
        refine a_run (md qX3_settle_ok) hz 2 [] (pc' := 15) (lv' := [some (.inr 59), some (.inl v7), some (.inl v8), some (.inl v9), some (.inl (v10 + (-1 : Int)))]) (st' := []) (M' := M11) (P := (inR (v10 + (-1 : Int))) ∧ True) rfl ⟨h13, trivial⟩ ?_
        refine a_mask [true, true, true, true, true] ?_
        exact ih v7 v8 v9 (v10 + (-1 : Int)) M11 h
      · refine a_run (md qX3_settle_ok) hz 2 [] (pc' := 23) (lv' := [some (.inr 59), some (.inl v2), some (.inl v3), some (.inl v4), some (.inl v5)]) (st' := [.inl v5, .inr 59]) (M' := M6) (P := True) rfl trivial ?_
        obtain ⟨r14, hr, h⟩ := cal_elim h
        refine a_fV (as := [.inl v5]) (a := 59) (st := []) (mX3_isGap_48 z.1 hr) (md qX3_settle_ok) qX3_isGap_ok hz lkX3_81 rfl 1 0 (by decide +kernel) rfl rfl rfl rfl ?_
        show Aw z 26 [some (.inr 59), some (.inl v2), some (.inl v3), some (.inl v4), some (.inl v5)] [.inl r14] M6
        refine ite_elim h (fun hc h => ?_) (fun hc h => ?_)
        · refine a_run (md qX3_settle_ok) hz 1 [1] (pc' := 49) (lv' := [some (.inr 59), some (.inl v2), some (.inl v3), some (.inl v4), some (.inl v5)]) (st' := []) (M' := M6) (P := (r14 = 0) ∧ True) rfl ⟨hc, trivial⟩ ?_
          refine jn_elim h (fun (K19 : Int → Int → Int → Mm → Option (Mm)) => ∀ (v15 : Int), ∀ (v16 : Int), ∀ (v17 : Int), ∀ (M18 : Mm), OK (K19 v15 v16 v17 M18) (fun r2 => Q none r2) → Aw z 126 [some (.inr 59), none, some (.inl v15), some (.inl v16), some (.inl v17)] [] M18) (fun v15 v16 v17 M18 h => ?_) (fun K19 hK19 h => ?_)
          · refine jn_elim h (fun (K26 : Int → Int → Int → Int → Int → Mm → Option (Mm)) => ∀ (v20 : Int), ∀ (v21 : Int), ∀ (v22 : Int), ∀ (w23 : Int), ∀ (w24 : Int), ∀ (M25 : Mm), OK (K26 v20 v21 v22 w23 w24 M25) (fun r2 => Q none r2) → Aw z 149 [some (.inr 59), none, some (.inl v20), some (.inl v21), some (.inl v22)] [.inl w23, .inl w24, .inr 70] M25) (fun v20 v21 v22 w23 w24 M25 h => ?_) (fun K26 hK26 h => ?_)
            · obtain ⟨h28, h⟩ := gd_elim h
              refine a_run (md qX3_settle_ok) hz 1 [] (pc' := 150) (lv' := [some (.inr 59), none, some (.inl v20), some (.inl v21), some (.inl v22)]) (st' := []) (M' := (up M25 70 w24.toNat w23)) (P := ((0 ≤ w24 ∧ w24 < 16) ∧ (w23 = 0 ∨ w23 = 1)) ∧ True) rfl ⟨h28, trivial⟩ ?_
              refine bnd_elim (G := fun (M27 : Mm) => Aw z 150 [some (.inr 59), none, some (.inl v20), some (.inl v21), some (.inl v22)] [] M27) h (fun M27 h => ?_)
              refine a_run (md qX3_settle_ok) hz 2 [] (pc' := 153) (lv' := [some (.inr 59), some (.inl v22), some (.inl v20), some (.inl v21), some (.inl v22)]) (st' := []) (M' := M27) (P := True) rfl trivial ?_
              refine a_mask [true, true, true, true, true] ?_
              exact hK12 v22 v20 v21 v22 M27 h
            · refine jn_elim h (fun (K34 : Int → Int → Int → Int → Mm → Option (Mm)) => ∀ (v29 : Int), ∀ (v30 : Int), ∀ (v31 : Int), ∀ (w32 : Int), ∀ (M33 : Mm), OK (K34 v29 v30 v31 w32 M33) (fun r2 => Q none r2) → Aw z 144 [some (.inr 59), none, some (.inl v29), some (.inl v30), some (.inl v31)] [.inl w32, .inr 70] M33) (fun v29 v30 v31 w32 M33 h => ?_) (fun K34 hK34 h => ?_)
              · refine a_run (md qX3_settle_ok) hz 2 [] (pc' := 149) (lv' := [some (.inr 59), none, some (.inl v29), some (.inl v30), some (.inl v31)]) (st' := [.inl (1 : Int), .inl w32, .inr 70]) (M' := M33) (P := True) rfl trivial ?_
                refine a_mask [true, false, true, true, true] ?_
                exact hK26 v29 v30 v31 (1 : Int) w32 M33 h
              · refine ite_elim h (fun hc h => ?_) (fun hc h => ?_)
                · refine a_run (md qX3_settle_ok) hz 5 [1] (pc' := 144) (lv' := [some (.inr 59), none, some (.inl v15), some (.inl v16), some (.inl v17)]) (st' := [.inl v17, .inr 70]) (M' := M18) (P := (v16 = 0) ∧ True) rfl ⟨hc, trivial⟩ ?_
                  refine a_mask [true, false, true, true, true] ?_
                  exact hK34 v15 v16 v17 v17 M18 h
                · refine a_run (md qX3_settle_ok) hz 5 [0] (pc' := 136) (lv' := [some (.inr 59), none, some (.inl v15), some (.inl v16), some (.inl v17)]) (st' := [.inl v17, .inr 70]) (M' := M18) (P := (¬ (v16 = 0)) ∧ True) rfl ⟨hc, trivial⟩ ?_
                  refine a_run (md qX3_settle_ok) hz 1 [] (pc' := 137) (lv' := [some (.inr 59), none, some (.inl v15), some (.inl v16), some (.inl v17)]) (st' := [.inl v15, .inl v17, .inr 70]) (M' := M18) (P := True) rfl trivial ?_
                  obtain ⟨r35, hr, h⟩ := cal_elim h
                  refine a_fS (as := [.inl v15]) (st := [.inl v17, .inr 70]) (mJ6_bitCount z.1 hr) (md qX3_settle_ok) qJ6_bitCount_ok hz lkX3_133 rfl 1 2 (by decide +kernel) rfl rfl ?_
                  show Aw z 140 [some (.inr 59), none, some (.inl v15), some (.inl v16), some (.inl v17)] [.inl r35, .inl v17, .inr 70] M18
                  refine ite_elim h (fun hc h => ?_) (fun hc h => ?_)
                  · refine a_run (md qX3_settle_ok) hz 2 [0] (pc' := 144) (lv' := [some (.inr 59), none, some (.inl v15), some (.inl v16), some (.inl v17)]) (st' := [.inl v17, .inr 70]) (M' := M18) (P := (¬ ¬ r35 = (1 : Int)) ∧ True) rfl ⟨fun h9 => h9 hc, trivial⟩ ?_
                    refine a_mask [true, false, true, true, true] ?_
                    exact hK34 v15 v16 v17 v17 M18 h
                  · refine a_run (md qX3_settle_ok) hz 2 [1] (pc' := 148) (lv' := [some (.inr 59), none, some (.inl v15), some (.inl v16), some (.inl v17)]) (st' := [.inl v17, .inr 70]) (M' := M18) (P := (¬ r35 = (1 : Int)) ∧ True) rfl ⟨hc, trivial⟩ ?_
                    refine a_run (md qX3_settle_ok) hz 1 [] (pc' := 149) (lv' := [some (.inr 59), none, some (.inl v15), some (.inl v16), some (.inl v17)]) (st' := [.inl (0 : Int), .inl v17, .inr 70]) (M' := M18) (P := True) rfl trivial ?_
                    refine a_mask [true, false, true, true, true] ?_
                    exact hK26 v15 v16 v17 (0 : Int) v17 M18 h
          · refine jn_elim h (fun (K39 : Int → Int → Mm → Option (Mm)) => ∀ (v36 : Int), ∀ (v37 : Int), ∀ (M38 : Mm), OK (K39 v36 v37 M38) (fun r2 => Q none r2) → Aw z 94 [some (.inr 59), some (.inl v36), none, none, some (.inl v37)] [] M38) (fun v36 v37 M38 h => ?_) (fun K39 hK39 h => ?_)
            · refine jn_elim h (fun (K44 : Int → Int → Int → Mm → Option (Mm)) => ∀ (v40 : Int), ∀ (v41 : Int), ∀ (w42 : Int), ∀ (M43 : Mm), OK (K44 v40 v41 w42 M43) (fun r2 => Q none r2) → Aw z 125 [some (.inr 59), none, some (.inl v40), none, some (.inl v41)] [.inl w42] M43) (fun v40 v41 w42 M43 h => ?_) (fun K44 hK44 h => ?_)
              · refine a_run (md qX3_settle_ok) hz 1 [] (pc' := 126) (lv' := [some (.inr 59), none, some (.inl v40), some (.inl w42), some (.inl v41)]) (st' := []) (M' := M43) (P := True) rfl trivial ?_
                refine a_mask [true, false, true, true, true] ?_
                exact hK19 v40 w42 v41 M43 h
              · refine a_run (md qX3_settle_ok) hz 5 [] (pc' := 103) (lv' := [some (.inr 59), some (.inl v36), none, none, some (.inl v37)]) (st' := [.inl v37, .inr 59, .inl v37, .inr 69]) (M' := M38) (P := True) rfl trivial ?_
                obtain ⟨r45, hr, h⟩ := cal_elim h
                refine a_fV (as := [.inl v37]) (a := 59) (st := [.inl v37, .inr 69]) (mX3_cheapest_48 z.1 hr) (md qX3_settle_ok) qX3_cheapest_ok hz lkX3_127 rfl 1 2 (by decide +kernel) rfl rfl rfl rfl ?_
                show Aw z 106 [some (.inr 59), some (.inl v36), none, none, some (.inl v37)] [.inl r45, .inl v37, .inr 69] M38
                obtain ⟨h48, h⟩ := gd_elim h
                refine a_run (md qX3_settle_ok) hz 1 [] (pc' := 107) (lv' := [some (.inr 59), some (.inl v36), none, none, some (.inl v37)]) (st' := []) (M' := (up M38 69 v37.toNat r45)) (P := (0 ≤ v37 ∧ v37 < 16) ∧ True) rfl ⟨h48, trivial⟩ ?_
                refine bnd_elim (G := fun (M46 : Mm) => Aw z 107 [some (.inr 59), some (.inl v36), none, none, some (.inl v37)] [] M46) h (fun M46 h => ?_)
                refine a_run (md qX3_settle_ok) hz 2 [] (pc' := 110) (lv' := [some (.inr 59), some (.inl v36), none, none, some (.inl v37)]) (st' := [.inl v37, .inr 59]) (M' := M46) (P := True) rfl trivial ?_
                obtain ⟨r47, hr, h⟩ := cal_elim h
                refine a_fV (as := [.inl v37]) (a := 59) (st := []) (mX3_alive_48 z.1 hr) (md qX3_settle_ok) qX3_alive_ok hz lkX3_130 rfl 1 0 (by decide +kernel) rfl rfl rfl rfl ?_
                show Aw z 113 [some (.inr 59), some (.inl v36), none, none, some (.inl v37)] [.inl r47] M46
                refine ite_elim h (fun hc h => ?_) (fun hc h => ?_)
                · refine a_run (md qX3_settle_ok) hz 4 [0] (pc' := 120) (lv' := [some (.inr 59), some (.inl v36), some (.inl r47), none, some (.inl v37)]) (st' := []) (M' := M46) (P := (¬ ¬ v36 = (-6 : Int)) ∧ True) rfl ⟨fun h9 => h9 hc, trivial⟩ ?_
                  refine a_run (md qX3_settle_ok) hz 2 [] (pc' := 125) (lv' := [some (.inr 59), some (.inl v36), some (.inl r47), none, some (.inl v37)]) (st' := [.inl (1 : Int)]) (M' := M46) (P := True) rfl trivial ?_
                  refine a_mask [true, false, true, false, true] ?_
                  exact hK44 r47 v37 (1 : Int) M46 h
                · refine a_run (md qX3_settle_ok) hz 4 [1] (pc' := 124) (lv' := [some (.inr 59), some (.inl v36), some (.inl r47), none, some (.inl v37)]) (st' := []) (M' := M46) (P := (¬ v36 = (-6 : Int)) ∧ True) rfl ⟨hc, trivial⟩ ?_
                  refine a_run (md qX3_settle_ok) hz 1 [] (pc' := 125) (lv' := [some (.inr 59), some (.inl v36), some (.inl r47), none, some (.inl v37)]) (st' := [.inl (0 : Int)]) (M' := M46) (P := True) rfl trivial ?_
                  refine a_mask [true, false, true, false, true] ?_
                  exact hK44 r47 v37 (0 : Int) M46 h
            · refine ite_elim h (fun hc h => ?_) (fun hc h => ?_)
              · refine a_run (md qX3_settle_ok) hz 3 [1] (pc' := 94) (lv' := [some (.inr 59), some (.inl v2), some (.inl v3), some (.inl v4), some (.inl v5)]) (st' := []) (M' := M6) (P := (v2 = (-6 : Int)) ∧ True) rfl ⟨hc, trivial⟩ ?_
                refine a_mask [true, true, false, false, true] ?_
                exact hK39 v2 v5 M6 h
              · refine a_run (md qX3_settle_ok) hz 3 [0] (pc' := 55) (lv' := [some (.inr 59), some (.inl v2), some (.inl v3), some (.inl v4), some (.inl v5)]) (st' := []) (M' := M6) (P := (¬ (v2 = (-6 : Int))) ∧ True) rfl ⟨hc, trivial⟩ ?_
                obtain ⟨h54, h⟩ := gd_elim h
                refine ite_elim h (fun hc h => ?_) (fun hc h => ?_)
                · refine a_run (md qX3_settle_ok) hz 6 [0] (pc' := 66) (lv' := [some (.inr 59), some (.inl v2), some (.inl v3), some (.inl v4), some (.inl v5)]) (st' := []) (M' := M6) (P := (0 ≤ v2 ∧ v2 < 16) ∧ (¬ ¬ (M6 64 v2.toNat) = v5) ∧ True) rfl ⟨h54, fun h9 => h9 hc, trivial⟩ ?_
                  obtain ⟨h53, h⟩ := gd_elim h
                  refine a_run (md qX3_settle_ok) hz 9 [] (pc' := 80) (lv' := [some (.inr 59), some (.inl v2), some (.inl v3), some (.inl v4), some (.inl v5)]) (st' := [.inl (M6 69 v2.toNat), .inl v2, .inr 59, .inl v5, .inr 69]) (M' := M6) (P := (0 ≤ v2 ∧ v2 < 16) ∧ True) rfl ⟨h53, trivial⟩ ?_
                  obtain ⟨r49, hr, h⟩ := cal_elim h
                  refine a_fV (as := [.inl v2, .inl (M6 69 v2.toNat)]) (a := 59) (st := [.inl v5, .inr 69]) (mX3_backOf_48 z.1 hr) (md qX3_settle_ok) qX3_backOf_ok hz lkX3_121 rfl 2 2 (by decide +kernel) rfl rfl rfl rfl ?_
                  show Aw z 83 [some (.inr 59), some (.inl v2), some (.inl v3), some (.inl v4), some (.inl v5)] [.inl r49, .inl v5, .inr 69] M6
                  obtain ⟨h52, h⟩ := gd_elim h
                  refine a_run (md qX3_settle_ok) hz 1 [] (pc' := 84) (lv' := [some (.inr 59), some (.inl v2), some (.inl v3), some (.inl v4), some (.inl v5)]) (st' := []) (M' := (up M6 69 v5.toNat r49)) (P := (0 ≤ v5 ∧ v5 < 16) ∧ True) rfl ⟨h52, trivial⟩ ?_
                  refine bnd_elim (G := fun (M50 : Mm) => Aw z 84 [some (.inr 59), some (.inl v2), some (.inl v3), some (.inl v4), some (.inl v5)] [] M50) h (fun M50 h => ?_)
                  refine a_run (md qX3_settle_ok) hz 3 [] (pc' := 87) (lv' := [some (.inr 59), some (.inl v2), some (.inl v3), some (.inl v4), some (.inl v5)]) (st' := [.inl v3, .inl v2, .inr 59]) (M' := M50) (P := True) rfl trivial ?_
                  obtain ⟨r51, hr, h⟩ := cal_elim h
                  refine a_fV (as := [.inl v2, .inl v3]) (a := 59) (st := []) (mX3_backsOf_48 z.1 hr) (md qX3_settle_ok) qX3_backsOf_ok hz lkX3_124 rfl 2 0 (by decide +kernel) rfl rfl rfl rfl ?_
                  show Aw z 90 [some (.inr 59), some (.inl v2), some (.inl v3), some (.inl v4), some (.inl v5)] [.inl r51] M50
                  refine a_run (md qX3_settle_ok) hz 2 [] (pc' := 126) (lv' := [some (.inr 59), some (.inl v2), some (.inl r51), some (.inl v4), some (.inl v5)]) (st' := []) (M' := M50) (P := True) rfl trivial ?_
                  refine a_mask [true, false, true, true, true] ?_
                  exact hK19 r51 v4 v5 M50 h
                · refine a_run (md qX3_settle_ok) hz 6 [1] (pc' := 94) (lv' := [some (.inr 59), some (.inl v2), some (.inl v3), some (.inl v4), some (.inl v5)]) (st' := []) (M' := M6) (P := (0 ≤ v2 ∧ v2 < 16) ∧ (¬ (M6 64 v2.toNat) = v5) ∧ True) rfl ⟨h54, hc, trivial⟩ ?_
                  refine a_mask [true, true, false, false, true] ?_
                  exact hK39 v2 v5 M6 h
        · refine a_run (md qX3_settle_ok) hz 1 [0] (pc' := 29) (lv' := [some (.inr 59), some (.inl v2), some (.inl v3), some (.inl v4), some (.inl v5)]) (st' := []) (M' := M6) (P := (¬ (r14 = 0)) ∧ True) rfl ⟨hc, trivial⟩ ?_
          obtain ⟨h58, h⟩ := gd_elim h
          refine a_run (md qX3_settle_ok) hz 5 [] (pc' := 38) (lv' := [some (.inr 59), some (.inl v2), some (.inl v3), some (.inl v4), some (.inl v5)]) (st' := []) (M' := (up M6 69 v5.toNat (-6 : Int))) (P := (0 ≤ v5 ∧ v5 < 16) ∧ True) rfl ⟨h58, trivial⟩ ?_
          refine bnd_elim (G := fun (M55 : Mm) => Aw z 38 [some (.inr 59), some (.inl v2), some (.inl v3), some (.inl v4), some (.inl v5)] [] M55) h (fun M55 h => ?_)
          obtain ⟨h57, h⟩ := gd_elim h
          refine a_run (md qX3_settle_ok) hz 5 [] (pc' := 46) (lv' := [some (.inr 59), some (.inl v2), some (.inl v3), some (.inl v4), some (.inl v5)]) (st' := []) (M' := (up M55 70 v5.toNat (0 : Int))) (P := ((0 ≤ v5 ∧ v5 < 16) ∧ ((0 : Int) = 0 ∨ (0 : Int) = 1)) ∧ True) rfl ⟨h57, trivial⟩ ?_
          refine bnd_elim (G := fun (M56 : Mm) => Aw z 46 [some (.inr 59), some (.inl v2), some (.inl v3), some (.inl v4), some (.inl v5)] [] M56) h (fun M56 h => ?_)
          refine a_run (md qX3_settle_ok) hz 1 [] (pc' := 153) (lv' := [some (.inr 59), some (.inl v2), some (.inl v3), some (.inl v4), some (.inl v5)]) (st' := []) (M' := M56) (P := True) rfl trivial ?_
          refine a_mask [true, true, true, true, true] ?_
          exact hK12 v2 v3 v4 v5 M56 h
set_option maxRecDepth 100000 in
theorem mX3_settle_48 (g : Gx) {M : Mm} {M2 : Mm} (h : fX3_settle 48 M = some M2) : Ct g qX3_settle [.inr 59] M (fun r' M' => r' = none ∧ M' = M2) := by
  refine c_ofV h qX3_settle_ok (Nat.le_of_ble_eq_true rfl) (fun z hz Q hR h => ?_)
  unfold fX3_settle at h
  show Aw z 0 [some (.inr 59), none, none, none, none] [] M
  obtain ⟨h59, h⟩ := gd_elim h
  refine a_run (md qX3_settle_ok) hz 11 [] (pc' := 15) (lv' := [some (.inr 59), some (.inl (-6 : Int)), some (.inl (0 : Int)), some (.inl (1 : Int)), some (.inl ((M 59 2) - (1 : Int)))]) (st' := []) (M' := M) (P := (inR ((M 59 2) - (1 : Int))) ∧ True) rfl ⟨h59, trivial⟩ ?_
  refine bnd_elim (G := fun (t1 : Int) => Aw z 15 [some (.inr 59), some (.inl (-6 : Int)), some (.inl (0 : Int)), some (.inl (1 : Int)), some (.inl t1)] [] M) h (fun t1 h => ?_)
  refine a_mask [true, true, true, true, true] ?_
  refine mX3_settle_48_L15 hz hR  1000 (-6 : Int) (0 : Int) (1 : Int) t1 M h
def fX3_copyFrom (b : Nat) (b2 : Nat) (M : Mm) : Option (Mm) := bnd (up M (b + 11) 2 (M (b2 + 11) 2)) (fun (M1 : Mm) => bnd (cpM M1 (b + 12) (b2 + 12) (16 : Int)) (fun (M2 : Mm) => bnd (cpM M2 (b + 13) (b2 + 13) (16 : Int)) (fun (M3 : Mm) => bnd (cpM M3 (b + 14) (b2 + 14) (16 : Int)) (fun (M4 : Mm) => bnd (cpM M4 (b + 15) (b2 + 15) (16 : Int)) (fun (M5 : Mm) => bnd (cpM M5 (b + 16) (b2 + 16) (16 : Int)) (fun (M6 : Mm) => bnd (cpM M6 (b + 17) (b2 + 17) (320 : Int)) (fun (M7 : Mm) => bnd (cpM M7 (b + 18) (b2 + 18) (320 : Int)) (fun (M8 : Mm) => bnd (cpM M8 (b + 19) (b2 + 19) (320 : Int)) (fun (M9 : Mm) => bnd (cpM M9 (b + 20) (b2 + 20) (320 : Int)) (fun (M10 : Mm) => cal (fX3_settle b M10) (fun (M11 : Mm) => some M11)))))))))))
set_option maxRecDepth 100000 in
theorem mX3_copyFrom_25_2 (g : Gx) {M : Mm} {M2 : Mm} (h : fX3_copyFrom 25 2 M = some M2) : Ct g qX3_copyFrom [.inr 36, .inr 13] M (fun r' M' => r' = none ∧ M' = M2) := by
  refine c_ofV h qX3_copyFrom_ok (Nat.le_of_ble_eq_true rfl) (fun z hz Q hR h => ?_)
  unfold fX3_copyFrom at h
  show Aw z 0 [some (.inr 36), some (.inr 13)] [] M
  refine a_run (md qX3_copyFrom_ok) hz 4 [] (pc' := 8) (lv' := [some (.inr 36), some (.inr 13)]) (st' := []) (M' := (up M 36 2 (M 13 2))) (P := True) rfl trivial ?_
  refine bnd_elim (G := fun (M1 : Mm) => Aw z 8 [some (.inr 36), some (.inr 13)] [] M1) h (fun M1 h => ?_)
  refine a_run (md qX3_copyFrom_ok) hz 7 [] (pc' := 20) (lv' := [some (.inr 36), some (.inr 13)]) (st' := [.inl (16 : Int), .inl (0 : Int), .inr 37, .inl (0 : Int), .inr 14]) (M' := M1) (P := True) rfl trivial ?_
  refine a_cpy (md qX3_copyFrom_ok) hz lkX3_153 rfl rfl 0 (by decide) rfl rfl ?_
  refine bnd_elim (G := fun (M2 : Mm) => Aw z 23 [some (.inr 36), some (.inr 13)] [] M2) h (fun M2 h => ?_)
  refine a_run (md qX3_copyFrom_ok) hz 7 [] (pc' := 35) (lv' := [some (.inr 36), some (.inr 13)]) (st' := [.inl (16 : Int), .inl (0 : Int), .inr 38, .inl (0 : Int), .inr 15]) (M' := M2) (P := True) rfl trivial ?_
  refine a_cpy (md qX3_copyFrom_ok) hz lkX3_153 rfl rfl 0 (by decide) rfl rfl ?_
  refine bnd_elim (G := fun (M3 : Mm) => Aw z 38 [some (.inr 36), some (.inr 13)] [] M3) h (fun M3 h => ?_)
  refine a_run (md qX3_copyFrom_ok) hz 7 [] (pc' := 50) (lv' := [some (.inr 36), some (.inr 13)]) (st' := [.inl (16 : Int), .inl (0 : Int), .inr 39, .inl (0 : Int), .inr 16]) (M' := M3) (P := True) rfl trivial ?_
  refine a_cpy (md qX3_copyFrom_ok) hz lkX3_153 rfl rfl 0 (by decide) rfl rfl ?_
  refine bnd_elim (G := fun (M4 : Mm) => Aw z 53 [some (.inr 36), some (.inr 13)] [] M4) h (fun M4 h => ?_)
  refine a_run (md qX3_copyFrom_ok) hz 7 [] (pc' := 65) (lv' := [some (.inr 36), some (.inr 13)]) (st' := [.inl (16 : Int), .inl (0 : Int), .inr 40, .inl (0 : Int), .inr 17]) (M' := M4) (P := True) rfl trivial ?_
  refine a_cpy (md qX3_copyFrom_ok) hz lkX3_153 rfl rfl 0 (by decide) rfl rfl ?_
  refine bnd_elim (G := fun (M5 : Mm) => Aw z 68 [some (.inr 36), some (.inr 13)] [] M5) h (fun M5 h => ?_)
  refine a_run (md qX3_copyFrom_ok) hz 7 [] (pc' := 80) (lv' := [some (.inr 36), some (.inr 13)]) (st' := [.inl (16 : Int), .inl (0 : Int), .inr 41, .inl (0 : Int), .inr 18]) (M' := M5) (P := True) rfl trivial ?_
  refine a_cpy (md qX3_copyFrom_ok) hz lkX3_153 rfl rfl 0 (by decide) rfl rfl ?_
  refine bnd_elim (G := fun (M6 : Mm) => Aw z 83 [some (.inr 36), some (.inr 13)] [] M6) h (fun M6 h => ?_)
  refine a_run (md qX3_copyFrom_ok) hz 7 [] (pc' := 96) (lv' := [some (.inr 36), some (.inr 13)]) (st' := [.inl (320 : Int), .inl (0 : Int), .inr 42, .inl (0 : Int), .inr 19]) (M' := M6) (P := True) rfl trivial ?_
  refine a_cpy (md qX3_copyFrom_ok) hz lkX3_153 rfl rfl 0 (by decide) rfl rfl ?_
  refine bnd_elim (G := fun (M7 : Mm) => Aw z 99 [some (.inr 36), some (.inr 13)] [] M7) h (fun M7 h => ?_)
  refine a_run (md qX3_copyFrom_ok) hz 7 [] (pc' := 112) (lv' := [some (.inr 36), some (.inr 13)]) (st' := [.inl (320 : Int), .inl (0 : Int), .inr 43, .inl (0 : Int), .inr 20]) (M' := M7) (P := True) rfl trivial ?_
  refine a_cpy (md qX3_copyFrom_ok) hz lkX3_153 rfl rfl 0 (by decide) rfl rfl ?_
  refine bnd_elim (G := fun (M8 : Mm) => Aw z 115 [some (.inr 36), some (.inr 13)] [] M8) h (fun M8 h => ?_)
  refine a_run (md qX3_copyFrom_ok) hz 7 [] (pc' := 128) (lv' := [some (.inr 36), some (.inr 13)]) (st' := [.inl (320 : Int), .inl (0 : Int), .inr 44, .inl (0 : Int), .inr 21]) (M' := M8) (P := True) rfl trivial ?_
  refine a_cpy (md qX3_copyFrom_ok) hz lkX3_153 rfl rfl 0 (by decide) rfl rfl ?_
  refine bnd_elim (G := fun (M9 : Mm) => Aw z 131 [some (.inr 36), some (.inr 13)] [] M9) h (fun M9 h => ?_)
  refine a_run (md qX3_copyFrom_ok) hz 7 [] (pc' := 144) (lv' := [some (.inr 36), some (.inr 13)]) (st' := [.inl (320 : Int), .inl (0 : Int), .inr 45, .inl (0 : Int), .inr 22]) (M' := M9) (P := True) rfl trivial ?_
  refine a_cpy (md qX3_copyFrom_ok) hz lkX3_153 rfl rfl 0 (by decide) rfl rfl ?_
  refine bnd_elim (G := fun (M10 : Mm) => Aw z 147 [some (.inr 36), some (.inr 13)] [] M10) h (fun M10 h => ?_)
  refine a_run (md qX3_copyFrom_ok) hz 1 [] (pc' := 148) (lv' := [some (.inr 36), some (.inr 13)]) (st' := [.inr 36]) (M' := M10) (P := True) rfl trivial ?_
  obtain ⟨M11, hr, h⟩ := cal_elim h
  refine a_fV (as := []) (a := 36) (st := []) (mX3_settle_25 z.1 hr) (md qX3_copyFrom_ok) qX3_settle_ok hz lkX3_78 rfl 0 0 (by decide +kernel) rfl rfl rfl rfl ?_
  show Aw z 151 [some (.inr 36), some (.inr 13)] [] M11
  exact a_rv (md qX3_copyFrom_ok) hz hR rfl rfl h
set_option maxRecDepth 100000 in
theorem mX3_copyFrom_48_2 (g : Gx) {M : Mm} {M2 : Mm} (h : fX3_copyFrom 48 2 M = some M2) : Ct g qX3_copyFrom [.inr 59, .inr 13] M (fun r' M' => r' = none ∧ M' = M2) := by
  refine c_ofV h qX3_copyFrom_ok (Nat.le_of_ble_eq_true rfl) (fun z hz Q hR h => ?_)
  unfold fX3_copyFrom at h
  show Aw z 0 [some (.inr 59), some (.inr 13)] [] M
  refine a_run (md qX3_copyFrom_ok) hz 4 [] (pc' := 8) (lv' := [some (.inr 59), some (.inr 13)]) (st' := []) (M' := (up M 59 2 (M 13 2))) (P := True) rfl trivial ?_
  refine bnd_elim (G := fun (M1 : Mm) => Aw z 8 [some (.inr 59), some (.inr 13)] [] M1) h (fun M1 h => ?_)
  refine a_run (md qX3_copyFrom_ok) hz 7 [] (pc' := 20) (lv' := [some (.inr 59), some (.inr 13)]) (st' := [.inl (16 : Int), .inl (0 : Int), .inr 60, .inl (0 : Int), .inr 14]) (M' := M1) (P := True) rfl trivial ?_
  refine a_cpy (md qX3_copyFrom_ok) hz lkX3_153 rfl rfl 0 (by decide) rfl rfl ?_
  refine bnd_elim (G := fun (M2 : Mm) => Aw z 23 [some (.inr 59), some (.inr 13)] [] M2) h (fun M2 h => ?_)
  refine a_run (md qX3_copyFrom_ok) hz 7 [] (pc' := 35) (lv' := [some (.inr 59), some (.inr 13)]) (st' := [.inl (16 : Int), .inl (0 : Int), .inr 61, .inl (0 : Int), .inr 15]) (M' := M2) (P := True) rfl trivial ?_
  refine a_cpy (md qX3_copyFrom_ok) hz lkX3_153 rfl rfl 0 (by decide) rfl rfl ?_
  refine bnd_elim (G := fun (M3 : Mm) => Aw z 38 [some (.inr 59), some (.inr 13)] [] M3) h (fun M3 h => ?_)
  refine a_run (md qX3_copyFrom_ok) hz 7 [] (pc' := 50) (lv' := [some (.inr 59), some (.inr 13)]) (st' := [.inl (16 : Int), .inl (0 : Int), .inr 62, .inl (0 : Int), .inr 16]) (M' := M3) (P := True) rfl trivial ?_
  refine a_cpy (md qX3_copyFrom_ok) hz lkX3_153 rfl rfl 0 (by decide) rfl rfl ?_
  refine bnd_elim (G := fun (M4 : Mm) => Aw z 53 [some (.inr 59), some (.inr 13)] [] M4) h (fun M4 h => ?_)
  refine a_run (md qX3_copyFrom_ok) hz 7 [] (pc' := 65) (lv' := [some (.inr 59), some (.inr 13)]) (st' := [.inl (16 : Int), .inl (0 : Int), .inr 63, .inl (0 : Int), .inr 17]) (M' := M4) (P := True) rfl trivial ?_
  refine a_cpy (md qX3_copyFrom_ok) hz lkX3_153 rfl rfl 0 (by decide) rfl rfl ?_
  refine bnd_elim (G := fun (M5 : Mm) => Aw z 68 [some (.inr 59), some (.inr 13)] [] M5) h (fun M5 h => ?_)
  refine a_run (md qX3_copyFrom_ok) hz 7 [] (pc' := 80) (lv' := [some (.inr 59), some (.inr 13)]) (st' := [.inl (16 : Int), .inl (0 : Int), .inr 64, .inl (0 : Int), .inr 18]) (M' := M5) (P := True) rfl trivial ?_
  refine a_cpy (md qX3_copyFrom_ok) hz lkX3_153 rfl rfl 0 (by decide) rfl rfl ?_
  refine bnd_elim (G := fun (M6 : Mm) => Aw z 83 [some (.inr 59), some (.inr 13)] [] M6) h (fun M6 h => ?_)
  refine a_run (md qX3_copyFrom_ok) hz 7 [] (pc' := 96) (lv' := [some (.inr 59), some (.inr 13)]) (st' := [.inl (320 : Int), .inl (0 : Int), .inr 65, .inl (0 : Int), .inr 19]) (M' := M6) (P := True) rfl trivial ?_
  refine a_cpy (md qX3_copyFrom_ok) hz lkX3_153 rfl rfl 0 (by decide) rfl rfl ?_
  refine bnd_elim (G := fun (M7 : Mm) => Aw z 99 [some (.inr 59), some (.inr 13)] [] M7) h (fun M7 h => ?_)
  refine a_run (md qX3_copyFrom_ok) hz 7 [] (pc' := 112) (lv' := [some (.inr 59), some (.inr 13)]) (st' := [.inl (320 : Int), .inl (0 : Int), .inr 66, .inl (0 : Int), .inr 20]) (M' := M7) (P := True) rfl trivial ?_
  refine a_cpy (md qX3_copyFrom_ok) hz lkX3_153 rfl rfl 0 (by decide) rfl rfl ?_
  refine bnd_elim (G := fun (M8 : Mm) => Aw z 115 [some (.inr 59), some (.inr 13)] [] M8) h (fun M8 h => ?_)
  refine a_run (md qX3_copyFrom_ok) hz 7 [] (pc' := 128) (lv' := [some (.inr 59), some (.inr 13)]) (st' := [.inl (320 : Int), .inl (0 : Int), .inr 67, .inl (0 : Int), .inr 21]) (M' := M8) (P := True) rfl trivial ?_
  refine a_cpy (md qX3_copyFrom_ok) hz lkX3_153 rfl rfl 0 (by decide) rfl rfl ?_
  refine bnd_elim (G := fun (M9 : Mm) => Aw z 131 [some (.inr 59), some (.inr 13)] [] M9) h (fun M9 h => ?_)
  refine a_run (md qX3_copyFrom_ok) hz 7 [] (pc' := 144) (lv' := [some (.inr 59), some (.inr 13)]) (st' := [.inl (320 : Int), .inl (0 : Int), .inr 68, .inl (0 : Int), .inr 22]) (M' := M9) (P := True) rfl trivial ?_
  refine a_cpy (md qX3_copyFrom_ok) hz lkX3_153 rfl rfl 0 (by decide) rfl rfl ?_
  refine bnd_elim (G := fun (M10 : Mm) => Aw z 147 [some (.inr 59), some (.inr 13)] [] M10) h (fun M10 h => ?_)
  refine a_run (md qX3_copyFrom_ok) hz 1 [] (pc' := 148) (lv' := [some (.inr 59), some (.inr 13)]) (st' := [.inr 59]) (M' := M10) (P := True) rfl trivial ?_
  obtain ⟨M11, hr, h⟩ := cal_elim h
  refine a_fV (as := []) (a := 59) (st := []) (mX3_settle_48 z.1 hr) (md qX3_copyFrom_ok) qX3_settle_ok hz lkX3_78 rfl 0 0 (by decide +kernel) rfl rfl rfl rfl ?_
  show Aw z 151 [some (.inr 59), some (.inr 13)] [] M11
  exact a_rv (md qX3_copyFrom_ok) hz hR rfl rfl h
set_option maxRecDepth 100000 in
theorem mX3_copyFrom_2_25 (g : Gx) {M : Mm} {M2 : Mm} (h : fX3_copyFrom 2 25 M = some M2) : Ct g qX3_copyFrom [.inr 13, .inr 36] M (fun r' M' => r' = none ∧ M' = M2) := by
  refine c_ofV h qX3_copyFrom_ok (Nat.le_of_ble_eq_true rfl) (fun z hz Q hR h => ?_)
  unfold fX3_copyFrom at h
  show Aw z 0 [some (.inr 13), some (.inr 36)] [] M
  refine a_run (md qX3_copyFrom_ok) hz 4 [] (pc' := 8) (lv' := [some (.inr 13), some (.inr 36)]) (st' := []) (M' := (up M 13 2 (M 36 2))) (P := True) rfl trivial ?_
  refine bnd_elim (G := fun (M1 : Mm) => Aw z 8 [some (.inr 13), some (.inr 36)] [] M1) h (fun M1 h => ?_)
  refine a_run (md qX3_copyFrom_ok) hz 7 [] (pc' := 20) (lv' := [some (.inr 13), some (.inr 36)]) (st' := [.inl (16 : Int), .inl (0 : Int), .inr 14, .inl (0 : Int), .inr 37]) (M' := M1) (P := True) rfl trivial ?_
  refine a_cpy (md qX3_copyFrom_ok) hz lkX3_153 rfl rfl 0 (by decide) rfl rfl ?_
  refine bnd_elim (G := fun (M2 : Mm) => Aw z 23 [some (.inr 13), some (.inr 36)] [] M2) h (fun M2 h => ?_)
  refine a_run (md qX3_copyFrom_ok) hz 7 [] (pc' := 35) (lv' := [some (.inr 13), some (.inr 36)]) (st' := [.inl (16 : Int), .inl (0 : Int), .inr 15, .inl (0 : Int), .inr 38]) (M' := M2) (P := True) rfl trivial ?_
  refine a_cpy (md qX3_copyFrom_ok) hz lkX3_153 rfl rfl 0 (by decide) rfl rfl ?_
  refine bnd_elim (G := fun (M3 : Mm) => Aw z 38 [some (.inr 13), some (.inr 36)] [] M3) h (fun M3 h => ?_)
  refine a_run (md qX3_copyFrom_ok) hz 7 [] (pc' := 50) (lv' := [some (.inr 13), some (.inr 36)]) (st' := [.inl (16 : Int), .inl (0 : Int), .inr 16, .inl (0 : Int), .inr 39]) (M' := M3) (P := True) rfl trivial ?_
  refine a_cpy (md qX3_copyFrom_ok) hz lkX3_153 rfl rfl 0 (by decide) rfl rfl ?_
  refine bnd_elim (G := fun (M4 : Mm) => Aw z 53 [some (.inr 13), some (.inr 36)] [] M4) h (fun M4 h => ?_)
  refine a_run (md qX3_copyFrom_ok) hz 7 [] (pc' := 65) (lv' := [some (.inr 13), some (.inr 36)]) (st' := [.inl (16 : Int), .inl (0 : Int), .inr 17, .inl (0 : Int), .inr 40]) (M' := M4) (P := True) rfl trivial ?_
  refine a_cpy (md qX3_copyFrom_ok) hz lkX3_153 rfl rfl 0 (by decide) rfl rfl ?_
  refine bnd_elim (G := fun (M5 : Mm) => Aw z 68 [some (.inr 13), some (.inr 36)] [] M5) h (fun M5 h => ?_)
  refine a_run (md qX3_copyFrom_ok) hz 7 [] (pc' := 80) (lv' := [some (.inr 13), some (.inr 36)]) (st' := [.inl (16 : Int), .inl (0 : Int), .inr 18, .inl (0 : Int), .inr 41]) (M' := M5) (P := True) rfl trivial ?_
  refine a_cpy (md qX3_copyFrom_ok) hz lkX3_153 rfl rfl 0 (by decide) rfl rfl ?_
  refine bnd_elim (G := fun (M6 : Mm) => Aw z 83 [some (.inr 13), some (.inr 36)] [] M6) h (fun M6 h => ?_)
  refine a_run (md qX3_copyFrom_ok) hz 7 [] (pc' := 96) (lv' := [some (.inr 13), some (.inr 36)]) (st' := [.inl (320 : Int), .inl (0 : Int), .inr 19, .inl (0 : Int), .inr 42]) (M' := M6) (P := True) rfl trivial ?_
  refine a_cpy (md qX3_copyFrom_ok) hz lkX3_153 rfl rfl 0 (by decide) rfl rfl ?_
  refine bnd_elim (G := fun (M7 : Mm) => Aw z 99 [some (.inr 13), some (.inr 36)] [] M7) h (fun M7 h => ?_)
  refine a_run (md qX3_copyFrom_ok) hz 7 [] (pc' := 112) (lv' := [some (.inr 13), some (.inr 36)]) (st' := [.inl (320 : Int), .inl (0 : Int), .inr 20, .inl (0 : Int), .inr 43]) (M' := M7) (P := True) rfl trivial ?_
  refine a_cpy (md qX3_copyFrom_ok) hz lkX3_153 rfl rfl 0 (by decide) rfl rfl ?_
  refine bnd_elim (G := fun (M8 : Mm) => Aw z 115 [some (.inr 13), some (.inr 36)] [] M8) h (fun M8 h => ?_)
  refine a_run (md qX3_copyFrom_ok) hz 7 [] (pc' := 128) (lv' := [some (.inr 13), some (.inr 36)]) (st' := [.inl (320 : Int), .inl (0 : Int), .inr 21, .inl (0 : Int), .inr 44]) (M' := M8) (P := True) rfl trivial ?_
  refine a_cpy (md qX3_copyFrom_ok) hz lkX3_153 rfl rfl 0 (by decide) rfl rfl ?_
  refine bnd_elim (G := fun (M9 : Mm) => Aw z 131 [some (.inr 13), some (.inr 36)] [] M9) h (fun M9 h => ?_)
  refine a_run (md qX3_copyFrom_ok) hz 7 [] (pc' := 144) (lv' := [some (.inr 13), some (.inr 36)]) (st' := [.inl (320 : Int), .inl (0 : Int), .inr 22, .inl (0 : Int), .inr 45]) (M' := M9) (P := True) rfl trivial ?_
  refine a_cpy (md qX3_copyFrom_ok) hz lkX3_153 rfl rfl 0 (by decide) rfl rfl ?_
  refine bnd_elim (G := fun (M10 : Mm) => Aw z 147 [some (.inr 13), some (.inr 36)] [] M10) h (fun M10 h => ?_)
  refine a_run (md qX3_copyFrom_ok) hz 1 [] (pc' := 148) (lv' := [some (.inr 13), some (.inr 36)]) (st' := [.inr 13]) (M' := M10) (P := True) rfl trivial ?_
  obtain ⟨M11, hr, h⟩ := cal_elim h
  refine a_fV (as := []) (a := 13) (st := []) (mX3_settle_2 z.1 hr) (md qX3_copyFrom_ok) qX3_settle_ok hz lkX3_78 rfl 0 0 (by decide +kernel) rfl rfl rfl rfl ?_
  show Aw z 151 [some (.inr 13), some (.inr 36)] [] M11
  exact a_rv (md qX3_copyFrom_ok) hz hR rfl rfl h
set_option maxRecDepth 100000 in
theorem mX3_copyFrom_2_48 (g : Gx) {M : Mm} {M2 : Mm} (h : fX3_copyFrom 2 48 M = some M2) : Ct g qX3_copyFrom [.inr 13, .inr 59] M (fun r' M' => r' = none ∧ M' = M2) := by
  refine c_ofV h qX3_copyFrom_ok (Nat.le_of_ble_eq_true rfl) (fun z hz Q hR h => ?_)
  unfold fX3_copyFrom at h
  show Aw z 0 [some (.inr 13), some (.inr 59)] [] M
  refine a_run (md qX3_copyFrom_ok) hz 4 [] (pc' := 8) (lv' := [some (.inr 13), some (.inr 59)]) (st' := []) (M' := (up M 13 2 (M 59 2))) (P := True) rfl trivial ?_
  refine bnd_elim (G := fun (M1 : Mm) => Aw z 8 [some (.inr 13), some (.inr 59)] [] M1) h (fun M1 h => ?_)
  refine a_run (md qX3_copyFrom_ok) hz 7 [] (pc' := 20) (lv' := [some (.inr 13), some (.inr 59)]) (st' := [.inl (16 : Int), .inl (0 : Int), .inr 14, .inl (0 : Int), .inr 60]) (M' := M1) (P := True) rfl trivial ?_
  refine a_cpy (md qX3_copyFrom_ok) hz lkX3_153 rfl rfl 0 (by decide) rfl rfl ?_
  refine bnd_elim (G := fun (M2 : Mm) => Aw z 23 [some (.inr 13), some (.inr 59)] [] M2) h (fun M2 h => ?_)
  refine a_run (md qX3_copyFrom_ok) hz 7 [] (pc' := 35) (lv' := [some (.inr 13), some (.inr 59)]) (st' := [.inl (16 : Int), .inl (0 : Int), .inr 15, .inl (0 : Int), .inr 61]) (M' := M2) (P := True) rfl trivial ?_
  refine a_cpy (md qX3_copyFrom_ok) hz lkX3_153 rfl rfl 0 (by decide) rfl rfl ?_
  refine bnd_elim (G := fun (M3 : Mm) => Aw z 38 [some (.inr 13), some (.inr 59)] [] M3) h (fun M3 h => ?_)
  refine a_run (md qX3_copyFrom_ok) hz 7 [] (pc' := 50) (lv' := [some (.inr 13), some (.inr 59)]) (st' := [.inl (16 : Int), .inl (0 : Int), .inr 16, .inl (0 : Int), .inr 62]) (M' := M3) (P := True) rfl trivial ?_
  refine a_cpy (md qX3_copyFrom_ok) hz lkX3_153 rfl rfl 0 (by decide) rfl rfl ?_
  refine bnd_elim (G := fun (M4 : Mm) => Aw z 53 [some (.inr 13), some (.inr 59)] [] M4) h (fun M4 h => ?_)
  refine a_run (md qX3_copyFrom_ok) hz 7 [] (pc' := 65) (lv' := [some (.inr 13), some (.inr 59)]) (st' := [.inl (16 : Int), .inl (0 : Int), .inr 17, .inl (0 : Int), .inr 63]) (M' := M4) (P := True) rfl trivial ?_
  refine a_cpy (md qX3_copyFrom_ok) hz lkX3_153 rfl rfl 0 (by decide) rfl rfl ?_
  refine bnd_elim (G := fun (M5 : Mm) => Aw z 68 [some (.inr 13), some (.inr 59)] [] M5) h (fun M5 h => ?_)
  refine a_run (md qX3_copyFrom_ok) hz 7 [] (pc' := 80) (lv' := [some (.inr 13), some (.inr 59)]) (st' := [.inl (16 : Int), .inl (0 : Int), .inr 18, .inl (0 : Int), .inr 64]) (M' := M5) (P := True) rfl trivial ?_
  refine a_cpy (md qX3_copyFrom_ok) hz lkX3_153 rfl rfl 0 (by decide) rfl rfl ?_
  refine bnd_elim (G := fun (M6 : Mm) => Aw z 83 [some (.inr 13), some (.inr 59)] [] M6) h (fun M6 h => ?_)
  refine a_run (md qX3_copyFrom_ok) hz 7 [] (pc' := 96) (lv' := [some (.inr 13), some (.inr 59)]) (st' := [.inl (320 : Int), .inl (0 : Int), .inr 19, .inl (0 : Int), .inr 65]) (M' := M6) (P := True) rfl trivial ?_
  refine a_cpy (md qX3_copyFrom_ok) hz lkX3_153 rfl rfl 0 (by decide) rfl rfl ?_
  refine bnd_elim (G := fun (M7 : Mm) => Aw z 99 [some (.inr 13), some (.inr 59)] [] M7) h (fun M7 h => ?_)
  refine a_run (md qX3_copyFrom_ok) hz 7 [] (pc' := 112) (lv' := [some (.inr 13), some (.inr 59)]) (st' := [.inl (320 : Int), .inl (0 : Int), .inr 20, .inl (0 : Int), .inr 66]) (M' := M7) (P := True) rfl trivial ?_
  refine a_cpy (md qX3_copyFrom_ok) hz lkX3_153 rfl rfl 0 (by decide) rfl rfl ?_
  refine bnd_elim (G := fun (M8 : Mm) => Aw z 115 [some (.inr 13), some (.inr 59)] [] M8) h (fun M8 h => ?_)
  refine a_run (md qX3_copyFrom_ok) hz 7 [] (pc' := 128) (lv' := [some (.inr 13), some (.inr 59)]) (st' := [.inl (320 : Int), .inl (0 : Int), .inr 21, .inl (0 : Int), .inr 67]) (M' := M8) (P := True) rfl trivial ?_
  refine a_cpy (md qX3_copyFrom_ok) hz lkX3_153 rfl rfl 0 (by decide) rfl rfl ?_
  refine bnd_elim (G := fun (M9 : Mm) => Aw z 131 [some (.inr 13), some (.inr 59)] [] M9) h (fun M9 h => ?_)
  refine a_run (md qX3_copyFrom_ok) hz 7 [] (pc' := 144) (lv' := [some (.inr 13), some (.inr 59)]) (st' := [.inl (320 : Int), .inl (0 : Int), .inr 22, .inl (0 : Int), .inr 68]) (M' := M9) (P := True) rfl trivial ?_
  refine a_cpy (md qX3_copyFrom_ok) hz lkX3_153 rfl rfl 0 (by decide) rfl rfl ?_
  refine bnd_elim (G := fun (M10 : Mm) => Aw z 147 [some (.inr 13), some (.inr 59)] [] M10) h (fun M10 h => ?_)
  refine a_run (md qX3_copyFrom_ok) hz 1 [] (pc' := 148) (lv' := [some (.inr 13), some (.inr 59)]) (st' := [.inr 13]) (M' := M10) (P := True) rfl trivial ?_
  obtain ⟨M11, hr, h⟩ := cal_elim h
  refine a_fV (as := []) (a := 13) (st := []) (mX3_settle_2 z.1 hr) (md qX3_copyFrom_ok) qX3_settle_ok hz lkX3_78 rfl 0 0 (by decide +kernel) rfl rfl rfl rfl ?_
  show Aw z 151 [some (.inr 13), some (.inr 59)] [] M11
  exact a_rv (md qX3_copyFrom_ok) hz hR rfl rfl h
def fX2_copyFrom (b : Nat) (b2 : Nat) (M : Mm) : Option (Mm) := cal (fX0_copyFrom b b2 M) (fun (M1 : Mm) => cal (fX1_copyFrom b b2 M1) (fun (M2 : Mm) => cal (fX3_copyFrom b b2 M2) (fun (M3 : Mm) => some M3)))
set_option maxRecDepth 100000 in
theorem mX2_copyFrom_25_2 (g : Gx) {M : Mm} {M2 : Mm} (h : fX2_copyFrom 25 2 M = some M2) : Ct g qX2_copyFrom [.inr 25, .inr 2] M (fun r' M' => r' = none ∧ M' = M2) := by
  refine c_ofV h qX2_copyFrom_ok (Nat.le_of_ble_eq_true rfl) (fun z hz Q hR h => ?_)
  unfold fX2_copyFrom at h
  show Aw z 0 [some (.inr 25), some (.inr 2)] [] M
  refine a_run (md qX2_copyFrom_ok) hz 4 [] (pc' := 8) (lv' := [some (.inr 25), some (.inr 2)]) (st' := [.inr 3, .inr 26]) (M' := M) (P := True) rfl trivial ?_
  obtain ⟨M1, hr, h⟩ := cal_elim h
  refine a_fV (as := [.inr 3]) (a := 26) (st := []) (mX0_copyFrom_25_2 z.1 hr) (md qX2_copyFrom_ok) qX0_copyFrom_ok hz lkX2_36 rfl 1 0 (by decide +kernel) rfl rfl rfl rfl ?_
  show Aw z 11 [some (.inr 25), some (.inr 2)] [] M1
  refine a_run (md qX2_copyFrom_ok) hz 4 [] (pc' := 19) (lv' := [some (.inr 25), some (.inr 2)]) (st' := [.inr 11, .inr 34]) (M' := M1) (P := True) rfl trivial ?_
  obtain ⟨M2, hr, h⟩ := cal_elim h
  refine a_fV (as := [.inr 11]) (a := 34) (st := []) (mX1_copyFrom_25_2 z.1 hr) (md qX2_copyFrom_ok) qX1_copyFrom_ok hz lkX2_40 rfl 1 0 (by decide +kernel) rfl rfl rfl rfl ?_
  show Aw z 22 [some (.inr 25), some (.inr 2)] [] M2
  refine a_run (md qX2_copyFrom_ok) hz 4 [] (pc' := 30) (lv' := [some (.inr 25), some (.inr 2)]) (st' := [.inr 13, .inr 36]) (M' := M2) (P := True) rfl trivial ?_
  obtain ⟨M3, hr, h⟩ := cal_elim h
  refine a_fV (as := [.inr 13]) (a := 36) (st := []) (mX3_copyFrom_25_2 z.1 hr) (md qX2_copyFrom_ok) qX3_copyFrom_ok hz lkX2_43 rfl 1 0 (by decide +kernel) rfl rfl rfl rfl ?_
  show Aw z 33 [some (.inr 25), some (.inr 2)] [] M3
  exact a_rv (md qX2_copyFrom_ok) hz hR rfl rfl h
set_option maxRecDepth 100000 in
theorem mX2_copyFrom_48_2 (g : Gx) {M : Mm} {M2 : Mm} (h : fX2_copyFrom 48 2 M = some M2) : Ct g qX2_copyFrom [.inr 48, .inr 2] M (fun r' M' => r' = none ∧ M' = M2) := by
  refine c_ofV h qX2_copyFrom_ok (Nat.le_of_ble_eq_true rfl) (fun z hz Q hR h => ?_)
  unfold fX2_copyFrom at h
  show Aw z 0 [some (.inr 48), some (.inr 2)] [] M
  refine a_run (md qX2_copyFrom_ok) hz 4 [] (pc' := 8) (lv' := [some (.inr 48), some (.inr 2)]) (st' := [.inr 3, .inr 49]) (M' := M) (P := True) rfl trivial ?_
  obtain ⟨M1, hr, h⟩ := cal_elim h
  refine a_fV (as := [.inr 3]) (a := 49) (st := []) (mX0_copyFrom_48_2 z.1 hr) (md qX2_copyFrom_ok) qX0_copyFrom_ok hz lkX2_36 rfl 1 0 (by decide +kernel) rfl rfl rfl rfl ?_
  show Aw z 11 [some (.inr 48), some (.inr 2)] [] M1
  refine a_run (md qX2_copyFrom_ok) hz 4 [] (pc' := 19) (lv' := [some (.inr 48), some (.inr 2)]) (st' := [.inr 11, .inr 57]) (M' := M1) (P := True) rfl trivial ?_
  obtain ⟨M2, hr, h⟩ := cal_elim h
  refine a_fV (as := [.inr 11]) (a := 57) (st := []) (mX1_copyFrom_48_2 z.1 hr) (md qX2_copyFrom_ok) qX1_copyFrom_ok hz lkX2_40 rfl 1 0 (by decide +kernel) rfl rfl rfl rfl ?_
  show Aw z 22 [some (.inr 48), some (.inr 2)] [] M2
  refine a_run (md qX2_copyFrom_ok) hz 4 [] (pc' := 30) (lv' := [some (.inr 48), some (.inr 2)]) (st' := [.inr 13, .inr 59]) (M' := M2) (P := True) rfl trivial ?_
  obtain ⟨M3, hr, h⟩ := cal_elim h
  refine a_fV (as := [.inr 13]) (a := 59) (st := []) (mX3_copyFrom_48_2 z.1 hr) (md qX2_copyFrom_ok) qX3_copyFrom_ok hz lkX2_43 rfl 1 0 (by decide +kernel) rfl rfl rfl rfl ?_
  show Aw z 33 [some (.inr 48), some (.inr 2)] [] M3
  exact a_rv (md qX2_copyFrom_ok) hz hR rfl rfl h
set_option maxRecDepth 100000 in
theorem mX2_copyFrom_2_25 (g : Gx) {M : Mm} {M2 : Mm} (h : fX2_copyFrom 2 25 M = some M2) : Ct g qX2_copyFrom [.inr 2, .inr 25] M (fun r' M' => r' = none ∧ M' = M2) := by
  refine c_ofV h qX2_copyFrom_ok (Nat.le_of_ble_eq_true rfl) (fun z hz Q hR h => ?_)
  unfold fX2_copyFrom at h
  show Aw z 0 [some (.inr 2), some (.inr 25)] [] M
  refine a_run (md qX2_copyFrom_ok) hz 4 [] (pc' := 8) (lv' := [some (.inr 2), some (.inr 25)]) (st' := [.inr 26, .inr 3]) (M' := M) (P := True) rfl trivial ?_
  obtain ⟨M1, hr, h⟩ := cal_elim h
  refine a_fV (as := [.inr 26]) (a := 3) (st := []) (mX0_copyFrom_2_25 z.1 hr) (md qX2_copyFrom_ok) qX0_copyFrom_ok hz lkX2_36 rfl 1 0 (by decide +kernel) rfl rfl rfl rfl ?_
  show Aw z 11 [some (.inr 2), some (.inr 25)] [] M1
  refine a_run (md qX2_copyFrom_ok) hz 4 [] (pc' := 19) (lv' := [some (.inr 2), some (.inr 25)]) (st' := [.inr 34, .inr 11]) (M' := M1) (P := True) rfl trivial ?_
  obtain ⟨M2, hr, h⟩ := cal_elim h
  refine a_fV (as := [.inr 34]) (a := 11) (st := []) (mX1_copyFrom_2_25 z.1 hr) (md qX2_copyFrom_ok) qX1_copyFrom_ok hz lkX2_40 rfl 1 0 (by decide +kernel) rfl rfl rfl rfl ?_
  show Aw z 22 [some (.inr 2), some (.inr 25)] [] M2
  refine a_run (md qX2_copyFrom_ok) hz 4 [] (pc' := 30) (lv' := [some (.inr 2), some (.inr 25)]) (st' := [.inr 36, .inr 13]) (M' := M2) (P := True) rfl trivial ?_
  obtain ⟨M3, hr, h⟩ := cal_elim h
  refine a_fV (as := [.inr 36]) (a := 13) (st := []) (mX3_copyFrom_2_25 z.1 hr) (md qX2_copyFrom_ok) qX3_copyFrom_ok hz lkX2_43 rfl 1 0 (by decide +kernel) rfl rfl rfl rfl ?_
  show Aw z 33 [some (.inr 2), some (.inr 25)] [] M3
  exact a_rv (md qX2_copyFrom_ok) hz hR rfl rfl h
set_option maxRecDepth 100000 in
theorem mX2_copyFrom_2_48 (g : Gx) {M : Mm} {M2 : Mm} (h : fX2_copyFrom 2 48 M = some M2) : Ct g qX2_copyFrom [.inr 2, .inr 48] M (fun r' M' => r' = none ∧ M' = M2) := by
  refine c_ofV h qX2_copyFrom_ok (Nat.le_of_ble_eq_true rfl) (fun z hz Q hR h => ?_)
  unfold fX2_copyFrom at h
  show Aw z 0 [some (.inr 2), some (.inr 48)] [] M
  refine a_run (md qX2_copyFrom_ok) hz 4 [] (pc' := 8) (lv' := [some (.inr 2), some (.inr 48)]) (st' := [.inr 49, .inr 3]) (M' := M) (P := True) rfl trivial ?_
  obtain ⟨M1, hr, h⟩ := cal_elim h
  refine a_fV (as := [.inr 49]) (a := 3) (st := []) (mX0_copyFrom_2_48 z.1 hr) (md qX2_copyFrom_ok) qX0_copyFrom_ok hz lkX2_36 rfl 1 0 (by decide +kernel) rfl rfl rfl rfl ?_
  show Aw z 11 [some (.inr 2), some (.inr 48)] [] M1
  refine a_run (md qX2_copyFrom_ok) hz 4 [] (pc' := 19) (lv' := [some (.inr 2), some (.inr 48)]) (st' := [.inr 57, .inr 11]) (M' := M1) (P := True) rfl trivial ?_
  obtain ⟨M2, hr, h⟩ := cal_elim h
  refine a_fV (as := [.inr 57]) (a := 11) (st := []) (mX1_copyFrom_2_48 z.1 hr) (md qX2_copyFrom_ok) qX1_copyFrom_ok hz lkX2_40 rfl 1 0 (by decide +kernel) rfl rfl rfl rfl ?_
  show Aw z 22 [some (.inr 2), some (.inr 48)] [] M2
  refine a_run (md qX2_copyFrom_ok) hz 4 [] (pc' := 30) (lv' := [some (.inr 2), some (.inr 48)]) (st' := [.inr 59, .inr 13]) (M' := M2) (P := True) rfl trivial ?_
  obtain ⟨M3, hr, h⟩ := cal_elim h
  refine a_fV (as := [.inr 59]) (a := 13) (st := []) (mX3_copyFrom_2_48 z.1 hr) (md qX2_copyFrom_ok) qX3_copyFrom_ok hz lkX2_43 rfl 1 0 (by decide +kernel) rfl rfl rfl rfl ?_
  show Aw z 33 [some (.inr 2), some (.inr 48)] [] M3
  exact a_rv (md qX2_copyFrom_ok) hz hR rfl rfl h
def fX3_lastFixed_L7 (M : Mm) : Nat → Int → Option (Int)
  | 0, _ => none
  | n + 1, v2 => if v2 < 0 then some (-6 : Int) else cal (fX3_isGap 2 M v2) (fun (r3 : Int) => if r3 = 0 then some v2 else gd ((inR (v2 + (-1 : Int)))) (fX3_lastFixed_L7 M n (v2 + (-1 : Int))))
def fX3_lastFixed (M : Mm) : Option (Int) := gd ((inR ((M 13 2) - (1 : Int)))) (bnd ((M 13 2) - (1 : Int)) (fun (t1 : Int) => fX3_lastFixed_L7 M 1000 t1))
set_option maxRecDepth 100000 in
theorem mX3_lastFixed_L7 {z : Zx} (hz : Cx qX3_lastFixed z) {Q : Option Int → Mm → Prop} (hR : Rt Q z) {M : Mm} : ∀ (n : Nat) (v2 : Int), OK (fX3_lastFixed_L7 M n v2) (fun r2 => Q (some r2) M) → Aw z 7 [some (.inr 13), some (.inl v2)] [] M := by
  intro n
  induction n with
  | zero =>
    intro v2 h
    exact (show False from h).elim
  | succ n ih =>
    intro v2 h
    unfold fX3_lastFixed_L7 at h
    refine ite_elim h (fun hc h => ?_) (fun hc h => ?_)
    · refine a_run (md qX3_lastFixed_ok) hz 2 [1] (pc' := 27) (lv' := [some (.inr 13), some (.inl v2)]) (st' := []) (M' := M) (P := (v2 < 0) ∧ True) rfl ⟨hc, trivial⟩ ?_
      refine a_run (md qX3_lastFixed_ok) hz 1 [] (pc' := 29) (lv' := [some (.inr 13), some (.inl v2)]) (st' := [.inl (-6 : Int)]) (M' := M) (P := True) rfl trivial ?_
      exact a_ri (md qX3_lastFixed_ok) hz hR rfl (Or.inl rfl) h
    · refine a_run (md qX3_lastFixed_ok) hz 2 [0] (pc' := 11) (lv' := [some (.inr 13), some (.inl v2)]) (st' := []) (M' := M) (P := (¬ (v2 < 0)) ∧ True) rfl ⟨hc, trivial⟩ ?_
      refine a_run (md qX3_lastFixed_ok) hz 2 [] (pc' := 13) (lv' := [some (.inr 13), some (.inl v2)]) (st' := [.inl v2, .inr 13]) (M' := M) (P := True) rfl trivial ?_
      obtain ⟨r3, hr, h⟩ := cal_elim h
      refine a_fV (as := [.inl v2]) (a := 13) (st := []) (mX3_isGap_2 z.1 hr) (md qX3_lastFixed_ok) qX3_isGap_ok hz lkX3_81 rfl 1 0 (by decide +kernel) rfl rfl rfl rfl ?_
      show Aw z 16 [some (.inr 13), some (.inl v2)] [.inl r3] M
      refine ite_elim h (fun hc h => ?_) (fun hc h => ?_)
      · refine a_run (md qX3_lastFixed_ok) hz 1 [0] (pc' := 19) (lv' := [some (.inr 13), some (.inl v2)]) (st' := []) (M' := M) (P := (¬ ¬ r3 = 0) ∧ True) rfl ⟨fun h9 => h9 hc, trivial⟩ ?_
        refine a_run (md qX3_lastFixed_ok) hz 1 [] (pc' := 20) (lv' := [some (.inr 13), some (.inl v2)]) (st' := [.inl v2]) (M' := M) (P := True) rfl trivial ?_
        exact a_ri (md qX3_lastFixed_ok) hz hR rfl (Or.inl rfl) h
      · refine a_run (md qX3_lastFixed_ok) hz 1 [1] (pc' := 21) (lv' := [some (.inr 13), some (.inl v2)]) (st' := []) (M' := M) (P := (¬ r3 = 0) ∧ True) rfl ⟨hc, trivial⟩ ?_
        obtain ⟨h4, h⟩ := gd_elim h
        refine a_run (md qX3_lastFixed_ok) hz 2 [] (pc' := 7) (lv' := [some (.inr 13), some (.inl (v2 + (-1 : Int)))]) (st' := []) (M' := M) (P := (inR (v2 + (-1 : Int))) ∧ True) rfl ⟨h4, trivial⟩ ?_
        refine a_mask [true, true] ?_
        exact ih (v2 + (-1 : Int)) h
set_option maxRecDepth 100000 in
theorem mX3_lastFixed (g : Gx) {M : Mm} {r : Int} (h : fX3_lastFixed M = some r) : Ct g qX3_lastFixed [.inr 13] M (fun r' M' => r' = some r ∧ M' = M) := by
  refine c_ofP h qX3_lastFixed_ok (Nat.le_of_ble_eq_true rfl) (fun z hz Q hR h => ?_)
  unfold fX3_lastFixed at h
  show Aw z 0 [some (.inr 13), none] [] M
  obtain ⟨h5, h⟩ := gd_elim h
  refine a_run (md qX3_lastFixed_ok) hz 5 [] (pc' := 7) (lv' := [some (.inr 13), some (.inl ((M 13 2) - (1 : Int)))]) (st' := []) (M' := M) (P := (inR ((M 13 2) - (1 : Int))) ∧ True) rfl ⟨h5, trivial⟩ ?_
  refine bnd_elim (G := fun (t1 : Int) => Aw z 7 [some (.inr 13), some (.inl t1)] [] M) h (fun t1 h => ?_)
  refine a_mask [true, true] ?_
  refine mX3_lastFixed_L7 hz hR  1000 t1 h
def fX3_findCandidates_L4 (x1 : Int) (k102 : Int → Mm → Option (Mm)) : Nat → Int → Int → Mm → Option (Mm)
  | 0, _, _, _ => none
  | n + 1, v1, v2, M3 => if (M3 3 1) ≤ v2 then k102 v1 M3 else jn (fun (v8 : Int) (v9 : Int) (M10 : Mm) => gd ((inR (v9 + (1 : Int)))) (fX3_findCandidates_L4 x1 k102 n v8 (v9 + (1 : Int)) M10)) (fun (K11 : Int → Int → Mm → Option (Mm)) => gd ((0 ≤ x1 ∧ x1 < 16) ∧ (0 ≤ x1 ∧ x1 < 16)) (cal (fX0_apartFromRoad M3 v2 (M3 14 x1.toNat) (M3 15 x1.toNat)) (fun (r13 : Int) => if (M3 12 (0 : Int).toNat) < r13 then K11 v1 v2 M3 else cal (fX3_slot M3 x1 v1) (fun (r14 : Int) => gd ((0 ≤ x1 ∧ x1 < 16) ∧ (0 ≤ x1 ∧ x1 < 16)) (cal (fX0_nearestSpot M3 v2 (M3 14 x1.toNat) (M3 15 x1.toNat)) (fun (r15 : Int) => gd ((0 ≤ r14 ∧ r14 < 320)) (bnd (up M3 19 r14.toNat r15) (fun (M16 : Mm) => cal (fX3_slot M16 x1 v1) (fun (r17 : Int) => gd ((0 ≤ r17 ∧ r17 < 320)) (bnd (up M16 20 r17.toNat r13) (fun (M18 : Mm) => gd ((inR (v1 + (1 : Int)))) (K11 (v1 + (1 : Int)) v2 M18))))))))))))
def fX3_findCandidates (M : Mm) (x1 : Int) : Option (Mm) := fX3_findCandidates_L4 x1 (fun (v4 : Int) (M5 : Mm) => gd ((0 ≤ x1 ∧ x1 < 16)) (bnd (up M5 16 x1.toNat v4) (fun (M6 : Mm) => some M6))) 1000 (0 : Int) (0 : Int) M
set_option maxRecDepth 100000 in
theorem mX3_findCandidates_L4 {z : Zx} (hz : Cx qX3_findCandidates z) {Q : Option Int → Mm → Prop} (hR : Rt Q z) {x1 : Int} {k102 : Int → Mm → Option (Mm)} (hk102 : ∀ (v4 : Int), ∀ (M5 : Mm), OK (k102 v4 M5) (fun r2 => Q none r2) → Aw z 102 [some (.inr 13), some (.inl x1), some (.inl v4), none, none] [] M5) : ∀ (n : Nat) (v1 : Int) (v2 : Int) (M3 : Mm), OK (fX3_findCandidates_L4 x1 k102 n v1 v2 M3) (fun r2 => Q none r2) → Aw z 4 [some (.inr 13), some (.inl x1), some (.inl v1), some (.inl v2), none] [] M3 := by
  intro n
  induction n with
  | zero =>
    intro v1 v2 M3 h
    exact (show False from h).elim
  | succ n ih =>
    intro v1 v2 M3 h
    unfold fX3_findCandidates_L4 at h
    refine ite_elim h (fun hc h => ?_) (fun hc h => ?_)
    · refine a_run (md qX3_findCandidates_ok) hz 5 [1] (pc' := 102) (lv' := [some (.inr 13), some (.inl x1), some (.inl v1), some (.inl v2), none]) (st' := []) (M' := M3) (P := ((M3 3 1) ≤ v2) ∧ True) rfl ⟨hc, trivial⟩ ?_
      refine a_mask [true, true, true, false, false] ?_
      exact hk102 v1 M3 h
    · refine a_run (md qX3_findCandidates_ok) hz 5 [0] (pc' := 15) (lv' := [some (.inr 13), some (.inl x1), some (.inl v1), some (.inl v2), none]) (st' := []) (M' := M3) (P := (¬ ((M3 3 1) ≤ v2)) ∧ True) rfl ⟨hc, trivial⟩ ?_
      refine jn_elim h (fun (K11 : Int → Int → Mm → Option (Mm)) => ∀ (v8 : Int), ∀ (v9 : Int), ∀ (M10 : Mm), OK (K11 v8 v9 M10) (fun r2 => Q none r2) → Aw z 96 [some (.inr 13), some (.inl x1), some (.inl v8), some (.inl v9), none] [] M10) (fun v8 v9 M10 h => ?_) (fun K11 hK11 h => ?_)
      · obtain ⟨h12, h⟩ := gd_elim h
        refine a_run (md qX3_findCandidates_ok) hz 2 [] (pc' := 4) (lv' := [some (.inr 13), some (.inl x1), some (.inl v8), some (.inl (v9 + (1 : Int))), none]) (st' := []) (M' := M10) (P := (inR (v9 + (1 : Int))) ∧ True) rfl ⟨h12, trivial⟩ ?_
        refine a_mask [true, true, true, true, false] ?_
        exact ih v8 (v9 + (1 : Int)) M10 h
      · obtain ⟨⟨h24, h25⟩, h⟩ := gd_elim h
        refine a_run (md qX3_findCandidates_ok) hz 11 [] (pc' := 32) (lv' := [some (.inr 13), some (.inl x1), some (.inl v1), some (.inl v2), none]) (st' := [.inl (M3 15 x1.toNat), .inl (M3 14 x1.toNat), .inl v2, .inr 3]) (M' := M3) (P := (0 ≤ x1 ∧ x1 < 16) ∧ (0 ≤ x1 ∧ x1 < 16) ∧ True) rfl ⟨h24, h25, trivial⟩ ?_
        obtain ⟨r13, hr, h⟩ := cal_elim h
        refine a_fV (as := [.inl v2, .inl (M3 14 x1.toNat), .inl (M3 15 x1.toNat)]) (a := 3) (st := []) (mX0_apartFromRoad z.1 hr) (md qX3_findCandidates_ok) qX0_apartFromRoad_ok hz lkX3_89 rfl 3 0 (by decide +kernel) rfl rfl rfl rfl ?_
        show Aw z 35 [some (.inr 13), some (.inl x1), some (.inl v1), some (.inl v2), none] [.inl r13] M3
        refine ite_elim h (fun hc h => ?_) (fun hc h => ?_)
        · refine a_run (md qX3_findCandidates_ok) hz 8 [1] (pc' := 96) (lv' := [some (.inr 13), some (.inl x1), some (.inl v1), some (.inl v2), some (.inl r13)]) (st' := []) (M' := M3) (P := (0 ≤ (0 : Int) ∧ (0 : Int) < 4) ∧ ((M3 12 (0 : Int).toNat) < r13) ∧ True) rfl ⟨by decide, hc, trivial⟩ ?_
          refine a_mask [true, true, true, true, false] ?_
          exact hK11 v1 v2 M3 h
        · refine a_run (md qX3_findCandidates_ok) hz 8 [0] (pc' := 51) (lv' := [some (.inr 13), some (.inl x1), some (.inl v1), some (.inl v2), some (.inl r13)]) (st' := []) (M' := M3) (P := (0 ≤ (0 : Int) ∧ (0 : Int) < 4) ∧ (¬ ((M3 12 (0 : Int).toNat) < r13)) ∧ True) rfl ⟨by decide, hc, trivial⟩ ?_
          refine a_run (md qX3_findCandidates_ok) hz 4 [] (pc' := 57) (lv' := [some (.inr 13), some (.inl x1), some (.inl v1), some (.inl v2), some (.inl r13)]) (st' := [.inl v1, .inl x1, .inr 19]) (M' := M3) (P := True) rfl trivial ?_
          obtain ⟨r14, hr, h⟩ := cal_elim h
          refine a_fS (as := [.inl x1, .inl v1]) (st := [.inr 19]) (mX3_slot z.1 hr) (md qX3_findCandidates_ok) qX3_slot_ok hz lkX3_98 rfl 2 1 (by decide +kernel) rfl rfl ?_
          show Aw z 60 [some (.inr 13), some (.inl x1), some (.inl v1), some (.inl v2), some (.inl r13)] [.inl r14, .inr 19] M3
          obtain ⟨⟨h22, h23⟩, h⟩ := gd_elim h
          refine a_run (md qX3_findCandidates_ok) hz 11 [] (pc' := 77) (lv' := [some (.inr 13), some (.inl x1), some (.inl v1), some (.inl v2), some (.inl r13)]) (st' := [.inl (M3 15 x1.toNat), .inl (M3 14 x1.toNat), .inl v2, .inr 3, .inl r14, .inr 19]) (M' := M3) (P := (0 ≤ x1 ∧ x1 < 16) ∧ (0 ≤ x1 ∧ x1 < 16) ∧ True) rfl ⟨h22, h23, trivial⟩ ?_
          obtain ⟨r15, hr, h⟩ := cal_elim h
          refine a_fV (as := [.inl v2, .inl (M3 14 x1.toNat), .inl (M3 15 x1.toNat)]) (a := 3) (st := [.inl r14, .inr 19]) (mX0_nearestSpot z.1 hr) (md qX3_findCandidates_ok) qX0_nearestSpot_ok hz lkX3_102 rfl 3 2 (by decide +kernel) rfl rfl rfl rfl ?_
          show Aw z 80 [some (.inr 13), some (.inl x1), some (.inl v1), some (.inl v2), some (.inl r13)] [.inl r15, .inl r14, .inr 19] M3
          obtain ⟨h21, h⟩ := gd_elim h
          refine a_run (md qX3_findCandidates_ok) hz 1 [] (pc' := 81) (lv' := [some (.inr 13), some (.inl x1), some (.inl v1), some (.inl v2), some (.inl r13)]) (st' := []) (M' := (up M3 19 r14.toNat r15)) (P := (0 ≤ r14 ∧ r14 < 320) ∧ True) rfl ⟨h21, trivial⟩ ?_
          refine bnd_elim (G := fun (M16 : Mm) => Aw z 81 [some (.inr 13), some (.inl x1), some (.inl v1), some (.inl v2), some (.inl r13)] [] M16) h (fun M16 h => ?_)
          refine a_run (md qX3_findCandidates_ok) hz 4 [] (pc' := 87) (lv' := [some (.inr 13), some (.inl x1), some (.inl v1), some (.inl v2), some (.inl r13)]) (st' := [.inl v1, .inl x1, .inr 20]) (M' := M16) (P := True) rfl trivial ?_
          obtain ⟨r17, hr, h⟩ := cal_elim h
          refine a_fS (as := [.inl x1, .inl v1]) (st := [.inr 20]) (mX3_slot z.1 hr) (md qX3_findCandidates_ok) qX3_slot_ok hz lkX3_98 rfl 2 1 (by decide +kernel) rfl rfl ?_
          show Aw z 90 [some (.inr 13), some (.inl x1), some (.inl v1), some (.inl v2), some (.inl r13)] [.inl r17, .inr 20] M16
          obtain ⟨h20, h⟩ := gd_elim h
          refine a_run (md qX3_findCandidates_ok) hz 2 [] (pc' := 93) (lv' := [some (.inr 13), some (.inl x1), some (.inl v1), some (.inl v2), some (.inl r13)]) (st' := []) (M' := (up M16 20 r17.toNat r13)) (P := (0 ≤ r17 ∧ r17 < 320) ∧ True) rfl ⟨h20, trivial⟩ ?_
          refine bnd_elim (G := fun (M18 : Mm) => Aw z 93 [some (.inr 13), some (.inl x1), some (.inl v1), some (.inl v2), some (.inl r13)] [] M18) h (fun M18 h => ?_)
          obtain ⟨h19, h⟩ := gd_elim h
          refine a_run (md qX3_findCandidates_ok) hz 1 [] (pc' := 96) (lv' := [some (.inr 13), some (.inl x1), some (.inl (v1 + (1 : Int))), some (.inl v2), some (.inl r13)]) (st' := []) (M' := M18) (P := (inR (v1 + (1 : Int))) ∧ True) rfl ⟨h19, trivial⟩ ?_
          refine a_mask [true, true, true, true, false] ?_
          exact hK11 (v1 + (1 : Int)) v2 M18 h
set_option maxRecDepth 100000 in
theorem mX3_findCandidates (g : Gx) {M : Mm} {x1 : Int} {M2 : Mm} (h : fX3_findCandidates M x1 = some M2) : Ct g qX3_findCandidates [.inr 13, .inl x1] M (fun r' M' => r' = none ∧ M' = M2) := by
  refine c_ofV h qX3_findCandidates_ok (Nat.le_of_ble_eq_true rfl) (fun z hz Q hR h => ?_)
  unfold fX3_findCandidates at h
  show Aw z 0 [some (.inr 13), some (.inl x1), none, none, none] [] M
  refine a_run (md qX3_findCandidates_ok) hz 4 [] (pc' := 4) (lv' := [some (.inr 13), some (.inl x1), some (.inl (0 : Int)), some (.inl (0 : Int)), none]) (st' := []) (M' := M) (P := True) rfl trivial ?_
  refine a_mask [true, true, true, true, false] ?_
  refine mX3_findCandidates_L4 hz hR (fun v4 M5 h => ?_) 1000 (0 : Int) (0 : Int) M h
  · obtain ⟨h7, h⟩ := gd_elim h
    refine a_run (md qX3_findCandidates_ok) hz 5 [] (pc' := 109) (lv' := [some (.inr 13), some (.inl x1), some (.inl v4), none, none]) (st' := []) (M' := (up M5 16 x1.toNat v4)) (P := (0 ≤ x1 ∧ x1 < 16) ∧ True) rfl ⟨h7, trivial⟩ ?_
    refine bnd_elim (G := fun (M6 : Mm) => Aw z 109 [some (.inr 13), some (.inl x1), some (.inl v4), none, none] [] M6) h (fun M6 h => ?_)
    exact a_rv (md qX3_findCandidates_ok) hz hR rfl rfl h
def fX3_beginPiece_L9 (x1 : Int) (x2 : Int) : Nat → Int → Mm → Option (Mm)
  | 0, _, _ => none
  | n + 1, v2, M3 => gd ((0 ≤ x1 ∧ x1 < 16)) (if (M3 16 x1.toNat) ≤ v2 then some M3 else cal (fX3_slot M3 x1 v2) (fun (r4 : Int) => cal (fX3_slot M3 x1 v2) (fun (r5 : Int) => gd ((0 ≤ r5 ∧ r5 < 320) ∧ (inR ((M3 12 (1 : Int).toNat) * (M3 20 r5.toNat))) ∧ (0 ≤ r4 ∧ r4 < 320)) (bnd (up M3 21 r4.toNat ((M3 12 (1 : Int).toNat) * (M3 20 r5.toNat))) (fun (M6 : Mm) => cal (fX3_slot M6 x1 v2) (fun (r7 : Int) => gd ((0 ≤ r7 ∧ r7 < 320)) (bnd (up M6 22 r7.toNat (-6 : Int)) (fun (M8 : Mm) => gd ((inR (v2 + (1 : Int)))) (fX3_beginPiece_L9 x1 x2 n (v2 + (1 : Int)) M8)))))))))
def fX3_beginPiece (M : Mm) (x1 : Int) (x2 : Int) : Option (Mm) := gd ((0 ≤ x1 ∧ x1 < 16)) (bnd (up M 17 x1.toNat x2) (fun (M1 : Mm) => fX3_beginPiece_L9 x1 x2 1000 (0 : Int) M1))
set_option maxRecDepth 100000 in
theorem mX3_beginPiece_L9 {z : Zx} (hz : Cx qX3_beginPiece z) {Q : Option Int → Mm → Prop} (hR : Rt Q z) {x1 : Int} {x2 : Int} : ∀ (n : Nat) (v2 : Int) (M3 : Mm), OK (fX3_beginPiece_L9 x1 x2 n v2 M3) (fun r2 => Q none r2) → Aw z 9 [some (.inr 13), some (.inl x1), none, some (.inl v2)] [] M3 := by
  intro n
  induction n with
  | zero =>
    intro v2 M3 h
    exact (show False from h).elim
  | succ n ih =>
    intro v2 M3 h
    unfold fX3_beginPiece_L9 at h
    obtain ⟨h14, h⟩ := gd_elim h
    refine ite_elim h (fun hc h => ?_) (fun hc h => ?_)
    · refine a_run (md qX3_beginPiece_ok) hz 6 [1] (pc' := 67) (lv' := [some (.inr 13), some (.inl x1), none, some (.inl v2)]) (st' := []) (M' := M3) (P := (0 ≤ x1 ∧ x1 < 16) ∧ ((M3 16 x1.toNat) ≤ v2) ∧ True) rfl ⟨h14, hc, trivial⟩ ?_
      exact a_rv (md qX3_beginPiece_ok) hz hR rfl rfl h
    · refine a_run (md qX3_beginPiece_ok) hz 6 [0] (pc' := 19) (lv' := [some (.inr 13), some (.inl x1), none, some (.inl v2)]) (st' := []) (M' := M3) (P := (0 ≤ x1 ∧ x1 < 16) ∧ (¬ ((M3 16 x1.toNat) ≤ v2)) ∧ True) rfl ⟨h14, hc, trivial⟩ ?_
      refine a_run (md qX3_beginPiece_ok) hz 4 [] (pc' := 25) (lv' := [some (.inr 13), some (.inl x1), none, some (.inl v2)]) (st' := [.inl v2, .inl x1, .inr 21]) (M' := M3) (P := True) rfl trivial ?_
      obtain ⟨r4, hr, h⟩ := cal_elim h
      refine a_fS (as := [.inl x1, .inl v2]) (st := [.inr 21]) (mX3_slot z.1 hr) (md qX3_beginPiece_ok) qX3_slot_ok hz lkX3_98 rfl 2 1 (by decide +kernel) rfl rfl ?_
      show Aw z 28 [some (.inr 13), some (.inl x1), none, some (.inl v2)] [.inl r4, .inr 21] M3
      refine a_run (md qX3_beginPiece_ok) hz 9 [] (pc' := 43) (lv' := [some (.inr 13), some (.inl x1), none, some (.inl v2)]) (st' := [.inl v2, .inl x1, .inr 20, .inl (M3 12 (1 : Int).toNat), .inl r4, .inr 21]) (M' := M3) (P := (0 ≤ (1 : Int) ∧ (1 : Int) < 4) ∧ True) rfl ⟨by decide, trivial⟩ ?_
      obtain ⟨r5, hr, h⟩ := cal_elim h
      refine a_fS (as := [.inl x1, .inl v2]) (st := [.inr 20, .inl (M3 12 (1 : Int).toNat), .inl r4, .inr 21]) (mX3_slot z.1 hr) (md qX3_beginPiece_ok) qX3_slot_ok hz lkX3_98 rfl 2 4 (by decide +kernel) rfl rfl ?_
      show Aw z 46 [some (.inr 13), some (.inl x1), none, some (.inl v2)] [.inl r5, .inr 20, .inl (M3 12 (1 : Int).toNat), .inl r4, .inr 21] M3
      obtain ⟨⟨h11, h12, h13⟩, h⟩ := gd_elim h
      refine a_run (md qX3_beginPiece_ok) hz 3 [] (pc' := 49) (lv' := [some (.inr 13), some (.inl x1), none, some (.inl v2)]) (st' := []) (M' := (up M3 21 r4.toNat ((M3 12 (1 : Int).toNat) * (M3 20 r5.toNat)))) (P := (0 ≤ r5 ∧ r5 < 320) ∧ (inR ((M3 12 (1 : Int).toNat) * (M3 20 r5.toNat))) ∧ (0 ≤ r4 ∧ r4 < 320) ∧ True) rfl ⟨h11, h12, h13, trivial⟩ ?_
      refine bnd_elim (G := fun (M6 : Mm) => Aw z 49 [some (.inr 13), some (.inl x1), none, some (.inl v2)] [] M6) h (fun M6 h => ?_)
      refine a_run (md qX3_beginPiece_ok) hz 4 [] (pc' := 55) (lv' := [some (.inr 13), some (.inl x1), none, some (.inl v2)]) (st' := [.inl v2, .inl x1, .inr 22]) (M' := M6) (P := True) rfl trivial ?_
      obtain ⟨r7, hr, h⟩ := cal_elim h
      refine a_fS (as := [.inl x1, .inl v2]) (st := [.inr 22]) (mX3_slot z.1 hr) (md qX3_beginPiece_ok) qX3_slot_ok hz lkX3_98 rfl 2 1 (by decide +kernel) rfl rfl ?_
      show Aw z 58 [some (.inr 13), some (.inl x1), none, some (.inl v2)] [.inl r7, .inr 22] M6
      obtain ⟨h10, h⟩ := gd_elim h
      refine a_run (md qX3_beginPiece_ok) hz 2 [] (pc' := 61) (lv' := [some (.inr 13), some (.inl x1), none, some (.inl v2)]) (st' := []) (M' := (up M6 22 r7.toNat (-6 : Int))) (P := (0 ≤ r7 ∧ r7 < 320) ∧ True) rfl ⟨h10, trivial⟩ ?_
      refine bnd_elim (G := fun (M8 : Mm) => Aw z 61 [some (.inr 13), some (.inl x1), none, some (.inl v2)] [] M8) h (fun M8 h => ?_)
      obtain ⟨h9, h⟩ := gd_elim h
      refine a_run (md qX3_beginPiece_ok) hz 2 [] (pc' := 9) (lv' := [some (.inr 13), some (.inl x1), none, some (.inl (v2 + (1 : Int)))]) (st' := []) (M' := M8) (P := (inR (v2 + (1 : Int))) ∧ True) rfl ⟨h9, trivial⟩ ?_
      refine a_mask [true, true, false, true] ?_
      exact ih (v2 + (1 : Int)) M8 h
set_option maxRecDepth 100000 in
theorem mX3_beginPiece (g : Gx) {M : Mm} {x1 : Int} {x2 : Int} {M2 : Mm} (h : fX3_beginPiece M x1 x2 = some M2) : Ct g qX3_beginPiece [.inr 13, .inl x1, .inl x2] M (fun r' M' => r' = none ∧ M' = M2) := by
  refine c_ofV h qX3_beginPiece_ok (Nat.le_of_ble_eq_true rfl) (fun z hz Q hR h => ?_)
  unfold fX3_beginPiece at h
  show Aw z 0 [some (.inr 13), some (.inl x1), some (.inl x2), none] [] M
  obtain ⟨h15, h⟩ := gd_elim h
  refine a_run (md qX3_beginPiece_ok) hz 5 [] (pc' := 7) (lv' := [some (.inr 13), some (.inl x1), some (.inl x2), none]) (st' := []) (M' := (up M 17 x1.toNat x2)) (P := (0 ≤ x1 ∧ x1 < 16) ∧ True) rfl ⟨h15, trivial⟩ ?_
  refine bnd_elim (G := fun (M1 : Mm) => Aw z 7 [some (.inr 13), some (.inl x1), some (.inl x2), none] [] M1) h (fun M1 h => ?_)
  refine a_run (md qX3_beginPiece_ok) hz 2 [] (pc' := 9) (lv' := [some (.inr 13), some (.inl x1), some (.inl x2), some (.inl (0 : Int))]) (st' := []) (M' := M1) (P := True) rfl trivial ?_
  refine a_mask [true, true, false, true] ?_
  refine mX3_beginPiece_L9 hz hR  1000 (0 : Int) M1 h
def fX3_joinCandidate_L46 (x1 : Int) (x2 : Int) (x3 : Int) (k190 : Int → Int → Mm → Option (Mm)) : Nat → Int → Int → Int → Int → Mm → Option (Mm)
  | 0, _, _, _, _, _ => none
  | n + 1, v4, v5, v6, v7, M8 => gd ((0 ≤ x3 ∧ x3 < 16)) (if (M8 16 x3.toNat) ≤ v7 then k190 v5 v6 M8 else jn (fun (v28 : Int) (v29 : Int) (v30 : Int) (v31 : Int) (v32 : Int) (w33 : Int) (M34 : Mm) => jn (fun (v36 : Int) (v37 : Int) (v38 : Int) (v39 : Int) (M40 : Mm) => gd ((inR (v39 + (1 : Int)))) (fX3_joinCandidate_L46 x1 x2 x3 k190 n v36 v37 v38 (v39 + (1 : Int)) M40)) (fun (K41 : Int → Int → Int → Int → Mm → Option (Mm)) => if w33 = (-6 : Int) then K41 v28 v29 v30 v31 M34 else gd ((inR (v28 + (M34 12 (3 : Int).toNat)))) (if w33 ≤ (v28 + (M34 12 (3 : Int).toNat)) then jn (fun (v43 : Int) (v44 : Int) (v45 : Int) (M46 : Mm) => K41 v43 v45 v44 v44 M46) (fun (K47 : Int → Int → Int → Mm → Option (Mm)) => gd ((inR (w33 - v28)) ∧ (inR (-(w33 - v28)))) (gd ((inR ((M34 12 (2 : Int).toNat) * (iabs (w33 - v28)))) ∧ (inR (v32 + ((M34 12 (2 : Int).toNat) * (iabs (w33 - v28)))))) (bnd (v32 + ((M34 12 (2 : Int).toNat) * (iabs (w33 - v28)))) (fun (t49 : Int) => if v29 = (-6 : Int) then K47 v28 v31 t49 M34 else if v29 ≤ t49 then K41 v28 v29 v30 v31 M34 else K47 v28 v31 t49 M34)))) else K41 v28 v29 v30 v31 M34))) (fun (K35 : Int → Int → Int → Int → Int → Int → Mm → Option (Mm)) => cal (fX3_slot M8 x3 v7) (fun (r54 : Int) => gd ((0 ≤ r54 ∧ r54 < 320)) (if (M8 21 r54.toNat) = (-6 : Int) then K35 v4 v5 v6 v7 (M8 21 r54.toNat) (-6 : Int) M8 else cal (fX3_slot M8 x3 v7) (fun (r55 : Int) => gd ((0 ≤ r55 ∧ r55 < 320)) (cal (fX3_slot M8 x1 x2) (fun (r56 : Int) => gd ((0 ≤ r56 ∧ r56 < 320)) (cal (fX0_wayLength M8 (M8 19 r55.toNat) (M8 19 r56.toNat)) (fun (r57 : Int) => K35 v4 v5 v6 v7 (M8 21 r54.toNat) r57 M8)))))))))
def fX3_joinCandidate (M : Mm) (x1 : Int) (x2 : Int) (x3 : Int) : Option (Mm) := gd ((0 ≤ x1 ∧ x1 < 16) ∧ (0 ≤ x3 ∧ x3 < 16) ∧ (inR ((M 14 x1.toNat) - (M 14 x3.toNat))) ∧ (inR (-((M 14 x1.toNat) - (M 14 x3.toNat))))) (gd ((0 ≤ x1 ∧ x1 < 16) ∧ (0 ≤ x3 ∧ x3 < 16) ∧ (inR ((M 15 x1.toNat) - (M 15 x3.toNat))) ∧ (inR (-((M 15 x1.toNat) - (M 15 x3.toNat))))) (gd ((inR ((iabs ((M 14 x1.toNat) - (M 14 x3.toNat))) + (iabs ((M 15 x1.toNat) - (M 15 x3.toNat)))))) (bnd ((iabs ((M 14 x1.toNat) - (M 14 x3.toNat))) + (iabs ((M 15 x1.toNat) - (M 15 x3.toNat)))) (fun (t3 : Int) => fX3_joinCandidate_L46 x1 x2 x3 (fun (v9 : Int) (v10 : Int) (M11 : Mm) => jn (fun (v12 : Int) (w13 : Int) (w14 : Int) (M15 : Mm) => gd ((0 ≤ w14 ∧ w14 < 320)) (bnd (up M15 21 w14.toNat w13) (fun (M17 : Mm) => cal (fX3_slot M17 x1 x2) (fun (r18 : Int) => gd ((0 ≤ r18 ∧ r18 < 320)) (bnd (up M17 22 r18.toNat v12) (fun (M19 : Mm) => some M19)))))) (fun (K16 : Int → Int → Int → Mm → Option (Mm)) => cal (fX3_slot M11 x1 x2) (fun (r22 : Int) => gd ((0 ≤ r22 ∧ r22 < 320) ∧ (inR ((M11 12 (1 : Int).toNat) * (M11 20 r22.toNat)))) (bnd ((M11 12 (1 : Int).toNat) * (M11 20 r22.toNat)) (fun (t23 : Int) => cal (fX3_slot M11 x1 x2) (fun (r24 : Int) => if v9 = (-6 : Int) then K16 v10 (-6 : Int) r24 M11 else gd ((inR (v9 + t23))) (K16 v10 (v9 + t23) r24 M11))))))) 1000 t3 (-6 : Int) (-6 : Int) (0 : Int) M))))
set_option maxRecDepth 100000 in
theorem mX3_joinCandidate_L46 {z : Zx} (hz : Cx qX3_joinCandidate z) {Q : Option Int → Mm → Prop} (hR : Rt Q z) {x1 : Int} {x2 : Int} {x3 : Int} {k190 : Int → Int → Mm → Option (Mm)} (hk190 : ∀ (v9 : Int), ∀ (v10 : Int), ∀ (M11 : Mm), OK (k190 v9 v10 M11) (fun r2 => Q none r2) → Aw z 190 [some (.inr 13), some (.inl x1), some (.inl x2), none, none, some (.inl v9), some (.inl v10), none, none, none, none] [] M11) : ∀ (n : Nat) (v4 : Int) (v5 : Int) (v6 : Int) (v7 : Int) (M8 : Mm), OK (fX3_joinCandidate_L46 x1 x2 x3 k190 n v4 v5 v6 v7 M8) (fun r2 => Q none r2) → Aw z 46 [some (.inr 13), some (.inl x1), some (.inl x2), some (.inl x3), some (.inl v4), some (.inl v5), some (.inl v6), some (.inl v7), none, none, none] [] M8 := by
  intro n
  induction n with
  | zero =>
    intro v4 v5 v6 v7 M8 h
    exact (show False from h).elim
  | succ n ih =>
    intro v4 v5 v6 v7 M8 h
    unfold fX3_joinCandidate_L46 at h
    obtain ⟨h61, h⟩ := gd_elim h
    refine ite_elim h (fun hc h => ?_) (fun hc h => ?_)
    · refine a_run (md qX3_joinCandidate_ok) hz 6 [1] (pc' := 190) (lv' := [some (.inr 13), some (.inl x1), some (.inl x2), some (.inl x3), some (.inl v4), some (.inl v5), some (.inl v6), some (.inl v7), none, none, none]) (st' := []) (M' := M8) (P := (0 ≤ x3 ∧ x3 < 16) ∧ ((M8 16 x3.toNat) ≤ v7) ∧ True) rfl ⟨h61, hc, trivial⟩ ?_
      refine a_mask [true, true, true, false, false, true, true, false, false, false, false] ?_
      exact hk190 v5 v6 M8 h
    · refine a_run (md qX3_joinCandidate_ok) hz 6 [0] (pc' := 57) (lv' := [some (.inr 13), some (.inl x1), some (.inl x2), some (.inl x3), some (.inl v4), some (.inl v5), some (.inl v6), some (.inl v7), none, none, none]) (st' := []) (M' := M8) (P := (0 ≤ x3 ∧ x3 < 16) ∧ (¬ ((M8 16 x3.toNat) ≤ v7)) ∧ True) rfl ⟨h61, hc, trivial⟩ ?_
      refine jn_elim h (fun (K35 : Int → Int → Int → Int → Int → Int → Mm → Option (Mm)) => ∀ (v28 : Int), ∀ (v29 : Int), ∀ (v30 : Int), ∀ (v31 : Int), ∀ (v32 : Int), ∀ (w33 : Int), ∀ (M34 : Mm), OK (K35 v28 v29 v30 v31 v32 w33 M34) (fun r2 => Q none r2) → Aw z 110 [some (.inr 13), some (.inl x1), some (.inl x2), some (.inl x3), some (.inl v28), some (.inl v29), some (.inl v30), some (.inl v31), some (.inl v32), none, none] [.inl w33] M34) (fun v28 v29 v30 v31 v32 w33 M34 h => ?_) (fun K35 hK35 h => ?_)
      · refine jn_elim h (fun (K41 : Int → Int → Int → Int → Mm → Option (Mm)) => ∀ (v36 : Int), ∀ (v37 : Int), ∀ (v38 : Int), ∀ (v39 : Int), ∀ (M40 : Mm), OK (K41 v36 v37 v38 v39 M40) (fun r2 => Q none r2) → Aw z 184 [some (.inr 13), some (.inl x1), some (.inl x2), some (.inl x3), some (.inl v36), some (.inl v37), some (.inl v38), some (.inl v39), none, none, none] [] M40) (fun v36 v37 v38 v39 M40 h => ?_) (fun K41 hK41 h => ?_)
        · obtain ⟨h42, h⟩ := gd_elim h
          refine a_run (md qX3_joinCandidate_ok) hz 2 [] (pc' := 46) (lv' := [some (.inr 13), some (.inl x1), some (.inl x2), some (.inl x3), some (.inl v36), some (.inl v37), some (.inl v38), some (.inl (v39 + (1 : Int))), none, none, none]) (st' := []) (M' := M40) (P := (inR (v39 + (1 : Int))) ∧ True) rfl ⟨h42, trivial⟩ ?_
          refine a_mask [true, true, true, true, true, true, true, true, false, false, false] ?_
          exact ih v36 v37 v38 (v39 + (1 : Int)) M40 h
        · refine ite_elim h (fun hc h => ?_) (fun hc h => ?_)
          · refine a_run (md qX3_joinCandidate_ok) hz 4 [1] (pc' := 184) (lv' := [some (.inr 13), some (.inl x1), some (.inl x2), some (.inl x3), some (.inl v28), some (.inl v29), some (.inl v30), some (.inl v31), some (.inl v32), some (.inl w33), none]) (st' := []) (M' := M34) (P := (w33 = (-6 : Int)) ∧ True) rfl ⟨hc, trivial⟩ ?_
            refine a_mask [true, true, true, true, true, true, true, true, false, false, false] ?_
            exact hK41 v28 v29 v30 v31 M34 h
          · refine a_run (md qX3_joinCandidate_ok) hz 4 [0] (pc' := 119) (lv' := [some (.inr 13), some (.inl x1), some (.inl x2), some (.inl x3), some (.inl v28), some (.inl v29), some (.inl v30), some (.inl v31), some (.inl v32), some (.inl w33), none]) (st' := []) (M' := M34) (P := (¬ (w33 = (-6 : Int))) ∧ True) rfl ⟨hc, trivial⟩ ?_
            obtain ⟨h53, h⟩ := gd_elim h
            refine ite_elim h (fun hc h => ?_) (fun hc h => ?_)
            · refine a_run (md qX3_joinCandidate_ok) hz 9 [1] (pc' := 139) (lv' := [some (.inr 13), some (.inl x1), some (.inl x2), some (.inl x3), some (.inl v28), some (.inl v29), some (.inl v30), some (.inl v31), some (.inl v32), some (.inl w33), none]) (st' := []) (M' := M34) (P := (0 ≤ (3 : Int) ∧ (3 : Int) < 4) ∧ (inR (v28 + (M34 12 (3 : Int).toNat))) ∧ (w33 ≤ (v28 + (M34 12 (3 : Int).toNat))) ∧ True) rfl ⟨by decide, h53, hc, trivial⟩ ?_
              refine jn_elim h (fun (K47 : Int → Int → Int → Mm → Option (Mm)) => ∀ (v43 : Int), ∀ (v44 : Int), ∀ (v45 : Int), ∀ (M46 : Mm), OK (K47 v43 v44 v45 M46) (fun r2 => Q none r2) → Aw z 176 [some (.inr 13), some (.inl x1), some (.inl x2), some (.inl x3), some (.inl v43), none, none, some (.inl v44), none, none, some (.inl v45)] [] M46) (fun v43 v44 v45 M46 h => ?_) (fun K47 hK47 h => ?_)
              · refine a_run (md qX3_joinCandidate_ok) hz 4 [] (pc' := 184) (lv' := [some (.inr 13), some (.inl x1), some (.inl x2), some (.inl x3), some (.inl v43), some (.inl v45), some (.inl v44), some (.inl v44), none, none, some (.inl v45)]) (st' := []) (M' := M46) (P := True) rfl trivial ?_
                refine a_mask [true, true, true, true, true, true, true, true, false, false, false] ?_
                exact hK41 v43 v45 v44 v44 M46 h
              · obtain ⟨⟨h52, h48⟩, h⟩ := gd_elim h
                refine a_run (md qX3_joinCandidate_ok) hz 9 [] (pc' := 155) (lv' := [some (.inr 13), some (.inl x1), some (.inl x2), some (.inl x3), some (.inl v28), some (.inl v29), some (.inl v30), some (.inl v31), some (.inl v32), some (.inl w33), none]) (st' := [.inl (w33 - v28), .inl (M34 12 (2 : Int).toNat), .inl v32]) (M' := M34) (P := (0 ≤ (2 : Int) ∧ (2 : Int) < 4) ∧ (inR (w33 - v28)) ∧ True) rfl ⟨by decide, h52, trivial⟩ ?_
                refine a_abs (md qX3_joinCandidate_ok) hz h48 lkX3_109 2 (by decide) rfl rfl ?_
                show Aw z 158 [some (.inr 13), some (.inl x1), some (.inl x2), some (.inl x3), some (.inl v28), some (.inl v29), some (.inl v30), some (.inl v31), some (.inl v32), some (.inl w33), none] [.inl (iabs (w33 - v28)), .inl (M34 12 (2 : Int).toNat), .inl v32] M34
                obtain ⟨⟨h50, h51⟩, h⟩ := gd_elim h
                refine a_run (md qX3_joinCandidate_ok) hz 3 [] (pc' := 162) (lv' := [some (.inr 13), some (.inl x1), some (.inl x2), some (.inl x3), some (.inl v28), some (.inl v29), some (.inl v30), some (.inl v31), some (.inl v32), some (.inl w33), some (.inl (v32 + ((M34 12 (2 : Int).toNat) * (iabs (w33 - v28)))))]) (st' := []) (M' := M34) (P := (inR ((M34 12 (2 : Int).toNat) * (iabs (w33 - v28)))) ∧ (inR (v32 + ((M34 12 (2 : Int).toNat) * (iabs (w33 - v28))))) ∧ True) rfl ⟨h50, h51, trivial⟩ ?_
                refine bnd_elim (G := fun (t49 : Int) => Aw z 162 [some (.inr 13), some (.inl x1), some (.inl x2), some (.inl x3), some (.inl v28), some (.inl v29), some (.inl v30), some (.inl v31), some (.inl v32), some (.inl w33), some (.inl t49)] [] M34) h (fun t49 h => ?_)
                refine ite_elim h (fun hc h => ?_) (fun hc h => ?_)
                · refine a_run (md qX3_joinCandidate_ok) hz 3 [1] (pc' := 176) (lv' := [some (.inr 13), some (.inl x1), some (.inl x2), some (.inl x3), some (.inl v28), some (.inl v29), some (.inl v30), some (.inl v31), some (.inl v32), some (.inl w33), some (.inl t49)]) (st' := []) (M' := M34) (P := (v29 = (-6 : Int)) ∧ True) rfl ⟨hc, trivial⟩ ?_
                  refine a_mask [true, true, true, true, true, false, false, true, false, false, true] ?_
                  exact hK47 v28 v31 t49 M34 h
                · refine a_run (md qX3_joinCandidate_ok) hz 3 [0] (pc' := 169) (lv' := [some (.inr 13), some (.inl x1), some (.inl x2), some (.inl x3), some (.inl v28), some (.inl v29), some (.inl v30), some (.inl v31), some (.inl v32), some (.inl w33), some (.inl t49)]) (st' := []) (M' := M34) (P := (¬ (v29 = (-6 : Int))) ∧ True) rfl ⟨hc, trivial⟩ ?_
                  refine ite_elim h (fun hc h => ?_) (fun hc h => ?_)
                  · refine a_run (md qX3_joinCandidate_ok) hz 3 [1] (pc' := 184) (lv' := [some (.inr 13), some (.inl x1), some (.inl x2), some (.inl x3), some (.inl v28), some (.inl v29), some (.inl v30), some (.inl v31), some (.inl v32), some (.inl w33), some (.inl t49)]) (st' := []) (M' := M34) (P := (v29 ≤ t49) ∧ True) rfl ⟨hc, trivial⟩ ?_
                    refine a_mask [true, true, true, true, true, true, true, true, false, false, false] ?_
                    exact hK41 v28 v29 v30 v31 M34 h
                  · refine a_run (md qX3_joinCandidate_ok) hz 3 [0] (pc' := 176) (lv' := [some (.inr 13), some (.inl x1), some (.inl x2), some (.inl x3), some (.inl v28), some (.inl v29), some (.inl v30), some (.inl v31), some (.inl v32), some (.inl w33), some (.inl t49)]) (st' := []) (M' := M34) (P := (¬ (v29 ≤ t49)) ∧ True) rfl ⟨hc, trivial⟩ ?_
                    refine a_mask [true, true, true, true, true, false, false, true, false, false, true] ?_
                    exact hK47 v28 v31 t49 M34 h
            · refine a_run (md qX3_joinCandidate_ok) hz 9 [0] (pc' := 136) (lv' := [some (.inr 13), some (.inl x1), some (.inl x2), some (.inl x3), some (.inl v28), some (.inl v29), some (.inl v30), some (.inl v31), some (.inl v32), some (.inl w33), none]) (st' := []) (M' := M34) (P := (0 ≤ (3 : Int) ∧ (3 : Int) < 4) ∧ (inR (v28 + (M34 12 (3 : Int).toNat))) ∧ (¬ (w33 ≤ (v28 + (M34 12 (3 : Int).toNat)))) ∧ True) rfl ⟨by decide, h53, hc, trivial⟩ ?_
              refine a_run (md qX3_joinCandidate_ok) hz 1 [] (pc' := 184) (lv' := [some (.inr 13), some (.inl x1), some (.inl x2), some (.inl x3), some (.inl v28), some (.inl v29), some (.inl v30), some (.inl v31), some (.inl v32), some (.inl w33), none]) (st' := []) (M' := M34) (P := True) rfl trivial ?_
              refine a_mask [true, true, true, true, true, true, true, true, false, false, false] ?_
              exact hK41 v28 v29 v30 v31 M34 h
      · refine a_run (md qX3_joinCandidate_ok) hz 4 [] (pc' := 64) (lv' := [some (.inr 13), some (.inl x1), some (.inl x2), some (.inl x3), some (.inl v4), some (.inl v5), some (.inl v6), some (.inl v7), none, none, none]) (st' := [.inl v7, .inl x3, .inr 21]) (M' := M8) (P := True) rfl trivial ?_
        obtain ⟨r54, hr, h⟩ := cal_elim h
        refine a_fS (as := [.inl x3, .inl v7]) (st := [.inr 21]) (mX3_slot z.1 hr) (md qX3_joinCandidate_ok) qX3_slot_ok hz lkX3_98 rfl 2 1 (by decide +kernel) rfl rfl ?_
        show Aw z 67 [some (.inr 13), some (.inl x1), some (.inl x2), some (.inl x3), some (.inl v4), some (.inl v5), some (.inl v6), some (.inl v7), none, none, none] [.inl r54, .inr 21] M8
        obtain ⟨h60, h⟩ := gd_elim h
        refine ite_elim h (fun hc h => ?_) (fun hc h => ?_)
        · refine a_run (md qX3_joinCandidate_ok) hz 5 [0] (pc' := 77) (lv' := [some (.inr 13), some (.inl x1), some (.inl x2), some (.inl x3), some (.inl v4), some (.inl v5), some (.inl v6), some (.inl v7), some (.inl (M8 21 r54.toNat)), none, none]) (st' := []) (M' := M8) (P := (0 ≤ r54 ∧ r54 < 320) ∧ (¬ ¬ (M8 21 r54.toNat) = (-6 : Int)) ∧ True) rfl ⟨h60, fun h9 => h9 hc, trivial⟩ ?_
          refine a_run (md qX3_joinCandidate_ok) hz 2 [] (pc' := 110) (lv' := [some (.inr 13), some (.inl x1), some (.inl x2), some (.inl x3), some (.inl v4), some (.inl v5), some (.inl v6), some (.inl v7), some (.inl (M8 21 r54.toNat)), none, none]) (st' := [.inl (-6 : Int)]) (M' := M8) (P := True) rfl trivial ?_
          refine a_mask [true, true, true, true, true, true, true, true, true, false, false] ?_
          exact hK35 v4 v5 v6 v7 (M8 21 r54.toNat) (-6 : Int) M8 h
        · refine a_run (md qX3_joinCandidate_ok) hz 5 [1] (pc' := 82) (lv' := [some (.inr 13), some (.inl x1), some (.inl x2), some (.inl x3), some (.inl v4), some (.inl v5), some (.inl v6), some (.inl v7), some (.inl (M8 21 r54.toNat)), none, none]) (st' := []) (M' := M8) (P := (0 ≤ r54 ∧ r54 < 320) ∧ (¬ (M8 21 r54.toNat) = (-6 : Int)) ∧ True) rfl ⟨h60, hc, trivial⟩ ?_
          refine a_run (md qX3_joinCandidate_ok) hz 6 [] (pc' := 93) (lv' := [some (.inr 13), some (.inl x1), some (.inl x2), some (.inl x3), some (.inl v4), some (.inl v5), some (.inl v6), some (.inl v7), some (.inl (M8 21 r54.toNat)), none, none]) (st' := [.inl v7, .inl x3, .inr 19, .inr 3]) (M' := M8) (P := True) rfl trivial ?_
          obtain ⟨r55, hr, h⟩ := cal_elim h
          refine a_fS (as := [.inl x3, .inl v7]) (st := [.inr 19, .inr 3]) (mX3_slot z.1 hr) (md qX3_joinCandidate_ok) qX3_slot_ok hz lkX3_98 rfl 2 2 (by decide +kernel) rfl rfl ?_
          show Aw z 96 [some (.inr 13), some (.inl x1), some (.inl x2), some (.inl x3), some (.inl v4), some (.inl v5), some (.inl v6), some (.inl v7), some (.inl (M8 21 r54.toNat)), none, none] [.inl r55, .inr 19, .inr 3] M8
          obtain ⟨h59, h⟩ := gd_elim h
          refine a_run (md qX3_joinCandidate_ok) hz 5 [] (pc' := 103) (lv' := [some (.inr 13), some (.inl x1), some (.inl x2), some (.inl x3), some (.inl v4), some (.inl v5), some (.inl v6), some (.inl v7), some (.inl (M8 21 r54.toNat)), none, none]) (st' := [.inl x2, .inl x1, .inr 19, .inl (M8 19 r55.toNat), .inr 3]) (M' := M8) (P := (0 ≤ r55 ∧ r55 < 320) ∧ True) rfl ⟨h59, trivial⟩ ?_
          obtain ⟨r56, hr, h⟩ := cal_elim h
          refine a_fS (as := [.inl x1, .inl x2]) (st := [.inr 19, .inl (M8 19 r55.toNat), .inr 3]) (mX3_slot z.1 hr) (md qX3_joinCandidate_ok) qX3_slot_ok hz lkX3_98 rfl 2 3 (by decide +kernel) rfl rfl ?_
          show Aw z 106 [some (.inr 13), some (.inl x1), some (.inl x2), some (.inl x3), some (.inl v4), some (.inl v5), some (.inl v6), some (.inl v7), some (.inl (M8 21 r54.toNat)), none, none] [.inl r56, .inr 19, .inl (M8 19 r55.toNat), .inr 3] M8
          obtain ⟨h58, h⟩ := gd_elim h
          refine a_run (md qX3_joinCandidate_ok) hz 1 [] (pc' := 107) (lv' := [some (.inr 13), some (.inl x1), some (.inl x2), some (.inl x3), some (.inl v4), some (.inl v5), some (.inl v6), some (.inl v7), some (.inl (M8 21 r54.toNat)), none, none]) (st' := [.inl (M8 19 r56.toNat), .inl (M8 19 r55.toNat), .inr 3]) (M' := M8) (P := (0 ≤ r56 ∧ r56 < 320) ∧ True) rfl ⟨h58, trivial⟩ ?_
          obtain ⟨r57, hr, h⟩ := cal_elim h
          refine a_fV (as := [.inl (M8 19 r55.toNat), .inl (M8 19 r56.toNat)]) (a := 3) (st := []) (mX0_wayLength z.1 hr) (md qX3_joinCandidate_ok) qX0_wayLength_ok hz lkX3_115 rfl 2 0 (by decide +kernel) rfl rfl rfl rfl ?_
          show Aw z 110 [some (.inr 13), some (.inl x1), some (.inl x2), some (.inl x3), some (.inl v4), some (.inl v5), some (.inl v6), some (.inl v7), some (.inl (M8 21 r54.toNat)), none, none] [.inl r57] M8
          refine a_mask [true, true, true, true, true, true, true, true, true, false, false] ?_
          exact hK35 v4 v5 v6 v7 (M8 21 r54.toNat) r57 M8 h
set_option maxRecDepth 100000 in
theorem mX3_joinCandidate (g : Gx) {M : Mm} {x1 : Int} {x2 : Int} {x3 : Int} {M2 : Mm} (h : fX3_joinCandidate M x1 x2 x3 = some M2) : Ct g qX3_joinCandidate [.inr 13, .inl x1, .inl x2, .inl x3] M (fun r' M' => r' = none ∧ M' = M2) := by
  refine c_ofV h qX3_joinCandidate_ok (Nat.le_of_ble_eq_true rfl) (fun z hz Q hR h => ?_)
  unfold fX3_joinCandidate at h
  show Aw z 0 [some (.inr 13), some (.inl x1), some (.inl x2), some (.inl x3), none, none, none, none, none, none, none] [] M
  obtain ⟨⟨h66, h67, h68, h1⟩, h⟩ := gd_elim h
  refine a_run (md qX3_joinCandidate_ok) hz 9 [] (pc' := 13) (lv' := [some (.inr 13), some (.inl x1), some (.inl x2), some (.inl x3), none, none, none, none, none, none, none]) (st' := [.inl ((M 14 x1.toNat) - (M 14 x3.toNat))]) (M' := M) (P := (0 ≤ x1 ∧ x1 < 16) ∧ (0 ≤ x3 ∧ x3 < 16) ∧ (inR ((M 14 x1.toNat) - (M 14 x3.toNat))) ∧ True) rfl ⟨h66, h67, h68, trivial⟩ ?_
  refine a_abs (md qX3_joinCandidate_ok) hz h1 lkX3_109 0 (by decide) rfl rfl ?_
  show Aw z 16 [some (.inr 13), some (.inl x1), some (.inl x2), some (.inl x3), none, none, none, none, none, none, none] [.inl (iabs ((M 14 x1.toNat) - (M 14 x3.toNat)))] M
  obtain ⟨⟨h63, h64, h65, h2⟩, h⟩ := gd_elim h
  refine a_run (md qX3_joinCandidate_ok) hz 9 [] (pc' := 29) (lv' := [some (.inr 13), some (.inl x1), some (.inl x2), some (.inl x3), none, none, none, none, none, none, none]) (st' := [.inl ((M 15 x1.toNat) - (M 15 x3.toNat)), .inl (iabs ((M 14 x1.toNat) - (M 14 x3.toNat)))]) (M' := M) (P := (0 ≤ x1 ∧ x1 < 16) ∧ (0 ≤ x3 ∧ x3 < 16) ∧ (inR ((M 15 x1.toNat) - (M 15 x3.toNat))) ∧ True) rfl ⟨h63, h64, h65, trivial⟩ ?_
  refine a_abs (md qX3_joinCandidate_ok) hz h2 lkX3_109 1 (by decide) rfl rfl ?_
  show Aw z 32 [some (.inr 13), some (.inl x1), some (.inl x2), some (.inl x3), none, none, none, none, none, none, none] [.inl (iabs ((M 15 x1.toNat) - (M 15 x3.toNat))), .inl (iabs ((M 14 x1.toNat) - (M 14 x3.toNat)))] M
  obtain ⟨h62, h⟩ := gd_elim h
  refine a_run (md qX3_joinCandidate_ok) hz 2 [] (pc' := 35) (lv' := [some (.inr 13), some (.inl x1), some (.inl x2), some (.inl x3), some (.inl ((iabs ((M 14 x1.toNat) - (M 14 x3.toNat))) + (iabs ((M 15 x1.toNat) - (M 15 x3.toNat))))), none, none, none, none, none, none]) (st' := []) (M' := M) (P := (inR ((iabs ((M 14 x1.toNat) - (M 14 x3.toNat))) + (iabs ((M 15 x1.toNat) - (M 15 x3.toNat))))) ∧ True) rfl ⟨h62, trivial⟩ ?_
  refine bnd_elim (G := fun (t3 : Int) => Aw z 35 [some (.inr 13), some (.inl x1), some (.inl x2), some (.inl x3), some (.inl t3), none, none, none, none, none, none] [] M) h (fun t3 h => ?_)
  refine a_run (md qX3_joinCandidate_ok) hz 6 [] (pc' := 46) (lv' := [some (.inr 13), some (.inl x1), some (.inl x2), some (.inl x3), some (.inl t3), some (.inl (-6 : Int)), some (.inl (-6 : Int)), some (.inl (0 : Int)), none, none, none]) (st' := []) (M' := M) (P := True) rfl trivial ?_
  refine a_mask [true, true, true, true, true, true, true, true, false, false, false] ?_
  refine mX3_joinCandidate_L46 hz hR (fun v9 v10 M11 h => ?_) 1000 t3 (-6 : Int) (-6 : Int) (0 : Int) M h
  · refine jn_elim h (fun (K16 : Int → Int → Int → Mm → Option (Mm)) => ∀ (v12 : Int), ∀ (w13 : Int), ∀ (w14 : Int), ∀ (M15 : Mm), OK (K16 v12 w13 w14 M15) (fun r2 => Q none r2) → Aw z 238 [some (.inr 13), some (.inl x1), some (.inl x2), none, none, none, some (.inl v12), none, none, none, none] [.inl w13, .inl w14, .inr 21] M15) (fun v12 w13 w14 M15 h => ?_) (fun K16 hK16 h => ?_)
    · obtain ⟨h21, h⟩ := gd_elim h
      refine a_run (md qX3_joinCandidate_ok) hz 1 [] (pc' := 239) (lv' := [some (.inr 13), some (.inl x1), some (.inl x2), none, none, none, some (.inl v12), none, none, none, none]) (st' := []) (M' := (up M15 21 w14.toNat w13)) (P := (0 ≤ w14 ∧ w14 < 320) ∧ True) rfl ⟨h21, trivial⟩ ?_
      refine bnd_elim (G := fun (M17 : Mm) => Aw z 239 [some (.inr 13), some (.inl x1), some (.inl x2), none, none, none, some (.inl v12), none, none, none, none] [] M17) h (fun M17 h => ?_)
      refine a_run (md qX3_joinCandidate_ok) hz 4 [] (pc' := 245) (lv' := [some (.inr 13), some (.inl x1), some (.inl x2), none, none, none, some (.inl v12), none, none, none, none]) (st' := [.inl x2, .inl x1, .inr 22]) (M' := M17) (P := True) rfl trivial ?_
      obtain ⟨r18, hr, h⟩ := cal_elim h
      refine a_fS (as := [.inl x1, .inl x2]) (st := [.inr 22]) (mX3_slot z.1 hr) (md qX3_joinCandidate_ok) qX3_slot_ok hz lkX3_98 rfl 2 1 (by decide +kernel) rfl rfl ?_
      show Aw z 248 [some (.inr 13), some (.inl x1), some (.inl x2), none, none, none, some (.inl v12), none, none, none, none] [.inl r18, .inr 22] M17
      obtain ⟨h20, h⟩ := gd_elim h
      refine a_run (md qX3_joinCandidate_ok) hz 2 [] (pc' := 251) (lv' := [some (.inr 13), some (.inl x1), some (.inl x2), none, none, none, some (.inl v12), none, none, none, none]) (st' := []) (M' := (up M17 22 r18.toNat v12)) (P := (0 ≤ r18 ∧ r18 < 320) ∧ True) rfl ⟨h20, trivial⟩ ?_
      refine bnd_elim (G := fun (M19 : Mm) => Aw z 251 [some (.inr 13), some (.inl x1), some (.inl x2), none, none, none, some (.inl v12), none, none, none, none] [] M19) h (fun M19 h => ?_)
      exact a_rv (md qX3_joinCandidate_ok) hz hR rfl rfl h
    · refine a_run (md qX3_joinCandidate_ok) hz 9 [] (pc' := 205) (lv' := [some (.inr 13), some (.inl x1), some (.inl x2), none, none, some (.inl v9), some (.inl v10), none, none, none, none]) (st' := [.inl x2, .inl x1, .inr 20, .inl (M11 12 (1 : Int).toNat)]) (M' := M11) (P := (0 ≤ (1 : Int) ∧ (1 : Int) < 4) ∧ True) rfl ⟨by decide, trivial⟩ ?_
      obtain ⟨r22, hr, h⟩ := cal_elim h
      refine a_fS (as := [.inl x1, .inl x2]) (st := [.inr 20, .inl (M11 12 (1 : Int).toNat)]) (mX3_slot z.1 hr) (md qX3_joinCandidate_ok) qX3_slot_ok hz lkX3_98 rfl 2 2 (by decide +kernel) rfl rfl ?_
      show Aw z 208 [some (.inr 13), some (.inl x1), some (.inl x2), none, none, some (.inl v9), some (.inl v10), none, none, none, none] [.inl r22, .inr 20, .inl (M11 12 (1 : Int).toNat)] M11
      obtain ⟨⟨h26, h27⟩, h⟩ := gd_elim h
      refine a_run (md qX3_joinCandidate_ok) hz 3 [] (pc' := 212) (lv' := [some (.inr 13), some (.inl x1), some (.inl x2), none, none, some (.inl v9), some (.inl v10), some (.inl ((M11 12 (1 : Int).toNat) * (M11 20 r22.toNat))), none, none, none]) (st' := []) (M' := M11) (P := (0 ≤ r22 ∧ r22 < 320) ∧ (inR ((M11 12 (1 : Int).toNat) * (M11 20 r22.toNat))) ∧ True) rfl ⟨h26, h27, trivial⟩ ?_
      refine bnd_elim (G := fun (t23 : Int) => Aw z 212 [some (.inr 13), some (.inl x1), some (.inl x2), none, none, some (.inl v9), some (.inl v10), some (.inl t23), none, none, none] [] M11) h (fun t23 h => ?_)
      refine a_run (md qX3_joinCandidate_ok) hz 4 [] (pc' := 218) (lv' := [some (.inr 13), some (.inl x1), some (.inl x2), none, none, some (.inl v9), some (.inl v10), some (.inl t23), none, none, none]) (st' := [.inl x2, .inl x1, .inr 21]) (M' := M11) (P := True) rfl trivial ?_
      obtain ⟨r24, hr, h⟩ := cal_elim h
      refine a_fS (as := [.inl x1, .inl x2]) (st := [.inr 21]) (mX3_slot z.1 hr) (md qX3_joinCandidate_ok) qX3_slot_ok hz lkX3_98 rfl 2 1 (by decide +kernel) rfl rfl ?_
      show Aw z 221 [some (.inr 13), some (.inl x1), some (.inl x2), none, none, some (.inl v9), some (.inl v10), some (.inl t23), none, none, none] [.inl r24, .inr 21] M11
      refine ite_elim h (fun hc h => ?_) (fun hc h => ?_)
      · refine a_run (md qX3_joinCandidate_ok) hz 3 [0] (pc' := 228) (lv' := [some (.inr 13), some (.inl x1), some (.inl x2), none, none, some (.inl v9), some (.inl v10), some (.inl t23), none, none, none]) (st' := [.inl r24, .inr 21]) (M' := M11) (P := (¬ ¬ v9 = (-6 : Int)) ∧ True) rfl ⟨fun h9 => h9 hc, trivial⟩ ?_
        refine a_run (md qX3_joinCandidate_ok) hz 2 [] (pc' := 238) (lv' := [some (.inr 13), some (.inl x1), some (.inl x2), none, none, some (.inl v9), some (.inl v10), some (.inl t23), none, none, none]) (st' := [.inl (-6 : Int), .inl r24, .inr 21]) (M' := M11) (P := True) rfl trivial ?_
        refine a_mask [true, true, true, false, false, false, true, false, false, false, false] ?_
        exact hK16 v10 (-6 : Int) r24 M11 h
      · refine a_run (md qX3_joinCandidate_ok) hz 3 [1] (pc' := 233) (lv' := [some (.inr 13), some (.inl x1), some (.inl x2), none, none, some (.inl v9), some (.inl v10), some (.inl t23), none, none, none]) (st' := [.inl r24, .inr 21]) (M' := M11) (P := (¬ v9 = (-6 : Int)) ∧ True) rfl ⟨hc, trivial⟩ ?_
        obtain ⟨h25, h⟩ := gd_elim h
        refine a_run (md qX3_joinCandidate_ok) hz 3 [] (pc' := 238) (lv' := [some (.inr 13), some (.inl x1), some (.inl x2), none, none, some (.inl v9), some (.inl v10), some (.inl t23), none, none, none]) (st' := [.inl (v9 + t23), .inl r24, .inr 21]) (M' := M11) (P := (inR (v9 + t23)) ∧ True) rfl ⟨h25, trivial⟩ ?_
        refine a_mask [true, true, true, false, false, false, true, false, false, false, false] ?_
        exact hK16 v10 (v9 + t23) r24 M11 h
def fX3_goesOn_L5 (x1 : Int) (x2 : Int) : Nat → Int → Int → Mm → Option (Int × Mm)
  | 0, _, _, _ => none
  | n + 1, v1, v2, M3 => gd ((0 ≤ x1 ∧ x1 < 16)) (if (M3 16 x1.toNat) ≤ v2 then gd ((v1 = 0 ∨ v1 = 1)) (some (v1, M3)) else jn (fun (v5 : Int) (w6 : Int) (M7 : Mm) => gd ((inR (v5 + (1 : Int)))) (fX3_goesOn_L5 x1 x2 n w6 (v5 + (1 : Int)) M7)) (fun (K8 : Int → Int → Mm → Option (Int × Mm)) => jn (fun (v10 : Int) (M11 : Mm) => K8 v10 (1 : Int) M11) (fun (K12 : Int → Mm → Option (Int × Mm)) => cal (fX3_joinCandidate M3 x1 v2 x2) (fun (M13 : Mm) => if v1 = 0 then cal (fX3_slot M13 x1 v2) (fun (r14 : Int) => gd ((0 ≤ r14 ∧ r14 < 320)) (if (M13 21 r14.toNat) = (-6 : Int) then K8 v2 (0 : Int) M13 else K12 v2 M13)) else K12 v2 M13))))
def fX3_goesOn (M : Mm) (x1 : Int) (x2 : Int) : Option (Int × Mm) := fX3_goesOn_L5 x1 x2 1000 (0 : Int) (0 : Int) M
set_option maxRecDepth 100000 in
theorem mX3_goesOn_L5 {z : Zx} (hz : Cx qX3_goesOn z) {Q : Option Int → Mm → Prop} (hR : Rt Q z) {x1 : Int} {x2 : Int} : ∀ (n : Nat) (v1 : Int) (v2 : Int) (M3 : Mm), OK (fX3_goesOn_L5 x1 x2 n v1 v2 M3) (fun r2 => Q (some r2.1) r2.2) → Aw z 5 [some (.inr 13), some (.inl x1), some (.inl x2), some (.inl v1), some (.inl v2)] [] M3 := by
  intro n
  induction n with
  | zero =>
    intro v1 v2 M3 h
    exact (show False from h).elim
  | succ n ih =>
    intro v1 v2 M3 h
    unfold fX3_goesOn_L5 at h
    obtain ⟨h16, h⟩ := gd_elim h
    refine ite_elim h (fun hc h => ?_) (fun hc h => ?_)
    · refine a_run (md qX3_goesOn_ok) hz 6 [1] (pc' := 56) (lv' := [some (.inr 13), some (.inl x1), some (.inl x2), some (.inl v1), some (.inl v2)]) (st' := []) (M' := M3) (P := (0 ≤ x1 ∧ x1 < 16) ∧ ((M3 16 x1.toNat) ≤ v2) ∧ True) rfl ⟨h16, hc, trivial⟩ ?_
      obtain ⟨h4, h⟩ := gd_elim h
      refine a_run (md qX3_goesOn_ok) hz 1 [] (pc' := 57) (lv' := [some (.inr 13), some (.inl x1), some (.inl x2), some (.inl v1), some (.inl v2)]) (st' := [.inl v1]) (M' := M3) (P := True) rfl trivial ?_
      exact a_ri (md qX3_goesOn_ok) hz hR rfl (Or.inr ⟨rfl, h4⟩) h
    · refine a_run (md qX3_goesOn_ok) hz 6 [0] (pc' := 16) (lv' := [some (.inr 13), some (.inl x1), some (.inl x2), some (.inl v1), some (.inl v2)]) (st' := []) (M' := M3) (P := (0 ≤ x1 ∧ x1 < 16) ∧ (¬ ((M3 16 x1.toNat) ≤ v2)) ∧ True) rfl ⟨h16, hc, trivial⟩ ?_
      refine jn_elim h (fun (K8 : Int → Int → Mm → Option (Int × Mm)) => ∀ (v5 : Int), ∀ (w6 : Int), ∀ (M7 : Mm), OK (K8 v5 w6 M7) (fun r2 => Q (some r2.1) r2.2) → Aw z 49 [some (.inr 13), some (.inl x1), some (.inl x2), none, some (.inl v5)] [.inl w6] M7) (fun v5 w6 M7 h => ?_) (fun K8 hK8 h => ?_)
      · obtain ⟨h9, h⟩ := gd_elim h
        refine a_run (md qX3_goesOn_ok) hz 3 [] (pc' := 5) (lv' := [some (.inr 13), some (.inl x1), some (.inl x2), some (.inl w6), some (.inl (v5 + (1 : Int)))]) (st' := []) (M' := M7) (P := (inR (v5 + (1 : Int))) ∧ True) rfl ⟨h9, trivial⟩ ?_
        refine a_mask [true, true, true, true, true] ?_
        exact ih w6 (v5 + (1 : Int)) M7 h
      · refine jn_elim h (fun (K12 : Int → Mm → Option (Int × Mm)) => ∀ (v10 : Int), ∀ (M11 : Mm), OK (K12 v10 M11) (fun r2 => Q (some r2.1) r2.2) → Aw z 44 [some (.inr 13), some (.inl x1), some (.inl x2), none, some (.inl v10)] [] M11) (fun v10 M11 h => ?_) (fun K12 hK12 h => ?_)
        · refine a_run (md qX3_goesOn_ok) hz 2 [] (pc' := 49) (lv' := [some (.inr 13), some (.inl x1), some (.inl x2), none, some (.inl v10)]) (st' := [.inl (1 : Int)]) (M' := M11) (P := True) rfl trivial ?_
          refine a_mask [true, true, true, false, true] ?_
          exact hK8 v10 (1 : Int) M11 h
        · refine a_run (md qX3_goesOn_ok) hz 4 [] (pc' := 21) (lv' := [some (.inr 13), some (.inl x1), some (.inl x2), some (.inl v1), some (.inl v2)]) (st' := [.inl x2, .inl v2, .inl x1, .inr 13]) (M' := M3) (P := True) rfl trivial ?_
          obtain ⟨M13, hr, h⟩ := cal_elim h
          refine a_fV (as := [.inl x1, .inl v2, .inl x2]) (a := 13) (st := []) (mX3_joinCandidate z.1 hr) (md qX3_goesOn_ok) qX3_joinCandidate_ok hz lkX3_105 rfl 3 0 (by decide +kernel) rfl rfl rfl rfl ?_
          show Aw z 24 [some (.inr 13), some (.inl x1), some (.inl x2), some (.inl v1), some (.inl v2)] [] M13
          refine ite_elim h (fun hc h => ?_) (fun hc h => ?_)
          · refine a_run (md qX3_goesOn_ok) hz 2 [0] (pc' := 28) (lv' := [some (.inr 13), some (.inl x1), some (.inl x2), some (.inl v1), some (.inl v2)]) (st' := []) (M' := M13) (P := (¬ ¬ v1 = 0) ∧ True) rfl ⟨fun h9 => h9 hc, trivial⟩ ?_
            refine a_run (md qX3_goesOn_ok) hz 4 [] (pc' := 35) (lv' := [some (.inr 13), some (.inl x1), some (.inl x2), some (.inl v1), some (.inl v2)]) (st' := [.inl v2, .inl x1, .inr 21]) (M' := M13) (P := True) rfl trivial ?_
            obtain ⟨r14, hr, h⟩ := cal_elim h
            refine a_fS (as := [.inl x1, .inl v2]) (st := [.inr 21]) (mX3_slot z.1 hr) (md qX3_goesOn_ok) qX3_slot_ok hz lkX3_98 rfl 2 1 (by decide +kernel) rfl rfl ?_
            show Aw z 38 [some (.inr 13), some (.inl x1), some (.inl x2), some (.inl v1), some (.inl v2)] [.inl r14, .inr 21] M13
            obtain ⟨h15, h⟩ := gd_elim h
            refine ite_elim h (fun hc h => ?_) (fun hc h => ?_)
            · refine a_run (md qX3_goesOn_ok) hz 3 [1] (pc' := 48) (lv' := [some (.inr 13), some (.inl x1), some (.inl x2), some (.inl v1), some (.inl v2)]) (st' := []) (M' := M13) (P := (0 ≤ r14 ∧ r14 < 320) ∧ ((M13 21 r14.toNat) = (-6 : Int)) ∧ True) rfl ⟨h15, hc, trivial⟩ ?_
              refine a_run (md qX3_goesOn_ok) hz 1 [] (pc' := 49) (lv' := [some (.inr 13), some (.inl x1), some (.inl x2), some (.inl v1), some (.inl v2)]) (st' := [.inl (0 : Int)]) (M' := M13) (P := True) rfl trivial ?_
              refine a_mask [true, true, true, false, true] ?_
              exact hK8 v2 (0 : Int) M13 h
            · refine a_run (md qX3_goesOn_ok) hz 3 [0] (pc' := 44) (lv' := [some (.inr 13), some (.inl x1), some (.inl x2), some (.inl v1), some (.inl v2)]) (st' := []) (M' := M13) (P := (0 ≤ r14 ∧ r14 < 320) ∧ (¬ ((M13 21 r14.toNat) = (-6 : Int))) ∧ True) rfl ⟨h15, hc, trivial⟩ ?_
              refine a_mask [true, true, true, false, true] ?_
              exact hK12 v2 M13 h
          · refine a_run (md qX3_goesOn_ok) hz 2 [1] (pc' := 44) (lv' := [some (.inr 13), some (.inl x1), some (.inl x2), some (.inl v1), some (.inl v2)]) (st' := []) (M' := M13) (P := (¬ v1 = 0) ∧ True) rfl ⟨hc, trivial⟩ ?_
            refine a_mask [true, true, true, false, true] ?_
            exact hK12 v2 M13 h
set_option maxRecDepth 100000 in
theorem mX3_goesOn (g : Gx) {M : Mm} {x1 : Int} {x2 : Int} {r : Int} {M2 : Mm} (h : fX3_goesOn M x1 x2 = some (r, M2)) : Ct g qX3_goesOn [.inr 13, .inl x1, .inl x2] M (fun r' M' => r' = some r ∧ M' = M2) := by
  refine c_ofI h qX3_goesOn_ok (Nat.le_of_ble_eq_true rfl) (fun z hz Q hR h => ?_)
  unfold fX3_goesOn at h
  show Aw z 0 [some (.inr 13), some (.inl x1), some (.inl x2), none, none] [] M
  refine a_run (md qX3_goesOn_ok) hz 4 [] (pc' := 5) (lv' := [some (.inr 13), some (.inl x1), some (.inl x2), some (.inl (0 : Int)), some (.inl (0 : Int))]) (st' := []) (M' := M) (P := True) rfl trivial ?_
  refine a_mask [true, true, true, true, true] ?_
  refine mX3_goesOn_L5 hz hR  1000 (0 : Int) (0 : Int) M h
def fX3_addFix (M : Mm) (x1 : Int) (x2 : Int) : Option (Mm) := if (M 13 2) < (16 : Int) then jn (fun (M1 : Mm) => cal (fX3_settle 2 M1) (fun (M3 : Mm) => some M3)) (fun (K2 : Mm → Option (Mm)) => cal (fX3_lastFixed M) (fun (r4 : Int) => gd ((0 ≤ (M 13 2) ∧ (M 13 2) < 16)) (bnd (up M 14 (M 13 2).toNat x1) (fun (M5 : Mm) => gd ((0 ≤ (M 13 2) ∧ (M 13 2) < 16)) (bnd (up M5 15 (M 13 2).toNat x2) (fun (M6 : Mm) => gd ((inR ((M 13 2) + (1 : Int)))) (bnd (up M6 13 2 ((M 13 2) + (1 : Int))) (fun (M7 : Mm) => gd ((0 ≤ (M 13 2) ∧ (M 13 2) < 16)) (bnd (up M7 18 (M 13 2).toNat (-6 : Int)) (fun (M8 : Mm) => cal (fX3_findCandidates M8 (M 13 2)) (fun (M9 : Mm) => gd ((0 ≤ (M 13 2) ∧ (M 13 2) < 16)) (if (M9 16 (M 13 2).toNat) = 0 then gd ((0 ≤ (M 13 2) ∧ (M 13 2) < 16)) (bnd (up M9 17 (M 13 2).toNat (-6 : Int)) (fun (M21 : Mm) => K2 M21)) else if r4 = (-6 : Int) then cal (fX3_beginPiece M9 (M 13 2) (0 : Int)) (fun (M20 : Mm) => K2 M20) else cal2 (fX3_goesOn M9 (M 13 2) r4) (fun (r10 : Int) (M11 : Mm) => if r10 = 0 then gd ((0 ≤ r4 ∧ r4 < 16) ∧ (inR ((M11 17 r4.toNat) + (1 : Int)))) (cal (fX3_beginPiece M11 (M 13 2) ((M11 17 r4.toNat) + (1 : Int))) (fun (M12 : Mm) => K2 M12)) else gd ((0 ≤ r4 ∧ r4 < 16) ∧ (0 ≤ (M 13 2) ∧ (M 13 2) < 16)) (bnd (up M11 17 (M 13 2).toNat (M11 17 r4.toNat)) (fun (M15 : Mm) => gd ((0 ≤ (M 13 2) ∧ (M 13 2) < 16)) (bnd (up M15 18 (M 13 2).toNat r4) (fun (M16 : Mm) => K2 M16))))))))))))))))) else some M
set_option maxRecDepth 100000 in
theorem mX3_addFix (g : Gx) {M : Mm} {x1 : Int} {x2 : Int} {M2 : Mm} (h : fX3_addFix M x1 x2 = some M2) : Ct g qX3_addFix [.inr 13, .inl x1, .inl x2] M (fun r' M' => r' = none ∧ M' = M2) := by
  refine c_ofV h qX3_addFix_ok (Nat.le_of_ble_eq_true rfl) (fun z hz Q hR h => ?_)
  unfold fX3_addFix at h
  show Aw z 0 [some (.inr 13), some (.inl x1), some (.inl x2), none, none] [] M
  refine ite_elim h (fun hc h => ?_) (fun hc h => ?_)
  · refine a_run (md qX3_addFix_ok) hz 4 [1] (pc' := 10) (lv' := [some (.inr 13), some (.inl x1), some (.inl x2), none, none]) (st' := []) (M' := M) (P := ((M 13 2) < (16 : Int)) ∧ True) rfl ⟨hc, trivial⟩ ?_
    refine jn_elim h (fun (K2 : Mm → Option (Mm)) => ∀ (M1 : Mm), OK (K2 M1) (fun r2 => Q none r2) → Aw z 146 [some (.inr 13), none, none, none, none] [] M1) (fun M1 h => ?_) (fun K2 hK2 h => ?_)
    · refine a_run (md qX3_addFix_ok) hz 1 [] (pc' := 147) (lv' := [some (.inr 13), none, none, none, none]) (st' := [.inr 13]) (M' := M1) (P := True) rfl trivial ?_
      obtain ⟨M3, hr, h⟩ := cal_elim h
      refine a_fV (as := []) (a := 13) (st := []) (mX3_settle_2 z.1 hr) (md qX3_addFix_ok) qX3_settle_ok hz lkX3_78 rfl 0 0 (by decide +kernel) rfl rfl rfl rfl ?_
      show Aw z 150 [some (.inr 13), none, none, none, none] [] M3
      exact a_rv (md qX3_addFix_ok) hz hR rfl rfl h
    · refine a_run (md qX3_addFix_ok) hz 1 [] (pc' := 11) (lv' := [some (.inr 13), some (.inl x1), some (.inl x2), none, none]) (st' := [.inr 13]) (M' := M) (P := True) rfl trivial ?_
      obtain ⟨r4, hr, h⟩ := cal_elim h
      refine a_fV (as := []) (a := 13) (st := []) (mX3_lastFixed z.1 hr) (md qX3_addFix_ok) qX3_lastFixed_ok hz lkX3_62 rfl 0 0 (by decide +kernel) rfl rfl rfl rfl ?_
      show Aw z 14 [some (.inr 13), some (.inl x1), some (.inl x2), none, none] [.inl r4] M
      obtain ⟨h27, h⟩ := gd_elim h
      refine a_run (md qX3_addFix_ok) hz 9 [] (pc' := 29) (lv' := [some (.inr 13), some (.inl x1), some (.inl x2), some (.inl r4), some (.inl (M 13 2))]) (st' := []) (M' := (up M 14 (M 13 2).toNat x1)) (P := (0 ≤ (M 13 2) ∧ (M 13 2) < 16) ∧ True) rfl ⟨h27, trivial⟩ ?_
      refine bnd_elim (G := fun (M5 : Mm) => Aw z 29 [some (.inr 13), some (.inl x1), some (.inl x2), some (.inl r4), some (.inl (M 13 2))] [] M5) h (fun M5 h => ?_)
      obtain ⟨h26, h⟩ := gd_elim h
      refine a_run (md qX3_addFix_ok) hz 5 [] (pc' := 37) (lv' := [some (.inr 13), some (.inl x1), some (.inl x2), some (.inl r4), some (.inl (M 13 2))]) (st' := []) (M' := (up M5 15 (M 13 2).toNat x2)) (P := (0 ≤ (M 13 2) ∧ (M 13 2) < 16) ∧ True) rfl ⟨h26, trivial⟩ ?_
      refine bnd_elim (G := fun (M6 : Mm) => Aw z 37 [some (.inr 13), some (.inl x1), some (.inl x2), some (.inl r4), some (.inl (M 13 2))] [] M6) h (fun M6 h => ?_)
      obtain ⟨h25, h⟩ := gd_elim h
      refine a_run (md qX3_addFix_ok) hz 5 [] (pc' := 45) (lv' := [some (.inr 13), some (.inl x1), some (.inl x2), some (.inl r4), some (.inl (M 13 2))]) (st' := []) (M' := (up M6 13 2 ((M 13 2) + (1 : Int)))) (P := (inR ((M 13 2) + (1 : Int))) ∧ True) rfl ⟨h25, trivial⟩ ?_
      refine bnd_elim (G := fun (M7 : Mm) => Aw z 45 [some (.inr 13), some (.inl x1), some (.inl x2), some (.inl r4), some (.inl (M 13 2))] [] M7) h (fun M7 h => ?_)
      obtain ⟨h24, h⟩ := gd_elim h
      refine a_run (md qX3_addFix_ok) hz 5 [] (pc' := 54) (lv' := [some (.inr 13), some (.inl x1), some (.inl x2), some (.inl r4), some (.inl (M 13 2))]) (st' := []) (M' := (up M7 18 (M 13 2).toNat (-6 : Int))) (P := (0 ≤ (M 13 2) ∧ (M 13 2) < 16) ∧ True) rfl ⟨h24, trivial⟩ ?_
      refine bnd_elim (G := fun (M8 : Mm) => Aw z 54 [some (.inr 13), some (.inl x1), some (.inl x2), some (.inl r4), some (.inl (M 13 2))] [] M8) h (fun M8 h => ?_)
      refine a_run (md qX3_addFix_ok) hz 2 [] (pc' := 57) (lv' := [some (.inr 13), some (.inl x1), some (.inl x2), some (.inl r4), some (.inl (M 13 2))]) (st' := [.inl (M 13 2), .inr 13]) (M' := M8) (P := True) rfl trivial ?_
      obtain ⟨M9, hr, h⟩ := cal_elim h
      refine a_fV (as := [.inl (M 13 2)]) (a := 13) (st := []) (mX3_findCandidates z.1 hr) (md qX3_addFix_ok) qX3_findCandidates_ok hz lkX3_66 rfl 1 0 (by decide +kernel) rfl rfl rfl rfl ?_
      show Aw z 60 [some (.inr 13), some (.inl x1), some (.inl x2), some (.inl r4), some (.inl (M 13 2))] [] M9
      obtain ⟨h23, h⟩ := gd_elim h
      refine ite_elim h (fun hc h => ?_) (fun hc h => ?_)
      · refine a_run (md qX3_addFix_ok) hz 5 [0] (pc' := 70) (lv' := [some (.inr 13), some (.inl x1), some (.inl x2), some (.inl r4), some (.inl (M 13 2))]) (st' := []) (M' := M9) (P := (0 ≤ (M 13 2) ∧ (M 13 2) < 16) ∧ (¬ ¬ (M9 16 (M 13 2).toNat) = 0) ∧ True) rfl ⟨h23, fun h9 => h9 hc, trivial⟩ ?_
        obtain ⟨h22, h⟩ := gd_elim h
        refine a_run (md qX3_addFix_ok) hz 5 [] (pc' := 79) (lv' := [some (.inr 13), some (.inl x1), some (.inl x2), some (.inl r4), some (.inl (M 13 2))]) (st' := []) (M' := (up M9 17 (M 13 2).toNat (-6 : Int))) (P := (0 ≤ (M 13 2) ∧ (M 13 2) < 16) ∧ True) rfl ⟨h22, trivial⟩ ?_
        refine bnd_elim (G := fun (M21 : Mm) => Aw z 79 [some (.inr 13), some (.inl x1), some (.inl x2), some (.inl r4), some (.inl (M 13 2))] [] M21) h (fun M21 h => ?_)
        refine a_run (md qX3_addFix_ok) hz 1 [] (pc' := 146) (lv' := [some (.inr 13), some (.inl x1), some (.inl x2), some (.inl r4), some (.inl (M 13 2))]) (st' := []) (M' := M21) (P := True) rfl trivial ?_
        refine a_mask [true, false, false, false, false] ?_
        exact hK2 M21 h
      · refine a_run (md qX3_addFix_ok) hz 5 [1] (pc' := 82) (lv' := [some (.inr 13), some (.inl x1), some (.inl x2), some (.inl r4), some (.inl (M 13 2))]) (st' := []) (M' := M9) (P := (0 ≤ (M 13 2) ∧ (M 13 2) < 16) ∧ (¬ (M9 16 (M 13 2).toNat) = 0) ∧ True) rfl ⟨h23, hc, trivial⟩ ?_
        refine ite_elim h (fun hc h => ?_) (fun hc h => ?_)
        · refine a_run (md qX3_addFix_ok) hz 3 [0] (pc' := 88) (lv' := [some (.inr 13), some (.inl x1), some (.inl x2), some (.inl r4), some (.inl (M 13 2))]) (st' := []) (M' := M9) (P := (¬ ¬ r4 = (-6 : Int)) ∧ True) rfl ⟨fun h9 => h9 hc, trivial⟩ ?_
          refine a_run (md qX3_addFix_ok) hz 3 [] (pc' := 92) (lv' := [some (.inr 13), some (.inl x1), some (.inl x2), some (.inl r4), some (.inl (M 13 2))]) (st' := [.inl (0 : Int), .inl (M 13 2), .inr 13]) (M' := M9) (P := True) rfl trivial ?_
          obtain ⟨M20, hr, h⟩ := cal_elim h
          refine a_fV (as := [.inl (M 13 2), .inl (0 : Int)]) (a := 13) (st := []) (mX3_beginPiece z.1 hr) (md qX3_addFix_ok) qX3_beginPiece_ok hz lkX3_70 rfl 2 0 (by decide +kernel) rfl rfl rfl rfl ?_
          show Aw z 95 [some (.inr 13), some (.inl x1), some (.inl x2), some (.inl r4), some (.inl (M 13 2))] [] M20
          refine a_run (md qX3_addFix_ok) hz 1 [] (pc' := 146) (lv' := [some (.inr 13), some (.inl x1), some (.inl x2), some (.inl r4), some (.inl (M 13 2))]) (st' := []) (M' := M20) (P := True) rfl trivial ?_
          refine a_mask [true, false, false, false, false] ?_
          exact hK2 M20 h
        · refine a_run (md qX3_addFix_ok) hz 3 [1] (pc' := 98) (lv' := [some (.inr 13), some (.inl x1), some (.inl x2), some (.inl r4), some (.inl (M 13 2))]) (st' := []) (M' := M9) (P := (¬ r4 = (-6 : Int)) ∧ True) rfl ⟨hc, trivial⟩ ?_
          refine a_run (md qX3_addFix_ok) hz 3 [] (pc' := 102) (lv' := [some (.inr 13), some (.inl x1), some (.inl x2), some (.inl r4), some (.inl (M 13 2))]) (st' := [.inl r4, .inl (M 13 2), .inr 13]) (M' := M9) (P := True) rfl trivial ?_
          obtain ⟨r10, M11, hr, h⟩ := cal2_elim h
          refine a_fV (as := [.inl (M 13 2), .inl r4]) (a := 13) (st := []) (mX3_goesOn z.1 hr) (md qX3_addFix_ok) qX3_goesOn_ok hz lkX3_74 rfl 2 0 (by decide +kernel) rfl rfl rfl rfl ?_
          show Aw z 105 [some (.inr 13), some (.inl x1), some (.inl x2), some (.inl r4), some (.inl (M 13 2))] [.inl r10] M11
          refine ite_elim h (fun hc h => ?_) (fun hc h => ?_)
          · refine a_run (md qX3_addFix_ok) hz 1 [1] (pc' := 132) (lv' := [some (.inr 13), some (.inl x1), some (.inl x2), some (.inl r4), some (.inl (M 13 2))]) (st' := []) (M' := M11) (P := (r10 = 0) ∧ True) rfl ⟨hc, trivial⟩ ?_
            obtain ⟨⟨h13, h14⟩, h⟩ := gd_elim h
            refine a_run (md qX3_addFix_ok) hz 8 [] (pc' := 143) (lv' := [some (.inr 13), some (.inl x1), some (.inl x2), some (.inl r4), some (.inl (M 13 2))]) (st' := [.inl ((M11 17 r4.toNat) + (1 : Int)), .inl (M 13 2), .inr 13]) (M' := M11) (P := (0 ≤ r4 ∧ r4 < 16) ∧ (inR ((M11 17 r4.toNat) + (1 : Int))) ∧ True) rfl ⟨h13, h14, trivial⟩ ?_
            obtain ⟨M12, hr, h⟩ := cal_elim h
            refine a_fV (as := [.inl (M 13 2), .inl ((M11 17 r4.toNat) + (1 : Int))]) (a := 13) (st := []) (mX3_beginPiece z.1 hr) (md qX3_addFix_ok) qX3_beginPiece_ok hz lkX3_70 rfl 2 0 (by decide +kernel) rfl rfl rfl rfl ?_
            show Aw z 146 [some (.inr 13), some (.inl x1), some (.inl x2), some (.inl r4), some (.inl (M 13 2))] [] M12
            refine a_mask [true, false, false, false, false] ?_
            exact hK2 M12 h
          · refine a_run (md qX3_addFix_ok) hz 1 [0] (pc' := 108) (lv' := [some (.inr 13), some (.inl x1), some (.inl x2), some (.inl r4), some (.inl (M 13 2))]) (st' := []) (M' := M11) (P := (¬ (r10 = 0)) ∧ True) rfl ⟨hc, trivial⟩ ?_
            obtain ⟨⟨h18, h19⟩, h⟩ := gd_elim h
            refine a_run (md qX3_addFix_ok) hz 8 [] (pc' := 121) (lv' := [some (.inr 13), some (.inl x1), some (.inl x2), some (.inl r4), some (.inl (M 13 2))]) (st' := []) (M' := (up M11 17 (M 13 2).toNat (M11 17 r4.toNat))) (P := (0 ≤ r4 ∧ r4 < 16) ∧ (0 ≤ (M 13 2) ∧ (M 13 2) < 16) ∧ True) rfl ⟨h18, h19, trivial⟩ ?_
            refine bnd_elim (G := fun (M15 : Mm) => Aw z 121 [some (.inr 13), some (.inl x1), some (.inl x2), some (.inl r4), some (.inl (M 13 2))] [] M15) h (fun M15 h => ?_)
            obtain ⟨h17, h⟩ := gd_elim h
            refine a_run (md qX3_addFix_ok) hz 5 [] (pc' := 129) (lv' := [some (.inr 13), some (.inl x1), some (.inl x2), some (.inl r4), some (.inl (M 13 2))]) (st' := []) (M' := (up M15 18 (M 13 2).toNat r4)) (P := (0 ≤ (M 13 2) ∧ (M 13 2) < 16) ∧ True) rfl ⟨h17, trivial⟩ ?_
            refine bnd_elim (G := fun (M16 : Mm) => Aw z 129 [some (.inr 13), some (.inl x1), some (.inl x2), some (.inl r4), some (.inl (M 13 2))] [] M16) h (fun M16 h => ?_)
            refine a_run (md qX3_addFix_ok) hz 1 [] (pc' := 146) (lv' := [some (.inr 13), some (.inl x1), some (.inl x2), some (.inl r4), some (.inl (M 13 2))]) (st' := []) (M' := M16) (P := True) rfl trivial ?_
            refine a_mask [true, false, false, false, false] ?_
            exact hK2 M16 h
  · refine a_run (md qX3_addFix_ok) hz 4 [0] (pc' := 9) (lv' := [some (.inr 13), some (.inl x1), some (.inl x2), none, none]) (st' := []) (M' := M) (P := (¬ ((M 13 2) < (16 : Int))) ∧ True) rfl ⟨hc, trivial⟩ ?_
    exact a_rv (md qX3_addFix_ok) hz hR rfl rfl h
def fX3_dropFix (M : Mm) : Option (Mm) := if 0 < (M 13 2) then gd ((inR ((M 13 2) - (1 : Int)))) (bnd (up M 13 2 ((M 13 2) - (1 : Int))) (fun (M1 : Mm) => cal (fX3_settle 2 M1) (fun (M2 : Mm) => some M2))) else some M
set_option maxRecDepth 100000 in
theorem mX3_dropFix (g : Gx) {M : Mm} {M2 : Mm} (h : fX3_dropFix M = some M2) : Ct g qX3_dropFix [.inr 13] M (fun r' M' => r' = none ∧ M' = M2) := by
  refine c_ofV h qX3_dropFix_ok (Nat.le_of_ble_eq_true rfl) (fun z hz Q hR h => ?_)
  unfold fX3_dropFix at h
  show Aw z 0 [some (.inr 13)] [] M
  refine ite_elim h (fun hc h => ?_) (fun hc h => ?_)
  · refine a_run (md qX3_dropFix_ok) hz 3 [1] (pc' := 8) (lv' := [some (.inr 13)]) (st' := []) (M' := M) (P := (0 < (M 13 2)) ∧ True) rfl ⟨hc, trivial⟩ ?_
    obtain ⟨h3, h⟩ := gd_elim h
    refine a_run (md qX3_dropFix_ok) hz 6 [] (pc' := 18) (lv' := [some (.inr 13)]) (st' := []) (M' := (up M 13 2 ((M 13 2) - (1 : Int)))) (P := (inR ((M 13 2) - (1 : Int))) ∧ True) rfl ⟨h3, trivial⟩ ?_
    refine bnd_elim (G := fun (M1 : Mm) => Aw z 18 [some (.inr 13)] [] M1) h (fun M1 h => ?_)
    refine a_run (md qX3_dropFix_ok) hz 1 [] (pc' := 19) (lv' := [some (.inr 13)]) (st' := [.inr 13]) (M' := M1) (P := True) rfl trivial ?_
    obtain ⟨M2, hr, h⟩ := cal_elim h
    refine a_fV (as := []) (a := 13) (st := []) (mX3_settle_2 z.1 hr) (md qX3_dropFix_ok) qX3_settle_ok hz lkX3_78 rfl 0 0 (by decide +kernel) rfl rfl rfl rfl ?_
    show Aw z 22 [some (.inr 13)] [] M2
    exact a_rv (md qX3_dropFix_ok) hz hR rfl rfl h
  · refine a_run (md qX3_dropFix_ok) hz 3 [0] (pc' := 7) (lv' := [some (.inr 13)]) (st' := []) (M' := M) (P := (¬ (0 < (M 13 2))) ∧ True) rfl ⟨hc, trivial⟩ ?_
    exact a_rv (md qX3_dropFix_ok) hz hR rfl rfl h
def fX3_tellCandidate (M : Mm) (x1 : Int) (x2 : Int) (x3 : Int) : Option (Int) := cal (fX3_hasCandidate 2 M x1 x2) (fun (r1 : Int) => if r1 = 0 then some (-6 : Int) else if x3 = 0 then cal (fX3_slot M x1 x2) (fun (r2 : Int) => gd ((0 ≤ r2 ∧ r2 < 320)) (some (M 19 r2.toNat))) else if x3 = 1 then cal (fX3_slot M x1 x2) (fun (r4 : Int) => gd ((0 ≤ r4 ∧ r4 < 320)) (some (M 20 r4.toNat))) else if x3 = 2 then cal (fX3_slot M x1 x2) (fun (r6 : Int) => gd ((0 ≤ r6 ∧ r6 < 320)) (some (M 21 r6.toNat))) else cal (fX3_slot M x1 x2) (fun (r8 : Int) => gd ((0 ≤ r8 ∧ r8 < 320)) (some (M 22 r8.toNat))))
set_option maxRecDepth 100000 in
theorem mX3_tellCandidate (g : Gx) {M : Mm} {x1 : Int} {x2 : Int} {x3 : Int} {r : Int} (h : fX3_tellCandidate M x1 x2 x3 = some r) : Ct g qX3_tellCandidate [.inr 13, .inl x1, .inl x2, .inl x3] M (fun r' M' => r' = some r ∧ M' = M) := by
  refine c_ofP h qX3_tellCandidate_ok (Nat.le_of_ble_eq_true rfl) (fun z hz Q hR h => ?_)
  unfold fX3_tellCandidate at h
  show Aw z 0 [some (.inr 13), some (.inl x1), some (.inl x2), some (.inl x3)] [] M
  refine a_run (md qX3_tellCandidate_ok) hz 3 [] (pc' := 3) (lv' := [some (.inr 13), some (.inl x1), some (.inl x2), some (.inl x3)]) (st' := [.inl x2, .inl x1, .inr 13]) (M' := M) (P := True) rfl trivial ?_
  obtain ⟨r1, hr, h⟩ := cal_elim h
  refine a_fV (as := [.inl x1, .inl x2]) (a := 13) (st := []) (mX3_hasCandidate_2 z.1 hr) (md qX3_tellCandidate_ok) qX3_hasCandidate_ok hz lkX3_118 rfl 2 0 (by decide +kernel) rfl rfl rfl rfl ?_
  show Aw z 6 [some (.inr 13), some (.inl x1), some (.inl x2), some (.inl x3)] [.inl r1] M
  refine ite_elim h (fun hc h => ?_) (fun hc h => ?_)
  · refine a_run (md qX3_tellCandidate_ok) hz 1 [0] (pc' := 9) (lv' := [some (.inr 13), some (.inl x1), some (.inl x2), some (.inl x3)]) (st' := []) (M' := M) (P := (¬ ¬ r1 = 0) ∧ True) rfl ⟨fun h9 => h9 hc, trivial⟩ ?_
    refine a_run (md qX3_tellCandidate_ok) hz 1 [] (pc' := 11) (lv' := [some (.inr 13), some (.inl x1), some (.inl x2), some (.inl x3)]) (st' := [.inl (-6 : Int)]) (M' := M) (P := True) rfl trivial ?_
    exact a_ri (md qX3_tellCandidate_ok) hz hR rfl (Or.inl rfl) h
  · refine a_run (md qX3_tellCandidate_ok) hz 1 [1] (pc' := 12) (lv' := [some (.inr 13), some (.inl x1), some (.inl x2), some (.inl x3)]) (st' := []) (M' := M) (P := (¬ r1 = 0) ∧ True) rfl ⟨hc, trivial⟩ ?_
    refine ite_elim h (fun hs0 h => ?_) (fun hs0 h => ?_)
    · refine a_run (md qX3_tellCandidate_ok) hz 2 [0] (pc' := 40) (lv' := [some (.inr 13), some (.inl x1), some (.inl x2), some (.inl x3)]) (st' := []) (M' := M) (P := (x3 = (0 : Int) + ((0 : Nat) : Int)) ∧ True) rfl ⟨hs0.trans (by decide), trivial⟩ ?_
      refine a_run (md qX3_tellCandidate_ok) hz 4 [] (pc' := 46) (lv' := [some (.inr 13), some (.inl x1), some (.inl x2), some (.inl x3)]) (st' := [.inl x2, .inl x1, .inr 19]) (M' := M) (P := True) rfl trivial ?_
      obtain ⟨r2, hr, h⟩ := cal_elim h
      refine a_fS (as := [.inl x1, .inl x2]) (st := [.inr 19]) (mX3_slot z.1 hr) (md qX3_tellCandidate_ok) qX3_slot_ok hz lkX3_98 rfl 2 1 (by decide +kernel) rfl rfl ?_
      show Aw z 49 [some (.inr 13), some (.inl x1), some (.inl x2), some (.inl x3)] [.inl r2, .inr 19] M
      obtain ⟨h3, h⟩ := gd_elim h
      refine a_run (md qX3_tellCandidate_ok) hz 1 [] (pc' := 50) (lv' := [some (.inr 13), some (.inl x1), some (.inl x2), some (.inl x3)]) (st' := [.inl (M 19 r2.toNat)]) (M' := M) (P := (0 ≤ r2 ∧ r2 < 320) ∧ True) rfl ⟨h3, trivial⟩ ?_
      exact a_ri (md qX3_tellCandidate_ok) hz hR rfl (Or.inl rfl) h
    · refine ite_elim h (fun hs1 h => ?_) (fun hs1 h => ?_)
      · refine a_run (md qX3_tellCandidate_ok) hz 2 [1] (pc' := 51) (lv' := [some (.inr 13), some (.inl x1), some (.inl x2), some (.inl x3)]) (st' := []) (M' := M) (P := (x3 = (0 : Int) + ((1 : Nat) : Int)) ∧ True) rfl ⟨hs1.trans (by decide), trivial⟩ ?_
        refine a_run (md qX3_tellCandidate_ok) hz 4 [] (pc' := 57) (lv' := [some (.inr 13), some (.inl x1), some (.inl x2), some (.inl x3)]) (st' := [.inl x2, .inl x1, .inr 20]) (M' := M) (P := True) rfl trivial ?_
        obtain ⟨r4, hr, h⟩ := cal_elim h
        refine a_fS (as := [.inl x1, .inl x2]) (st := [.inr 20]) (mX3_slot z.1 hr) (md qX3_tellCandidate_ok) qX3_slot_ok hz lkX3_98 rfl 2 1 (by decide +kernel) rfl rfl ?_
        show Aw z 60 [some (.inr 13), some (.inl x1), some (.inl x2), some (.inl x3)] [.inl r4, .inr 20] M
        obtain ⟨h5, h⟩ := gd_elim h
        refine a_run (md qX3_tellCandidate_ok) hz 1 [] (pc' := 61) (lv' := [some (.inr 13), some (.inl x1), some (.inl x2), some (.inl x3)]) (st' := [.inl (M 20 r4.toNat)]) (M' := M) (P := (0 ≤ r4 ∧ r4 < 320) ∧ True) rfl ⟨h5, trivial⟩ ?_
        exact a_ri (md qX3_tellCandidate_ok) hz hR rfl (Or.inl rfl) h
      · refine ite_elim h (fun hs2 h => ?_) (fun hs2 h => ?_)
        · refine a_run (md qX3_tellCandidate_ok) hz 2 [2] (pc' := 62) (lv' := [some (.inr 13), some (.inl x1), some (.inl x2), some (.inl x3)]) (st' := []) (M' := M) (P := (x3 = (0 : Int) + ((2 : Nat) : Int)) ∧ True) rfl ⟨hs2.trans (by decide), trivial⟩ ?_
          refine a_run (md qX3_tellCandidate_ok) hz 4 [] (pc' := 68) (lv' := [some (.inr 13), some (.inl x1), some (.inl x2), some (.inl x3)]) (st' := [.inl x2, .inl x1, .inr 21]) (M' := M) (P := True) rfl trivial ?_
          obtain ⟨r6, hr, h⟩ := cal_elim h
          refine a_fS (as := [.inl x1, .inl x2]) (st := [.inr 21]) (mX3_slot z.1 hr) (md qX3_tellCandidate_ok) qX3_slot_ok hz lkX3_98 rfl 2 1 (by decide +kernel) rfl rfl ?_
          show Aw z 71 [some (.inr 13), some (.inl x1), some (.inl x2), some (.inl x3)] [.inl r6, .inr 21] M
          obtain ⟨h7, h⟩ := gd_elim h
          refine a_run (md qX3_tellCandidate_ok) hz 1 [] (pc' := 72) (lv' := [some (.inr 13), some (.inl x1), some (.inl x2), some (.inl x3)]) (st' := [.inl (M 21 r6.toNat)]) (M' := M) (P := (0 ≤ r6 ∧ r6 < 320) ∧ True) rfl ⟨h7, trivial⟩ ?_
          exact a_ri (md qX3_tellCandidate_ok) hz hR rfl (Or.inl rfl) h
        · refine a_run (md qX3_tellCandidate_ok) hz 2 [3] (pc' := 73) (lv' := [some (.inr 13), some (.inl x1), some (.inl x2), some (.inl x3)]) (st' := []) (M' := M) (P := (x3 < (0 : Int) ∨ (2 : Int) < x3) ∧ True) rfl ⟨by omega, trivial⟩ ?_
          refine a_run (md qX3_tellCandidate_ok) hz 4 [] (pc' := 79) (lv' := [some (.inr 13), some (.inl x1), some (.inl x2), some (.inl x3)]) (st' := [.inl x2, .inl x1, .inr 22]) (M' := M) (P := True) rfl trivial ?_
          obtain ⟨r8, hr, h⟩ := cal_elim h
          refine a_fS (as := [.inl x1, .inl x2]) (st := [.inr 22]) (mX3_slot z.1 hr) (md qX3_tellCandidate_ok) qX3_slot_ok hz lkX3_98 rfl 2 1 (by decide +kernel) rfl rfl ?_
          show Aw z 82 [some (.inr 13), some (.inl x1), some (.inl x2), some (.inl x3)] [.inl r8, .inr 22] M
          obtain ⟨h9, h⟩ := gd_elim h
          refine a_run (md qX3_tellCandidate_ok) hz 1 [] (pc' := 83) (lv' := [some (.inr 13), some (.inl x1), some (.inl x2), some (.inl x3)]) (st' := [.inl (M 22 r8.toNat)]) (M' := M) (P := (0 ≤ r8 ∧ r8 < 320) ∧ True) rfl ⟨h9, trivial⟩ ?_
          exact a_ri (md qX3_tellCandidate_ok) hz hR rfl (Or.inl rfl) h
def fX3_chosenSpot (M : Mm) (x1 : Int) : Option (Int) := cal (fX3_hasFix 2 M x1) (fun (r1 : Int) => if r1 = 0 then some (-6 : Int) else gd ((0 ≤ x1 ∧ x1 < 16)) (cal (fX3_hasCandidate 2 M x1 (M 23 x1.toNat)) (fun (r2 : Int) => if r2 = 0 then some (-6 : Int) else cal (fX3_slot M x1 (M 23 x1.toNat)) (fun (r3 : Int) => gd ((0 ≤ r3 ∧ r3 < 320)) (some (M 19 r3.toNat))))))
set_option maxRecDepth 100000 in
theorem mX3_chosenSpot (g : Gx) {M : Mm} {x1 : Int} {r : Int} (h : fX3_chosenSpot M x1 = some r) : Ct g qX3_chosenSpot [.inr 13, .inl x1] M (fun r' M' => r' = some r ∧ M' = M) := by
  refine c_ofP h qX3_chosenSpot_ok (Nat.le_of_ble_eq_true rfl) (fun z hz Q hR h => ?_)
  unfold fX3_chosenSpot at h
  show Aw z 0 [some (.inr 13), some (.inl x1), none] [] M
  refine a_run (md qX3_chosenSpot_ok) hz 2 [] (pc' := 2) (lv' := [some (.inr 13), some (.inl x1), none]) (st' := [.inl x1, .inr 13]) (M' := M) (P := True) rfl trivial ?_
  obtain ⟨r1, hr, h⟩ := cal_elim h
  refine a_fV (as := [.inl x1]) (a := 13) (st := []) (mX3_hasFix_2 z.1 hr) (md qX3_chosenSpot_ok) qX3_hasFix_ok hz lkX3_58 rfl 1 0 (by decide +kernel) rfl rfl rfl rfl ?_
  show Aw z 5 [some (.inr 13), some (.inl x1), none] [.inl r1] M
  refine ite_elim h (fun hc h => ?_) (fun hc h => ?_)
  · refine a_run (md qX3_chosenSpot_ok) hz 1 [0] (pc' := 8) (lv' := [some (.inr 13), some (.inl x1), none]) (st' := []) (M' := M) (P := (¬ ¬ r1 = 0) ∧ True) rfl ⟨fun h9 => h9 hc, trivial⟩ ?_
    refine a_run (md qX3_chosenSpot_ok) hz 1 [] (pc' := 10) (lv' := [some (.inr 13), some (.inl x1), none]) (st' := [.inl (-6 : Int)]) (M' := M) (P := True) rfl trivial ?_
    exact a_ri (md qX3_chosenSpot_ok) hz hR rfl (Or.inl rfl) h
  · refine a_run (md qX3_chosenSpot_ok) hz 1 [1] (pc' := 11) (lv' := [some (.inr 13), some (.inl x1), none]) (st' := []) (M' := M) (P := (¬ r1 = 0) ∧ True) rfl ⟨hc, trivial⟩ ?_
    obtain ⟨h5, h⟩ := gd_elim h
    refine a_run (md qX3_chosenSpot_ok) hz 8 [] (pc' := 21) (lv' := [some (.inr 13), some (.inl x1), some (.inl (M 23 x1.toNat))]) (st' := [.inl (M 23 x1.toNat), .inl x1, .inr 13]) (M' := M) (P := (0 ≤ x1 ∧ x1 < 16) ∧ True) rfl ⟨h5, trivial⟩ ?_
    obtain ⟨r2, hr, h⟩ := cal_elim h
    refine a_fV (as := [.inl x1, .inl (M 23 x1.toNat)]) (a := 13) (st := []) (mX3_hasCandidate_2 z.1 hr) (md qX3_chosenSpot_ok) qX3_hasCandidate_ok hz lkX3_118 rfl 2 0 (by decide +kernel) rfl rfl rfl rfl ?_
    show Aw z 24 [some (.inr 13), some (.inl x1), some (.inl (M 23 x1.toNat))] [.inl r2] M
    refine ite_elim h (fun hc h => ?_) (fun hc h => ?_)
    · refine a_run (md qX3_chosenSpot_ok) hz 1 [1] (pc' := 40) (lv' := [some (.inr 13), some (.inl x1), some (.inl (M 23 x1.toNat))]) (st' := []) (M' := M) (P := (r2 = 0) ∧ True) rfl ⟨hc, trivial⟩ ?_
      refine a_run (md qX3_chosenSpot_ok) hz 1 [] (pc' := 42) (lv' := [some (.inr 13), some (.inl x1), some (.inl (M 23 x1.toNat))]) (st' := [.inl (-6 : Int)]) (M' := M) (P := True) rfl trivial ?_
      exact a_ri (md qX3_chosenSpot_ok) hz hR rfl (Or.inl rfl) h
    · refine a_run (md qX3_chosenSpot_ok) hz 1 [0] (pc' := 27) (lv' := [some (.inr 13), some (.inl x1), some (.inl (M 23 x1.toNat))]) (st' := []) (M' := M) (P := (¬ (r2 = 0)) ∧ True) rfl ⟨hc, trivial⟩ ?_
      refine a_run (md qX3_chosenSpot_ok) hz 4 [] (pc' := 33) (lv' := [some (.inr 13), some (.inl x1), some (.inl (M 23 x1.toNat))]) (st' := [.inl (M 23 x1.toNat), .inl x1, .inr 19]) (M' := M) (P := True) rfl trivial ?_
      obtain ⟨r3, hr, h⟩ := cal_elim h
      refine a_fS (as := [.inl x1, .inl (M 23 x1.toNat)]) (st := [.inr 19]) (mX3_slot z.1 hr) (md qX3_chosenSpot_ok) qX3_slot_ok hz lkX3_98 rfl 2 1 (by decide +kernel) rfl rfl ?_
      show Aw z 36 [some (.inr 13), some (.inl x1), some (.inl (M 23 x1.toNat))] [.inl r3, .inr 19] M
      obtain ⟨h4, h⟩ := gd_elim h
      refine a_run (md qX3_chosenSpot_ok) hz 2 [] (pc' := 42) (lv' := [some (.inr 13), some (.inl x1), some (.inl (M 23 x1.toNat))]) (st' := [.inl (M 19 r3.toNat)]) (M' := M) (P := (0 ≤ r3 ∧ r3 < 320) ∧ True) rfl ⟨h4, trivial⟩ ?_
      exact a_ri (md qX3_chosenSpot_ok) hz hR rfl (Or.inl rfl) h
def fX3_stepStart (M : Mm) (x1 : Int) : Option (Int) := jn (some (-6 : Int)) (fun (K1 : Option (Int)) => cal (fX3_isGap 2 M x1) (fun (r2 : Int) => if r2 = 0 then gd ((0 ≤ x1 ∧ x1 < 16)) (if (M 18 x1.toNat) = (-6 : Int) then K1 else gd ((0 ≤ x1 ∧ x1 < 16)) (cal (fX3_chosenSpot M (M 18 x1.toNat)) (fun (r3 : Int) => some r3))) else K1))
set_option maxRecDepth 100000 in
theorem mX3_stepStart (g : Gx) {M : Mm} {x1 : Int} {r : Int} (h : fX3_stepStart M x1 = some r) : Ct g qX3_stepStart [.inr 13, .inl x1] M (fun r' M' => r' = some r ∧ M' = M) := by
  refine c_ofP h qX3_stepStart_ok (Nat.le_of_ble_eq_true rfl) (fun z hz Q hR h => ?_)
  unfold fX3_stepStart at h
  show Aw z 0 [some (.inr 13), some (.inl x1)] [] M
  refine jn_elim h (fun (K1 : Option (Int)) => OK (K1) (fun r2 => Q (some r2) M) → Aw z 19 [none, none] [] M) (fun h => ?_) (fun K1 hK1 h => ?_)
  · refine a_run (md qX3_stepStart_ok) hz 2 [] (pc' := 34) (lv' := [none, none]) (st' := [.inl (-6 : Int)]) (M' := M) (P := True) rfl trivial ?_
    exact a_ri (md qX3_stepStart_ok) hz hR rfl (Or.inl rfl) h
  · refine a_run (md qX3_stepStart_ok) hz 2 [] (pc' := 2) (lv' := [some (.inr 13), some (.inl x1)]) (st' := [.inl x1, .inr 13]) (M' := M) (P := True) rfl trivial ?_
    obtain ⟨r2, hr, h⟩ := cal_elim h
    refine a_fV (as := [.inl x1]) (a := 13) (st := []) (mX3_isGap_2 z.1 hr) (md qX3_stepStart_ok) qX3_isGap_ok hz lkX3_81 rfl 1 0 (by decide +kernel) rfl rfl rfl rfl ?_
    show Aw z 5 [some (.inr 13), some (.inl x1)] [.inl r2] M
    refine ite_elim h (fun hc h => ?_) (fun hc h => ?_)
    · refine a_run (md qX3_stepStart_ok) hz 1 [0] (pc' := 8) (lv' := [some (.inr 13), some (.inl x1)]) (st' := []) (M' := M) (P := (¬ ¬ r2 = 0) ∧ True) rfl ⟨fun h9 => h9 hc, trivial⟩ ?_
      obtain ⟨h5, h⟩ := gd_elim h
      refine ite_elim h (fun hc h => ?_) (fun hc h => ?_)
      · refine a_run (md qX3_stepStart_ok) hz 6 [0] (pc' := 19) (lv' := [some (.inr 13), some (.inl x1)]) (st' := []) (M' := M) (P := (0 ≤ x1 ∧ x1 < 16) ∧ (¬ ¬ (M 18 x1.toNat) = (-6 : Int)) ∧ True) rfl ⟨h5, fun h9 => h9 hc, trivial⟩ ?_
        refine a_mask [false, false] ?_
        exact hK1  h
      · refine a_run (md qX3_stepStart_ok) hz 6 [1] (pc' := 24) (lv' := [some (.inr 13), some (.inl x1)]) (st' := []) (M' := M) (P := (0 ≤ x1 ∧ x1 < 16) ∧ (¬ (M 18 x1.toNat) = (-6 : Int)) ∧ True) rfl ⟨h5, hc, trivial⟩ ?_
        obtain ⟨h4, h⟩ := gd_elim h
        refine a_run (md qX3_stepStart_ok) hz 5 [] (pc' := 31) (lv' := [some (.inr 13), some (.inl x1)]) (st' := [.inl (M 18 x1.toNat), .inr 13]) (M' := M) (P := (0 ≤ x1 ∧ x1 < 16) ∧ True) rfl ⟨h4, trivial⟩ ?_
        obtain ⟨r3, hr, h⟩ := cal_elim h
        refine a_fV (as := [.inl (M 18 x1.toNat)]) (a := 13) (st := []) (mX3_chosenSpot z.1 hr) (md qX3_stepStart_ok) qX3_chosenSpot_ok hz lkX3_141 rfl 1 0 (by decide +kernel) rfl rfl rfl rfl ?_
        show Aw z 34 [some (.inr 13), some (.inl x1)] [.inl r3] M
        exact a_ri (md qX3_stepStart_ok) hz hR rfl (Or.inl rfl) h
    · refine a_run (md qX3_stepStart_ok) hz 1 [1] (pc' := 19) (lv' := [some (.inr 13), some (.inl x1)]) (st' := []) (M' := M) (P := (¬ r2 = 0) ∧ True) rfl ⟨hc, trivial⟩ ?_
      refine a_mask [false, false] ?_
      exact hK1  h
def fX3_stepLength (M : Mm) (x1 : Int) : Option (Int) := cal (fX3_stepStart M x1) (fun (r1 : Int) => if r1 = (-6 : Int) then some (-6 : Int) else cal (fX3_chosenSpot M x1) (fun (r2 : Int) => cal (fX0_wayLength M r1 r2) (fun (r3 : Int) => some r3)))
set_option maxRecDepth 100000 in
theorem mX3_stepLength (g : Gx) {M : Mm} {x1 : Int} {r : Int} (h : fX3_stepLength M x1 = some r) : Ct g qX3_stepLength [.inr 13, .inl x1] M (fun r' M' => r' = some r ∧ M' = M) := by
  refine c_ofP h qX3_stepLength_ok (Nat.le_of_ble_eq_true rfl) (fun z hz Q hR h => ?_)
  unfold fX3_stepLength at h
  show Aw z 0 [some (.inr 13), some (.inl x1), none] [] M
  refine a_run (md qX3_stepLength_ok) hz 2 [] (pc' := 2) (lv' := [some (.inr 13), some (.inl x1), none]) (st' := [.inl x1, .inr 13]) (M' := M) (P := True) rfl trivial ?_
  obtain ⟨r1, hr, h⟩ := cal_elim h
  refine a_fV (as := [.inl x1]) (a := 13) (st := []) (mX3_stepStart z.1 hr) (md qX3_stepLength_ok) qX3_stepStart_ok hz lkX3_138 rfl 1 0 (by decide +kernel) rfl rfl rfl rfl ?_
  show Aw z 5 [some (.inr 13), some (.inl x1), none] [.inl r1] M
  refine ite_elim h (fun hc h => ?_) (fun hc h => ?_)
  · refine a_run (md qX3_stepLength_ok) hz 4 [0] (pc' := 12) (lv' := [some (.inr 13), some (.inl x1), some (.inl r1)]) (st' := []) (M' := M) (P := (¬ ¬ r1 = (-6 : Int)) ∧ True) rfl ⟨fun h9 => h9 hc, trivial⟩ ?_
    refine a_run (md qX3_stepLength_ok) hz 2 [] (pc' := 30) (lv' := [some (.inr 13), some (.inl x1), some (.inl r1)]) (st' := [.inl (-6 : Int)]) (M' := M) (P := True) rfl trivial ?_
    exact a_ri (md qX3_stepLength_ok) hz hR rfl (Or.inl rfl) h
  · refine a_run (md qX3_stepLength_ok) hz 4 [1] (pc' := 17) (lv' := [some (.inr 13), some (.inl x1), some (.inl r1)]) (st' := []) (M' := M) (P := (¬ r1 = (-6 : Int)) ∧ True) rfl ⟨hc, trivial⟩ ?_
    refine a_run (md qX3_stepLength_ok) hz 5 [] (pc' := 24) (lv' := [some (.inr 13), some (.inl x1), some (.inl r1)]) (st' := [.inl x1, .inr 13, .inl r1, .inr 3]) (M' := M) (P := True) rfl trivial ?_
    obtain ⟨r2, hr, h⟩ := cal_elim h
    refine a_fV (as := [.inl x1]) (a := 13) (st := [.inl r1, .inr 3]) (mX3_chosenSpot z.1 hr) (md qX3_stepLength_ok) qX3_chosenSpot_ok hz lkX3_141 rfl 1 2 (by decide +kernel) rfl rfl rfl rfl ?_
    show Aw z 27 [some (.inr 13), some (.inl x1), some (.inl r1)] [.inl r2, .inl r1, .inr 3] M
    obtain ⟨r3, hr, h⟩ := cal_elim h
    refine a_fV (as := [.inl r1, .inl r2]) (a := 3) (st := []) (mX0_wayLength z.1 hr) (md qX3_stepLength_ok) qX0_wayLength_ok hz lkX3_115 rfl 2 0 (by decide +kernel) rfl rfl rfl rfl ?_
    show Aw z 30 [some (.inr 13), some (.inl x1), some (.inl r1)] [.inl r3] M
    exact a_ri (md qX3_stepLength_ok) hz hR rfl (Or.inl rfl) h
def fX3_stepCrossing (M : Mm) (x1 : Int) (x2 : Int) : Option (Int) := cal (fX3_stepStart M x1) (fun (r1 : Int) => if r1 = (-6 : Int) then some (-6 : Int) else cal (fX3_chosenSpot M x1) (fun (r2 : Int) => cal (fX0_crossingOnWay M r1 r2 x2) (fun (r3 : Int) => some r3)))
set_option maxRecDepth 100000 in
theorem mX3_stepCrossing (g : Gx) {M : Mm} {x1 : Int} {x2 : Int} {r : Int} (h : fX3_stepCrossing M x1 x2 = some r) : Ct g qX3_stepCrossing [.inr 13, .inl x1, .inl x2] M (fun r' M' => r' = some r ∧ M' = M) := by
  refine c_ofP h qX3_stepCrossing_ok (Nat.le_of_ble_eq_true rfl) (fun z hz Q hR h => ?_)
  unfold fX3_stepCrossing at h
  show Aw z 0 [some (.inr 13), some (.inl x1), some (.inl x2), none] [] M
  refine a_run (md qX3_stepCrossing_ok) hz 2 [] (pc' := 2) (lv' := [some (.inr 13), some (.inl x1), some (.inl x2), none]) (st' := [.inl x1, .inr 13]) (M' := M) (P := True) rfl trivial ?_
  obtain ⟨r1, hr, h⟩ := cal_elim h
  refine a_fV (as := [.inl x1]) (a := 13) (st := []) (mX3_stepStart z.1 hr) (md qX3_stepCrossing_ok) qX3_stepStart_ok hz lkX3_138 rfl 1 0 (by decide +kernel) rfl rfl rfl rfl ?_
  show Aw z 5 [some (.inr 13), some (.inl x1), some (.inl x2), none] [.inl r1] M
  refine ite_elim h (fun hc h => ?_) (fun hc h => ?_)
  · refine a_run (md qX3_stepCrossing_ok) hz 4 [0] (pc' := 12) (lv' := [some (.inr 13), some (.inl x1), some (.inl x2), some (.inl r1)]) (st' := []) (M' := M) (P := (¬ ¬ r1 = (-6 : Int)) ∧ True) rfl ⟨fun h9 => h9 hc, trivial⟩ ?_
    refine a_run (md qX3_stepCrossing_ok) hz 2 [] (pc' := 31) (lv' := [some (.inr 13), some (.inl x1), some (.inl x2), some (.inl r1)]) (st' := [.inl (-6 : Int)]) (M' := M) (P := True) rfl trivial ?_
    exact a_ri (md qX3_stepCrossing_ok) hz hR rfl (Or.inl rfl) h
  · refine a_run (md qX3_stepCrossing_ok) hz 4 [1] (pc' := 17) (lv' := [some (.inr 13), some (.inl x1), some (.inl x2), some (.inl r1)]) (st' := []) (M' := M) (P := (¬ r1 = (-6 : Int)) ∧ True) rfl ⟨hc, trivial⟩ ?_
    refine a_run (md qX3_stepCrossing_ok) hz 5 [] (pc' := 24) (lv' := [some (.inr 13), some (.inl x1), some (.inl x2), some (.inl r1)]) (st' := [.inl x1, .inr 13, .inl r1, .inr 3]) (M' := M) (P := True) rfl trivial ?_
    obtain ⟨r2, hr, h⟩ := cal_elim h
    refine a_fV (as := [.inl x1]) (a := 13) (st := [.inl r1, .inr 3]) (mX3_chosenSpot z.1 hr) (md qX3_stepCrossing_ok) qX3_chosenSpot_ok hz lkX3_141 rfl 1 2 (by decide +kernel) rfl rfl rfl rfl ?_
    show Aw z 27 [some (.inr 13), some (.inl x1), some (.inl x2), some (.inl r1)] [.inl r2, .inl r1, .inr 3] M
    refine a_run (md qX3_stepCrossing_ok) hz 1 [] (pc' := 28) (lv' := [some (.inr 13), some (.inl x1), some (.inl x2), some (.inl r1)]) (st' := [.inl x2, .inl r2, .inl r1, .inr 3]) (M' := M) (P := True) rfl trivial ?_
    obtain ⟨r3, hr, h⟩ := cal_elim h
    refine a_fV (as := [.inl r1, .inl r2, .inl x2]) (a := 3) (st := []) (mX0_crossingOnWay z.1 hr) (md qX3_stepCrossing_ok) qX0_crossingOnWay_ok hz lkX3_144 rfl 3 0 (by decide +kernel) rfl rfl rfl rfl ?_
    show Aw z 31 [some (.inr 13), some (.inl x1), some (.inl x2), some (.inl r1)] [.inl r3] M
    exact a_ri (md qX3_stepCrossing_ok) hz hR rfl (Or.inl rfl) h
def fX3_endsPiece_L4 (x1 : Int) (M : Mm) (k30 : Option (Int)) : Nat → Int → Option (Int)
  | 0, _ => none
  | n + 1, v1 => if (M 13 2) ≤ v1 then k30 else gd ((0 ≤ v1 ∧ v1 < 16)) (if (M 18 v1.toNat) = x1 then some (0 : Int) else gd ((inR (v1 + (1 : Int)))) (fX3_endsPiece_L4 x1 M k30 n (v1 + (1 : Int))))
def fX3_endsPiece (M : Mm) (x1 : Int) : Option (Int) := gd ((inR (x1 + (1 : Int)))) (fX3_endsPiece_L4 x1 M (cal (fX3_isGap 2 M x1) (fun (r2 : Int) => if r2 = 0 then some (1 : Int) else some (0 : Int))) 1000 (x1 + (1 : Int)))
set_option maxRecDepth 100000 in
theorem mX3_endsPiece_L4 {z : Zx} (hz : Cx qX3_endsPiece z) {Q : Option Int → Mm → Prop} (hR : Rt Q z) {x1 : Int} {M : Mm} {k30 : Option (Int)} (hk30 : OK (k30) (fun r2 => Q (some r2) M) → Aw z 30 [some (.inr 13), some (.inl x1), none] [] M) : ∀ (n : Nat) (v1 : Int), OK (fX3_endsPiece_L4 x1 M k30 n v1) (fun r2 => Q (some r2) M) → Aw z 4 [some (.inr 13), some (.inl x1), some (.inl v1)] [] M := by
  intro n
  induction n with
  | zero =>
    intro v1 h
    exact (show False from h).elim
  | succ n ih =>
    intro v1 h
    unfold fX3_endsPiece_L4 at h
    refine ite_elim h (fun hc h => ?_) (fun hc h => ?_)
    · refine a_run (md qX3_endsPiece_ok) hz 4 [1] (pc' := 30) (lv' := [some (.inr 13), some (.inl x1), some (.inl v1)]) (st' := []) (M' := M) (P := ((M 13 2) ≤ v1) ∧ True) rfl ⟨hc, trivial⟩ ?_
      refine a_mask [true, true, false] ?_
      exact hk30  h
    · refine a_run (md qX3_endsPiece_ok) hz 4 [0] (pc' := 12) (lv' := [some (.inr 13), some (.inl x1), some (.inl v1)]) (st' := []) (M' := M) (P := (¬ ((M 13 2) ≤ v1)) ∧ True) rfl ⟨hc, trivial⟩ ?_
      obtain ⟨h4, h⟩ := gd_elim h
      refine ite_elim h (fun hc h => ?_) (fun hc h => ?_)
      · refine a_run (md qX3_endsPiece_ok) hz 6 [0] (pc' := 22) (lv' := [some (.inr 13), some (.inl x1), some (.inl v1)]) (st' := []) (M' := M) (P := (0 ≤ v1 ∧ v1 < 16) ∧ (¬ ¬ (M 18 v1.toNat) = x1) ∧ True) rfl ⟨h4, fun h9 => h9 hc, trivial⟩ ?_
        refine a_run (md qX3_endsPiece_ok) hz 1 [] (pc' := 23) (lv' := [some (.inr 13), some (.inl x1), some (.inl v1)]) (st' := [.inl (0 : Int)]) (M' := M) (P := True) rfl trivial ?_
        exact a_ri (md qX3_endsPiece_ok) hz hR rfl (Or.inr ⟨rfl, by decide⟩) h
      · refine a_run (md qX3_endsPiece_ok) hz 6 [1] (pc' := 24) (lv' := [some (.inr 13), some (.inl x1), some (.inl v1)]) (st' := []) (M' := M) (P := (0 ≤ v1 ∧ v1 < 16) ∧ (¬ (M 18 v1.toNat) = x1) ∧ True) rfl ⟨h4, hc, trivial⟩ ?_
        obtain ⟨h3, h⟩ := gd_elim h
        refine a_run (md qX3_endsPiece_ok) hz 2 [] (pc' := 4) (lv' := [some (.inr 13), some (.inl x1), some (.inl (v1 + (1 : Int)))]) (st' := []) (M' := M) (P := (inR (v1 + (1 : Int))) ∧ True) rfl ⟨h3, trivial⟩ ?_
        refine a_mask [true, true, true] ?_
        exact ih (v1 + (1 : Int)) h
set_option maxRecDepth 100000 in
theorem mX3_endsPiece (g : Gx) {M : Mm} {x1 : Int} {r : Int} (h : fX3_endsPiece M x1 = some r) : Ct g qX3_endsPiece [.inr 13, .inl x1] M (fun r' M' => r' = some r ∧ M' = M) := by
  refine c_ofP h qX3_endsPiece_ok (Nat.le_of_ble_eq_true rfl) (fun z hz Q hR h => ?_)
  unfold fX3_endsPiece at h
  show Aw z 0 [some (.inr 13), some (.inl x1), none] [] M
  obtain ⟨h5, h⟩ := gd_elim h
  refine a_run (md qX3_endsPiece_ok) hz 4 [] (pc' := 4) (lv' := [some (.inr 13), some (.inl x1), some (.inl (x1 + (1 : Int)))]) (st' := []) (M' := M) (P := (inR (x1 + (1 : Int))) ∧ True) rfl ⟨h5, trivial⟩ ?_
  refine a_mask [true, true, true] ?_
  refine mX3_endsPiece_L4 hz hR (fun  h => ?_) 1000 (x1 + (1 : Int)) h
  · refine a_run (md qX3_endsPiece_ok) hz 2 [] (pc' := 32) (lv' := [some (.inr 13), some (.inl x1), none]) (st' := [.inl x1, .inr 13]) (M' := M) (P := True) rfl trivial ?_
    obtain ⟨r2, hr, h⟩ := cal_elim h
    refine a_fV (as := [.inl x1]) (a := 13) (st := []) (mX3_isGap_2 z.1 hr) (md qX3_endsPiece_ok) qX3_isGap_ok hz lkX3_81 rfl 1 0 (by decide +kernel) rfl rfl rfl rfl ?_
    show Aw z 35 [some (.inr 13), some (.inl x1), none] [.inl r2] M
    refine ite_elim h (fun hc h => ?_) (fun hc h => ?_)
    · refine a_run (md qX3_endsPiece_ok) hz 1 [0] (pc' := 38) (lv' := [some (.inr 13), some (.inl x1), none]) (st' := []) (M' := M) (P := (¬ ¬ r2 = 0) ∧ True) rfl ⟨fun h9 => h9 hc, trivial⟩ ?_
      refine a_run (md qX3_endsPiece_ok) hz 2 [] (pc' := 43) (lv' := [some (.inr 13), some (.inl x1), none]) (st' := [.inl (1 : Int)]) (M' := M) (P := True) rfl trivial ?_
      exact a_ri (md qX3_endsPiece_ok) hz hR rfl (Or.inr ⟨rfl, by decide⟩) h
    · refine a_run (md qX3_endsPiece_ok) hz 1 [1] (pc' := 42) (lv' := [some (.inr 13), some (.inl x1), none]) (st' := []) (M' := M) (P := (¬ r2 = 0) ∧ True) rfl ⟨hc, trivial⟩ ?_
      refine a_run (md qX3_endsPiece_ok) hz 1 [] (pc' := 43) (lv' := [some (.inr 13), some (.inl x1), none]) (st' := [.inl (0 : Int)]) (M' := M) (P := True) rfl trivial ?_
      exact a_ri (md qX3_endsPiece_ok) hz hR rfl (Or.inr ⟨rfl, by decide⟩) h
def fX3_sumOfCosts_L4 (M : Mm) : Nat → Int → Int → Option (Int)
  | 0, _, _ => none
  | n + 1, v1, v2 => if (M 13 2) ≤ v2 then some v1 else jn (fun (v3 : Int) (v4 : Int) => gd ((inR (v4 + (1 : Int)))) (fX3_sumOfCosts_L4 M n v3 (v4 + (1 : Int)))) (fun (K5 : Int → Int → Option (Int)) => gd ((0 ≤ v2 ∧ v2 < 16)) (cal (fX3_endsPiece M v2) (fun (r7 : Int) => if r7 = 0 then K5 v1 v2 else cal (fX3_hasCandidate 2 M v2 (M 23 v2.toNat)) (fun (r8 : Int) => if r8 = 0 then K5 v1 v2 else cal (fX3_slot M v2 (M 23 v2.toNat)) (fun (r9 : Int) => gd ((0 ≤ r9 ∧ r9 < 320) ∧ (inR (v1 + (M 21 r9.toNat)))) (bnd (v1 + (M 21 r9.toNat)) (fun (t10 : Int) => K5 t10 v2)))))))
def fX3_sumOfCosts (M : Mm) : Option (Int) := fX3_sumOfCosts_L4 M 1000 (0 : Int) (0 : Int)
set_option maxRecDepth 100000 in
theorem mX3_sumOfCosts_L4 {z : Zx} (hz : Cx qX3_sumOfCosts z) {Q : Option Int → Mm → Prop} (hR : Rt Q z) {M : Mm} : ∀ (n : Nat) (v1 : Int) (v2 : Int), OK (fX3_sumOfCosts_L4 M n v1 v2) (fun r2 => Q (some r2) M) → Aw z 4 [some (.inr 13), some (.inl v1), some (.inl v2), none] [] M := by
  intro n
  induction n with
  | zero =>
    intro v1 v2 h
    exact (show False from h).elim
  | succ n ih =>
    intro v1 v2 h
    unfold fX3_sumOfCosts_L4 at h
    refine ite_elim h (fun hc h => ?_) (fun hc h => ?_)
    · refine a_run (md qX3_sumOfCosts_ok) hz 4 [1] (pc' := 55) (lv' := [some (.inr 13), some (.inl v1), some (.inl v2), none]) (st' := []) (M' := M) (P := ((M 13 2) ≤ v2) ∧ True) rfl ⟨hc, trivial⟩ ?_
      refine a_run (md qX3_sumOfCosts_ok) hz 1 [] (pc' := 56) (lv' := [some (.inr 13), some (.inl v1), some (.inl v2), none]) (st' := [.inl v1]) (M' := M) (P := True) rfl trivial ?_
      exact a_ri (md qX3_sumOfCosts_ok) hz hR rfl (Or.inl rfl) h
    · refine a_run (md qX3_sumOfCosts_ok) hz 4 [0] (pc' := 12) (lv' := [some (.inr 13), some (.inl v1), some (.inl v2), none]) (st' := []) (M' := M) (P := (¬ ((M 13 2) ≤ v2)) ∧ True) rfl ⟨hc, trivial⟩ ?_
      refine jn_elim h (fun (K5 : Int → Int → Option (Int)) => ∀ (v3 : Int), ∀ (v4 : Int), OK (K5 v3 v4) (fun r2 => Q (some r2) M) → Aw z 49 [some (.inr 13), some (.inl v3), some (.inl v4), none] [] M) (fun v3 v4 h => ?_) (fun K5 hK5 h => ?_)
      · obtain ⟨h6, h⟩ := gd_elim h
        refine a_run (md qX3_sumOfCosts_ok) hz 2 [] (pc' := 4) (lv' := [some (.inr 13), some (.inl v3), some (.inl (v4 + (1 : Int))), none]) (st' := []) (M' := M) (P := (inR (v4 + (1 : Int))) ∧ True) rfl ⟨h6, trivial⟩ ?_
        refine a_mask [true, true, true, false] ?_
        exact ih v3 (v4 + (1 : Int)) h
      · obtain ⟨h13, h⟩ := gd_elim h
        refine a_run (md qX3_sumOfCosts_ok) hz 7 [] (pc' := 21) (lv' := [some (.inr 13), some (.inl v1), some (.inl v2), some (.inl (M 23 v2.toNat))]) (st' := [.inl v2, .inr 13]) (M' := M) (P := (0 ≤ v2 ∧ v2 < 16) ∧ True) rfl ⟨h13, trivial⟩ ?_
        obtain ⟨r7, hr, h⟩ := cal_elim h
        refine a_fV (as := [.inl v2]) (a := 13) (st := []) (mX3_endsPiece z.1 hr) (md qX3_sumOfCosts_ok) qX3_endsPiece_ok hz lkX3_147 rfl 1 0 (by decide +kernel) rfl rfl rfl rfl ?_
        show Aw z 24 [some (.inr 13), some (.inl v1), some (.inl v2), some (.inl (M 23 v2.toNat))] [.inl r7] M
        refine ite_elim h (fun hc h => ?_) (fun hc h => ?_)
        · refine a_run (md qX3_sumOfCosts_ok) hz 1 [1] (pc' := 49) (lv' := [some (.inr 13), some (.inl v1), some (.inl v2), some (.inl (M 23 v2.toNat))]) (st' := []) (M' := M) (P := (r7 = 0) ∧ True) rfl ⟨hc, trivial⟩ ?_
          refine a_mask [true, true, true, false] ?_
          exact hK5 v1 v2 h
        · refine a_run (md qX3_sumOfCosts_ok) hz 1 [0] (pc' := 27) (lv' := [some (.inr 13), some (.inl v1), some (.inl v2), some (.inl (M 23 v2.toNat))]) (st' := []) (M' := M) (P := (¬ (r7 = 0)) ∧ True) rfl ⟨hc, trivial⟩ ?_
          refine a_run (md qX3_sumOfCosts_ok) hz 3 [] (pc' := 30) (lv' := [some (.inr 13), some (.inl v1), some (.inl v2), some (.inl (M 23 v2.toNat))]) (st' := [.inl (M 23 v2.toNat), .inl v2, .inr 13]) (M' := M) (P := True) rfl trivial ?_
          obtain ⟨r8, hr, h⟩ := cal_elim h
          refine a_fV (as := [.inl v2, .inl (M 23 v2.toNat)]) (a := 13) (st := []) (mX3_hasCandidate_2 z.1 hr) (md qX3_sumOfCosts_ok) qX3_hasCandidate_ok hz lkX3_118 rfl 2 0 (by decide +kernel) rfl rfl rfl rfl ?_
          show Aw z 33 [some (.inr 13), some (.inl v1), some (.inl v2), some (.inl (M 23 v2.toNat))] [.inl r8] M
          refine ite_elim h (fun hc h => ?_) (fun hc h => ?_)
          · refine a_run (md qX3_sumOfCosts_ok) hz 1 [1] (pc' := 49) (lv' := [some (.inr 13), some (.inl v1), some (.inl v2), some (.inl (M 23 v2.toNat))]) (st' := []) (M' := M) (P := (r8 = 0) ∧ True) rfl ⟨hc, trivial⟩ ?_
            refine a_mask [true, true, true, false] ?_
            exact hK5 v1 v2 h
          · refine a_run (md qX3_sumOfCosts_ok) hz 1 [0] (pc' := 36) (lv' := [some (.inr 13), some (.inl v1), some (.inl v2), some (.inl (M 23 v2.toNat))]) (st' := []) (M' := M) (P := (¬ (r8 = 0)) ∧ True) rfl ⟨hc, trivial⟩ ?_
            refine a_run (md qX3_sumOfCosts_ok) hz 5 [] (pc' := 43) (lv' := [some (.inr 13), some (.inl v1), some (.inl v2), some (.inl (M 23 v2.toNat))]) (st' := [.inl (M 23 v2.toNat), .inl v2, .inr 21, .inl v1]) (M' := M) (P := True) rfl trivial ?_
            obtain ⟨r9, hr, h⟩ := cal_elim h
            refine a_fS (as := [.inl v2, .inl (M 23 v2.toNat)]) (st := [.inr 21, .inl v1]) (mX3_slot z.1 hr) (md qX3_sumOfCosts_ok) qX3_slot_ok hz lkX3_98 rfl 2 2 (by decide +kernel) rfl rfl ?_
            show Aw z 46 [some (.inr 13), some (.inl v1), some (.inl v2), some (.inl (M 23 v2.toNat))] [.inl r9, .inr 21, .inl v1] M
            obtain ⟨⟨h11, h12⟩, h⟩ := gd_elim h
            refine a_run (md qX3_sumOfCosts_ok) hz 3 [] (pc' := 49) (lv' := [some (.inr 13), some (.inl (v1 + (M 21 r9.toNat))), some (.inl v2), some (.inl (M 23 v2.toNat))]) (st' := []) (M' := M) (P := (0 ≤ r9 ∧ r9 < 320) ∧ (inR (v1 + (M 21 r9.toNat))) ∧ True) rfl ⟨h11, h12, trivial⟩ ?_
            refine bnd_elim (G := fun (t10 : Int) => Aw z 49 [some (.inr 13), some (.inl t10), some (.inl v2), some (.inl (M 23 v2.toNat))] [] M) h (fun t10 h => ?_)
            refine a_mask [true, true, true, false] ?_
            exact hK5 t10 v2 h
set_option maxRecDepth 100000 in
theorem mX3_sumOfCosts (g : Gx) {M : Mm} {r : Int} (h : fX3_sumOfCosts M = some r) : Ct g qX3_sumOfCosts [.inr 13] M (fun r' M' => r' = some r ∧ M' = M) := by
  refine c_ofP h qX3_sumOfCosts_ok (Nat.le_of_ble_eq_true rfl) (fun z hz Q hR h => ?_)
  unfold fX3_sumOfCosts at h
  show Aw z 0 [some (.inr 13), none, none, none] [] M
  refine a_run (md qX3_sumOfCosts_ok) hz 4 [] (pc' := 4) (lv' := [some (.inr 13), some (.inl (0 : Int)), some (.inl (0 : Int)), none]) (st' := []) (M' := M) (P := True) rfl trivial ?_
  refine a_mask [true, true, true, false] ?_
  refine mX3_sumOfCosts_L4 hz hR  1000 (0 : Int) (0 : Int) h
def fX3_countPieces (M : Mm) : Option (Int) := cal (fX3_lastFixed M) (fun (r1 : Int) => if r1 = (-6 : Int) then some (0 : Int) else gd ((0 ≤ r1 ∧ r1 < 16) ∧ (inR ((M 17 r1.toNat) + (1 : Int)))) (some ((M 17 r1.toNat) + (1 : Int))))
set_option maxRecDepth 100000 in
theorem mX3_countPieces (g : Gx) {M : Mm} {r : Int} (h : fX3_countPieces M = some r) : Ct g qX3_countPieces [.inr 13] M (fun r' M' => r' = some r ∧ M' = M) := by
  refine c_ofP h qX3_countPieces_ok (Nat.le_of_ble_eq_true rfl) (fun z hz Q hR h => ?_)
  unfold fX3_countPieces at h
  show Aw z 0 [some (.inr 13), none] [] M
  refine a_run (md qX3_countPieces_ok) hz 1 [] (pc' := 1) (lv' := [some (.inr 13), none]) (st' := [.inr 13]) (M' := M) (P := True) rfl trivial ?_
  obtain ⟨r1, hr, h⟩ := cal_elim h
  refine a_fV (as := []) (a := 13) (st := []) (mX3_lastFixed z.1 hr) (md qX3_countPieces_ok) qX3_lastFixed_ok hz lkX3_62 rfl 0 0 (by decide +kernel) rfl rfl rfl rfl ?_
  show Aw z 4 [some (.inr 13), none] [.inl r1] M
  refine ite_elim h (fun hc h => ?_) (fun hc h => ?_)
  · refine a_run (md qX3_countPieces_ok) hz 4 [0] (pc' := 11) (lv' := [some (.inr 13), some (.inl r1)]) (st' := []) (M' := M) (P := (¬ ¬ r1 = (-6 : Int)) ∧ True) rfl ⟨fun h9 => h9 hc, trivial⟩ ?_
    refine a_run (md qX3_countPieces_ok) hz 2 [] (pc' := 23) (lv' := [some (.inr 13), some (.inl r1)]) (st' := [.inl (0 : Int)]) (M' := M) (P := True) rfl trivial ?_
    exact a_ri (md qX3_countPieces_ok) hz hR rfl (Or.inl rfl) h
  · refine a_run (md qX3_countPieces_ok) hz 4 [1] (pc' := 15) (lv' := [some (.inr 13), some (.inl r1)]) (st' := []) (M' := M) (P := (¬ r1 = (-6 : Int)) ∧ True) rfl ⟨hc, trivial⟩ ?_
    obtain ⟨⟨h2, h3⟩, h⟩ := gd_elim h
    refine a_run (md qX3_countPieces_ok) hz 6 [] (pc' := 23) (lv' := [some (.inr 13), some (.inl r1)]) (st' := [.inl ((M 17 r1.toNat) + (1 : Int))]) (M' := M) (P := (0 ≤ r1 ∧ r1 < 16) ∧ (inR ((M 17 r1.toNat) + (1 : Int))) ∧ True) rfl ⟨h2, h3, trivial⟩ ?_
    exact a_ri (md qX3_countPieces_ok) hz hR rfl (Or.inl rfl) h
def fX3_countGaps_L4 (M : Mm) : Nat → Int → Int → Option (Int)
  | 0, _, _ => none
  | n + 1, v1, v2 => if (M 13 2) ≤ v2 then some v1 else jn (fun (v3 : Int) (v4 : Int) => gd ((inR (v4 + (1 : Int)))) (fX3_countGaps_L4 M n v3 (v4 + (1 : Int)))) (fun (K5 : Int → Int → Option (Int)) => cal (fX3_isGap 2 M v2) (fun (r7 : Int) => if r7 = 0 then K5 v1 v2 else gd ((inR (v1 + (1 : Int)))) (K5 (v1 + (1 : Int)) v2)))
def fX3_countGaps (M : Mm) : Option (Int) := fX3_countGaps_L4 M 1000 (0 : Int) (0 : Int)
set_option maxRecDepth 100000 in
theorem mX3_countGaps_L4 {z : Zx} (hz : Cx qX3_countGaps z) {Q : Option Int → Mm → Prop} (hR : Rt Q z) {M : Mm} : ∀ (n : Nat) (v1 : Int) (v2 : Int), OK (fX3_countGaps_L4 M n v1 v2) (fun r2 => Q (some r2) M) → Aw z 4 [some (.inr 13), some (.inl v1), some (.inl v2)] [] M := by
  intro n
  induction n with
  | zero =>
    intro v1 v2 h
    exact (show False from h).elim
  | succ n ih =>
    intro v1 v2 h
    unfold fX3_countGaps_L4 at h
    refine ite_elim h (fun hc h => ?_) (fun hc h => ?_)
    · refine a_run (md qX3_countGaps_ok) hz 4 [1] (pc' := 29) (lv' := [some (.inr 13), some (.inl v1), some (.inl v2)]) (st' := []) (M' := M) (P := ((M 13 2) ≤ v2) ∧ True) rfl ⟨hc, trivial⟩ ?_
      refine a_run (md qX3_countGaps_ok) hz 1 [] (pc' := 30) (lv' := [some (.inr 13), some (.inl v1), some (.inl v2)]) (st' := [.inl v1]) (M' := M) (P := True) rfl trivial ?_
      exact a_ri (md qX3_countGaps_ok) hz hR rfl (Or.inl rfl) h
    · refine a_run (md qX3_countGaps_ok) hz 4 [0] (pc' := 12) (lv' := [some (.inr 13), some (.inl v1), some (.inl v2)]) (st' := []) (M' := M) (P := (¬ ((M 13 2) ≤ v2)) ∧ True) rfl ⟨hc, trivial⟩ ?_
      refine jn_elim h (fun (K5 : Int → Int → Option (Int)) => ∀ (v3 : Int), ∀ (v4 : Int), OK (K5 v3 v4) (fun r2 => Q (some r2) M) → Aw z 23 [some (.inr 13), some (.inl v3), some (.inl v4)] [] M) (fun v3 v4 h => ?_) (fun K5 hK5 h => ?_)
      · obtain ⟨h6, h⟩ := gd_elim h
        refine a_run (md qX3_countGaps_ok) hz 2 [] (pc' := 4) (lv' := [some (.inr 13), some (.inl v3), some (.inl (v4 + (1 : Int)))]) (st' := []) (M' := M) (P := (inR (v4 + (1 : Int))) ∧ True) rfl ⟨h6, trivial⟩ ?_
        refine a_mask [true, true, true] ?_
        exact ih v3 (v4 + (1 : Int)) h
      · refine a_run (md qX3_countGaps_ok) hz 2 [] (pc' := 14) (lv' := [some (.inr 13), some (.inl v1), some (.inl v2)]) (st' := [.inl v2, .inr 13]) (M' := M) (P := True) rfl trivial ?_
        obtain ⟨r7, hr, h⟩ := cal_elim h
        refine a_fV (as := [.inl v2]) (a := 13) (st := []) (mX3_isGap_2 z.1 hr) (md qX3_countGaps_ok) qX3_isGap_ok hz lkX3_81 rfl 1 0 (by decide +kernel) rfl rfl rfl rfl ?_
        show Aw z 17 [some (.inr 13), some (.inl v1), some (.inl v2)] [.inl r7] M
        refine ite_elim h (fun hc h => ?_) (fun hc h => ?_)
        · refine a_run (md qX3_countGaps_ok) hz 1 [1] (pc' := 23) (lv' := [some (.inr 13), some (.inl v1), some (.inl v2)]) (st' := []) (M' := M) (P := (r7 = 0) ∧ True) rfl ⟨hc, trivial⟩ ?_
          refine a_mask [true, true, true] ?_
          exact hK5 v1 v2 h
        · refine a_run (md qX3_countGaps_ok) hz 1 [0] (pc' := 20) (lv' := [some (.inr 13), some (.inl v1), some (.inl v2)]) (st' := []) (M' := M) (P := (¬ (r7 = 0)) ∧ True) rfl ⟨hc, trivial⟩ ?_
          obtain ⟨h8, h⟩ := gd_elim h
          refine a_run (md qX3_countGaps_ok) hz 1 [] (pc' := 23) (lv' := [some (.inr 13), some (.inl (v1 + (1 : Int))), some (.inl v2)]) (st' := []) (M' := M) (P := (inR (v1 + (1 : Int))) ∧ True) rfl ⟨h8, trivial⟩ ?_
          refine a_mask [true, true, true] ?_
          exact hK5 (v1 + (1 : Int)) v2 h
set_option maxRecDepth 100000 in
theorem mX3_countGaps (g : Gx) {M : Mm} {r : Int} (h : fX3_countGaps M = some r) : Ct g qX3_countGaps [.inr 13] M (fun r' M' => r' = some r ∧ M' = M) := by
  refine c_ofP h qX3_countGaps_ok (Nat.le_of_ble_eq_true rfl) (fun z hz Q hR h => ?_)
  unfold fX3_countGaps at h
  show Aw z 0 [some (.inr 13), none, none] [] M
  refine a_run (md qX3_countGaps_ok) hz 4 [] (pc' := 4) (lv' := [some (.inr 13), some (.inl (0 : Int)), some (.inl (0 : Int))]) (st' := []) (M' := M) (P := True) rfl trivial ?_
  refine a_mask [true, true, true] ?_
  refine mX3_countGaps_L4 hz hR  1000 (0 : Int) (0 : Int) h
def fX3_countDecided_L4 (M : Mm) : Nat → Int → Int → Option (Int)
  | 0, _, _ => none
  | n + 1, v1, v2 => if (M 13 2) ≤ v2 then some v1 else jn (fun (v3 : Int) (v4 : Int) => gd ((inR (v4 + (1 : Int)))) (fX3_countDecided_L4 M n v3 (v4 + (1 : Int)))) (fun (K5 : Int → Int → Option (Int)) => gd ((0 ≤ v2 ∧ v2 < 16)) (if (M 24 v2.toNat) = 0 then K5 v1 v2 else gd ((inR (v1 + (1 : Int)))) (K5 (v1 + (1 : Int)) v2)))
def fX3_countDecided (M : Mm) : Option (Int) := fX3_countDecided_L4 M 1000 (0 : Int) (0 : Int)
set_option maxRecDepth 100000 in
theorem mX3_countDecided_L4 {z : Zx} (hz : Cx qX3_countDecided z) {Q : Option Int → Mm → Prop} (hR : Rt Q z) {M : Mm} : ∀ (n : Nat) (v1 : Int) (v2 : Int), OK (fX3_countDecided_L4 M n v1 v2) (fun r2 => Q (some r2) M) → Aw z 4 [some (.inr 13), some (.inl v1), some (.inl v2)] [] M := by
  intro n
  induction n with
  | zero =>
    intro v1 v2 h
    exact (show False from h).elim
  | succ n ih =>
    intro v1 v2 h
    unfold fX3_countDecided_L4 at h
    refine ite_elim h (fun hc h => ?_) (fun hc h => ?_)
    · refine a_run (md qX3_countDecided_ok) hz 4 [1] (pc' := 30) (lv' := [some (.inr 13), some (.inl v1), some (.inl v2)]) (st' := []) (M' := M) (P := ((M 13 2) ≤ v2) ∧ True) rfl ⟨hc, trivial⟩ ?_
      refine a_run (md qX3_countDecided_ok) hz 1 [] (pc' := 31) (lv' := [some (.inr 13), some (.inl v1), some (.inl v2)]) (st' := [.inl v1]) (M' := M) (P := True) rfl trivial ?_
      exact a_ri (md qX3_countDecided_ok) hz hR rfl (Or.inl rfl) h
    · refine a_run (md qX3_countDecided_ok) hz 4 [0] (pc' := 12) (lv' := [some (.inr 13), some (.inl v1), some (.inl v2)]) (st' := []) (M' := M) (P := (¬ ((M 13 2) ≤ v2)) ∧ True) rfl ⟨hc, trivial⟩ ?_
      refine jn_elim h (fun (K5 : Int → Int → Option (Int)) => ∀ (v3 : Int), ∀ (v4 : Int), OK (K5 v3 v4) (fun r2 => Q (some r2) M) → Aw z 24 [some (.inr 13), some (.inl v3), some (.inl v4)] [] M) (fun v3 v4 h => ?_) (fun K5 hK5 h => ?_)
      · obtain ⟨h6, h⟩ := gd_elim h
        refine a_run (md qX3_countDecided_ok) hz 2 [] (pc' := 4) (lv' := [some (.inr 13), some (.inl v3), some (.inl (v4 + (1 : Int)))]) (st' := []) (M' := M) (P := (inR (v4 + (1 : Int))) ∧ True) rfl ⟨h6, trivial⟩ ?_
        refine a_mask [true, true, true] ?_
        exact ih v3 (v4 + (1 : Int)) h
      · obtain ⟨h8, h⟩ := gd_elim h
        refine ite_elim h (fun hc h => ?_) (fun hc h => ?_)
        · refine a_run (md qX3_countDecided_ok) hz 5 [1] (pc' := 24) (lv' := [some (.inr 13), some (.inl v1), some (.inl v2)]) (st' := []) (M' := M) (P := (0 ≤ v2 ∧ v2 < 16) ∧ ((M 24 v2.toNat) = 0) ∧ True) rfl ⟨h8, hc, trivial⟩ ?_
          refine a_mask [true, true, true] ?_
          exact hK5 v1 v2 h
        · refine a_run (md qX3_countDecided_ok) hz 5 [0] (pc' := 21) (lv' := [some (.inr 13), some (.inl v1), some (.inl v2)]) (st' := []) (M' := M) (P := (0 ≤ v2 ∧ v2 < 16) ∧ (¬ ((M 24 v2.toNat) = 0)) ∧ True) rfl ⟨h8, hc, trivial⟩ ?_
          obtain ⟨h7, h⟩ := gd_elim h
          refine a_run (md qX3_countDecided_ok) hz 1 [] (pc' := 24) (lv' := [some (.inr 13), some (.inl (v1 + (1 : Int))), some (.inl v2)]) (st' := []) (M' := M) (P := (inR (v1 + (1 : Int))) ∧ True) rfl ⟨h7, trivial⟩ ?_
          refine a_mask [true, true, true] ?_
          exact hK5 (v1 + (1 : Int)) v2 h
set_option maxRecDepth 100000 in
theorem mX3_countDecided (g : Gx) {M : Mm} {r : Int} (h : fX3_countDecided M = some r) : Ct g qX3_countDecided [.inr 13] M (fun r' M' => r' = some r ∧ M' = M) := by
  refine c_ofP h qX3_countDecided_ok (Nat.le_of_ble_eq_true rfl) (fun z hz Q hR h => ?_)
  unfold fX3_countDecided at h
  show Aw z 0 [some (.inr 13), none, none] [] M
  refine a_run (md qX3_countDecided_ok) hz 4 [] (pc' := 4) (lv' := [some (.inr 13), some (.inl (0 : Int)), some (.inl (0 : Int))]) (st' := []) (M' := M) (P := True) rfl trivial ?_
  refine a_mask [true, true, true] ?_
  refine mX3_countDecided_L4 hz hR  1000 (0 : Int) (0 : Int) h
def fX3_sumOfSteps_L4 (M : Mm) : Nat → Int → Int → Option (Int)
  | 0, _, _ => none
  | n + 1, v1, v2 => if (M 13 2) ≤ v2 then some v1 else jn (fun (v3 : Int) (w4 : Int) (w5 : Int) => gd ((inR (w5 + w4)) ∧ (inR (v3 + (1 : Int)))) (fX3_sumOfSteps_L4 M n (w5 + w4) (v3 + (1 : Int)))) (fun (K6 : Int → Int → Int → Option (Int)) => cal (fX3_stepLength M v2) (fun (r9 : Int) => if r9 = (-6 : Int) then K6 v2 (0 : Int) v1 else K6 v2 r9 v1))
def fX3_sumOfSteps (M : Mm) : Option (Int) := fX3_sumOfSteps_L4 M 1000 (0 : Int) (0 : Int)
set_option maxRecDepth 100000 in
theorem mX3_sumOfSteps_L4 {z : Zx} (hz : Cx qX3_sumOfSteps z) {Q : Option Int → Mm → Prop} (hR : Rt Q z) {M : Mm} : ∀ (n : Nat) (v1 : Int) (v2 : Int), OK (fX3_sumOfSteps_L4 M n v1 v2) (fun r2 => Q (some r2) M) → Aw z 4 [some (.inr 13), some (.inl v1), some (.inl v2), none] [] M := by
  intro n
  induction n with
  | zero =>
    intro v1 v2 h
    exact (show False from h).elim
  | succ n ih =>
    intro v1 v2 h
    unfold fX3_sumOfSteps_L4 at h
    refine ite_elim h (fun hc h => ?_) (fun hc h => ?_)
    · refine a_run (md qX3_sumOfSteps_ok) hz 4 [1] (pc' := 38) (lv' := [some (.inr 13), some (.inl v1), some (.inl v2), none]) (st' := []) (M' := M) (P := ((M 13 2) ≤ v2) ∧ True) rfl ⟨hc, trivial⟩ ?_
      refine a_run (md qX3_sumOfSteps_ok) hz 1 [] (pc' := 39) (lv' := [some (.inr 13), some (.inl v1), some (.inl v2), none]) (st' := [.inl v1]) (M' := M) (P := True) rfl trivial ?_
      exact a_ri (md qX3_sumOfSteps_ok) hz hR rfl (Or.inl rfl) h
    · refine a_run (md qX3_sumOfSteps_ok) hz 4 [0] (pc' := 12) (lv' := [some (.inr 13), some (.inl v1), some (.inl v2), none]) (st' := []) (M' := M) (P := (¬ ((M 13 2) ≤ v2)) ∧ True) rfl ⟨hc, trivial⟩ ?_
      refine jn_elim h (fun (K6 : Int → Int → Int → Option (Int)) => ∀ (v3 : Int), ∀ (w4 : Int), ∀ (w5 : Int), OK (K6 v3 w4 w5) (fun r2 => Q (some r2) M) → Aw z 30 [some (.inr 13), none, some (.inl v3), none] [.inl w4, .inl w5] M) (fun v3 w4 w5 h => ?_) (fun K6 hK6 h => ?_)
      · obtain ⟨⟨h7, h8⟩, h⟩ := gd_elim h
        refine a_run (md qX3_sumOfSteps_ok) hz 4 [] (pc' := 4) (lv' := [some (.inr 13), some (.inl (w5 + w4)), some (.inl (v3 + (1 : Int))), none]) (st' := []) (M' := M) (P := (inR (w5 + w4)) ∧ (inR (v3 + (1 : Int))) ∧ True) rfl ⟨h7, h8, trivial⟩ ?_
        refine a_mask [true, true, true, false] ?_
        exact ih (w5 + w4) (v3 + (1 : Int)) h
      · refine a_run (md qX3_sumOfSteps_ok) hz 2 [] (pc' := 14) (lv' := [some (.inr 13), some (.inl v1), some (.inl v2), none]) (st' := [.inl v2, .inr 13]) (M' := M) (P := True) rfl trivial ?_
        obtain ⟨r9, hr, h⟩ := cal_elim h
        refine a_fV (as := [.inl v2]) (a := 13) (st := []) (mX3_stepLength z.1 hr) (md qX3_sumOfSteps_ok) qX3_stepLength_ok hz lkX3_150 rfl 1 0 (by decide +kernel) rfl rfl rfl rfl ?_
        show Aw z 17 [some (.inr 13), some (.inl v1), some (.inl v2), none] [.inl r9] M
        refine ite_elim h (fun hc h => ?_) (fun hc h => ?_)
        · refine a_run (md qX3_sumOfSteps_ok) hz 5 [0] (pc' := 25) (lv' := [some (.inr 13), some (.inl v1), some (.inl v2), some (.inl r9)]) (st' := [.inl v1]) (M' := M) (P := (¬ ¬ r9 = (-6 : Int)) ∧ True) rfl ⟨fun h9 => h9 hc, trivial⟩ ?_
          refine a_run (md qX3_sumOfSteps_ok) hz 2 [] (pc' := 30) (lv' := [some (.inr 13), some (.inl v1), some (.inl v2), some (.inl r9)]) (st' := [.inl (0 : Int), .inl v1]) (M' := M) (P := True) rfl trivial ?_
          refine a_mask [true, false, true, false] ?_
          exact hK6 v2 (0 : Int) v1 h
        · refine a_run (md qX3_sumOfSteps_ok) hz 5 [1] (pc' := 29) (lv' := [some (.inr 13), some (.inl v1), some (.inl v2), some (.inl r9)]) (st' := [.inl v1]) (M' := M) (P := (¬ r9 = (-6 : Int)) ∧ True) rfl ⟨hc, trivial⟩ ?_
          refine a_run (md qX3_sumOfSteps_ok) hz 1 [] (pc' := 30) (lv' := [some (.inr 13), some (.inl v1), some (.inl v2), some (.inl r9)]) (st' := [.inl r9, .inl v1]) (M' := M) (P := True) rfl trivial ?_
          refine a_mask [true, false, true, false] ?_
          exact hK6 v2 r9 v1 h
set_option maxRecDepth 100000 in
theorem mX3_sumOfSteps (g : Gx) {M : Mm} {r : Int} (h : fX3_sumOfSteps M = some r) : Ct g qX3_sumOfSteps [.inr 13] M (fun r' M' => r' = some r ∧ M' = M) := by
  refine c_ofP h qX3_sumOfSteps_ok (Nat.le_of_ble_eq_true rfl) (fun z hz Q hR h => ?_)
  unfold fX3_sumOfSteps at h
  show Aw z 0 [some (.inr 13), none, none, none] [] M
  refine a_run (md qX3_sumOfSteps_ok) hz 4 [] (pc' := 4) (lv' := [some (.inr 13), some (.inl (0 : Int)), some (.inl (0 : Int)), none]) (st' := []) (M' := M) (P := True) rfl trivial ?_
  refine a_mask [true, true, true, false] ?_
  refine mX3_sumOfSteps_L4 hz hR  1000 (0 : Int) (0 : Int) h
def fX3_tellFix (M : Mm) (x1 : Int) : Option (Int) := cal (fX3_hasFix 2 M x1) (fun (r1 : Int) => if r1 = 0 then some (-2 : Int) else gd ((0 ≤ x1 ∧ x1 < 16) ∧ (inR ((100 : Int) * (M 14 x1.toNat))) ∧ (0 ≤ x1 ∧ x1 < 16) ∧ (inR (((100 : Int) * (M 14 x1.toNat)) + (M 15 x1.toNat)))) (some (((100 : Int) * (M 14 x1.toNat)) + (M 15 x1.toNat))))
set_option maxRecDepth 100000 in
theorem mX3_tellFix (g : Gx) {M : Mm} {x1 : Int} {r : Int} (h : fX3_tellFix M x1 = some r) : Ct g qX3_tellFix [.inr 13, .inl x1] M (fun r' M' => r' = some r ∧ M' = M) := by
  refine c_ofP h qX3_tellFix_ok (Nat.le_of_ble_eq_true rfl) (fun z hz Q hR h => ?_)
  unfold fX3_tellFix at h
  show Aw z 0 [some (.inr 13), some (.inl x1)] [] M
  refine a_run (md qX3_tellFix_ok) hz 2 [] (pc' := 2) (lv' := [some (.inr 13), some (.inl x1)]) (st' := [.inl x1, .inr 13]) (M' := M) (P := True) rfl trivial ?_
  obtain ⟨r1, hr, h⟩ := cal_elim h
  refine a_fV (as := [.inl x1]) (a := 13) (st := []) (mX3_hasFix_2 z.1 hr) (md qX3_tellFix_ok) qX3_hasFix_ok hz lkX3_58 rfl 1 0 (by decide +kernel) rfl rfl rfl rfl ?_
  show Aw z 5 [some (.inr 13), some (.inl x1)] [.inl r1] M
  refine ite_elim h (fun hc h => ?_) (fun hc h => ?_)
  · refine a_run (md qX3_tellFix_ok) hz 1 [1] (pc' := 27) (lv' := [some (.inr 13), some (.inl x1)]) (st' := []) (M' := M) (P := (r1 = 0) ∧ True) rfl ⟨hc, trivial⟩ ?_
    refine a_run (md qX3_tellFix_ok) hz 1 [] (pc' := 29) (lv' := [some (.inr 13), some (.inl x1)]) (st' := [.inl (-2 : Int)]) (M' := M) (P := True) rfl trivial ?_
    exact a_ri (md qX3_tellFix_ok) hz hR rfl (Or.inl rfl) h
  · refine a_run (md qX3_tellFix_ok) hz 1 [0] (pc' := 8) (lv' := [some (.inr 13), some (.inl x1)]) (st' := []) (M' := M) (P := (¬ (r1 = 0)) ∧ True) rfl ⟨hc, trivial⟩ ?_
    obtain ⟨⟨h2, h3, h4, h5⟩, h⟩ := gd_elim h
    refine a_run (md qX3_tellFix_ok) hz 12 [] (pc' := 29) (lv' := [some (.inr 13), some (.inl x1)]) (st' := [.inl (((100 : Int) * (M 14 x1.toNat)) + (M 15 x1.toNat))]) (M' := M) (P := (0 ≤ x1 ∧ x1 < 16) ∧ (inR ((100 : Int) * (M 14 x1.toNat))) ∧ (0 ≤ x1 ∧ x1 < 16) ∧ (inR (((100 : Int) * (M 14 x1.toNat)) + (M 15 x1.toNat))) ∧ True) rfl ⟨h2, h3, h4, h5, trivial⟩ ?_
    exact a_ri (md qX3_tellFix_ok) hz hR rfl (Or.inl rfl) h
