def fX0_hasCrossing (M : Mm) (x1 : Int) : Option (Int) := jn (some (0 : Int)) (fun (K1 : Option (Int)) => if x1 < 0 then K1 else if (M 3 0) ≤ x1 then K1 else some (1 : Int))
set_option maxRecDepth 100000 in
theorem mX0_hasCrossing (g : Gx) {M : Mm} {x1 : Int} {r : Int} (h : fX0_hasCrossing M x1 = some r) : Ct g qX0_hasCrossing [.inr 3, .inl x1] M (fun r' M' => r' = some r ∧ M' = M) := by
  refine c_ofP h qX0_hasCrossing_ok (Nat.le_of_ble_eq_true rfl) (fun z hz Q hR h => ?_)
  unfold fX0_hasCrossing at h
  show Aw z 0 [some (.inr 3), some (.inl x1)] [] M
  refine jn_elim h (fun (K1 : Option (Int)) => OK (K1) (fun r2 => Q (some r2) M) → Aw z 16 [none, none] [] M) (fun h => ?_) (fun K1 hK1 h => ?_)
  · refine a_run (md qX0_hasCrossing_ok) hz 1 [] (pc' := 17) (lv' := [none, none]) (st' := [.inl (0 : Int)]) (M' := M) (P := True) rfl trivial ?_
    exact a_ri (md qX0_hasCrossing_ok) hz hR rfl (Or.inr ⟨rfl, by decide⟩) h
  · refine ite_elim h (fun hc h => ?_) (fun hc h => ?_)
    · refine a_run (md qX0_hasCrossing_ok) hz 2 [1] (pc' := 16) (lv' := [some (.inr 3), some (.inl x1)]) (st' := []) (M' := M) (P := (x1 < 0) ∧ True) rfl ⟨hc, trivial⟩ ?_
      refine a_mask [false, false] ?_
      exact hK1  h
    · refine a_run (md qX0_hasCrossing_ok) hz 2 [0] (pc' := 4) (lv' := [some (.inr 3), some (.inl x1)]) (st' := []) (M' := M) (P := (¬ (x1 < 0)) ∧ True) rfl ⟨hc, trivial⟩ ?_
      refine ite_elim h (fun hc h => ?_) (fun hc h => ?_)
      · refine a_run (md qX0_hasCrossing_ok) hz 4 [1] (pc' := 16) (lv' := [some (.inr 3), some (.inl x1)]) (st' := []) (M' := M) (P := ((M 3 0) ≤ x1) ∧ True) rfl ⟨hc, trivial⟩ ?_
        refine a_mask [false, false] ?_
        exact hK1  h
      · refine a_run (md qX0_hasCrossing_ok) hz 4 [0] (pc' := 12) (lv' := [some (.inr 3), some (.inl x1)]) (st' := []) (M' := M) (P := (¬ ((M 3 0) ≤ x1)) ∧ True) rfl ⟨hc, trivial⟩ ?_
        refine a_run (md qX0_hasCrossing_ok) hz 2 [] (pc' := 17) (lv' := [some (.inr 3), some (.inl x1)]) (st' := [.inl (1 : Int)]) (M' := M) (P := True) rfl trivial ?_
        exact a_ri (md qX0_hasCrossing_ok) hz hR rfl (Or.inr ⟨rfl, by decide⟩) h
def fX0_hasRoad (M : Mm) (x1 : Int) : Option (Int) := jn (some (0 : Int)) (fun (K1 : Option (Int)) => if x1 < 0 then K1 else if (M 3 1) ≤ x1 then K1 else some (1 : Int))
set_option maxRecDepth 100000 in
theorem mX0_hasRoad (g : Gx) {M : Mm} {x1 : Int} {r : Int} (h : fX0_hasRoad M x1 = some r) : Ct g qX0_hasRoad [.inr 3, .inl x1] M (fun r' M' => r' = some r ∧ M' = M) := by
  refine c_ofP h qX0_hasRoad_ok (Nat.le_of_ble_eq_true rfl) (fun z hz Q hR h => ?_)
  unfold fX0_hasRoad at h
  show Aw z 0 [some (.inr 3), some (.inl x1)] [] M
  refine jn_elim h (fun (K1 : Option (Int)) => OK (K1) (fun r2 => Q (some r2) M) → Aw z 16 [none, none] [] M) (fun h => ?_) (fun K1 hK1 h => ?_)
  · refine a_run (md qX0_hasRoad_ok) hz 1 [] (pc' := 17) (lv' := [none, none]) (st' := [.inl (0 : Int)]) (M' := M) (P := True) rfl trivial ?_
    exact a_ri (md qX0_hasRoad_ok) hz hR rfl (Or.inr ⟨rfl, by decide⟩) h
  · refine ite_elim h (fun hc h => ?_) (fun hc h => ?_)
    · refine a_run (md qX0_hasRoad_ok) hz 2 [1] (pc' := 16) (lv' := [some (.inr 3), some (.inl x1)]) (st' := []) (M' := M) (P := (x1 < 0) ∧ True) rfl ⟨hc, trivial⟩ ?_
      refine a_mask [false, false] ?_
      exact hK1  h
    · refine a_run (md qX0_hasRoad_ok) hz 2 [0] (pc' := 4) (lv' := [some (.inr 3), some (.inl x1)]) (st' := []) (M' := M) (P := (¬ (x1 < 0)) ∧ True) rfl ⟨hc, trivial⟩ ?_
      refine ite_elim h (fun hc h => ?_) (fun hc h => ?_)
      · refine a_run (md qX0_hasRoad_ok) hz 4 [1] (pc' := 16) (lv' := [some (.inr 3), some (.inl x1)]) (st' := []) (M' := M) (P := ((M 3 1) ≤ x1) ∧ True) rfl ⟨hc, trivial⟩ ?_
        refine a_mask [false, false] ?_
        exact hK1  h
      · refine a_run (md qX0_hasRoad_ok) hz 4 [0] (pc' := 12) (lv' := [some (.inr 3), some (.inl x1)]) (st' := []) (M' := M) (P := (¬ ((M 3 1) ≤ x1)) ∧ True) rfl ⟨hc, trivial⟩ ?_
        refine a_run (md qX0_hasRoad_ok) hz 2 [] (pc' := 17) (lv' := [some (.inr 3), some (.inl x1)]) (st' := [.inl (1 : Int)]) (M' := M) (P := True) rfl trivial ?_
        exact a_ri (md qX0_hasRoad_ok) hz hR rfl (Or.inr ⟨rfl, by decide⟩) h
def fX0_hasSpot (M : Mm) (x1 : Int) : Option (Int) := if 0 ≤ x1 then jn (some (0 : Int)) (fun (K1 : Option (Int)) => bnd (x1.tdiv (100 : Int)) (fun (t2 : Int) => if (M 3 1) ≤ t2 then K1 else gd ((0 ≤ t2 ∧ t2 < 20)) (if (M 9 t2.toNat) < (x1.tmod (100 : Int)) then K1 else some (1 : Int)))) else some (0 : Int)
set_option maxRecDepth 100000 in
theorem mX0_hasSpot (g : Gx) {M : Mm} {x1 : Int} {r : Int} (h : fX0_hasSpot M x1 = some r) : Ct g qX0_hasSpot [.inr 3, .inl x1] M (fun r' M' => r' = some r ∧ M' = M) := by
  refine c_ofP h qX0_hasSpot_ok (Nat.le_of_ble_eq_true rfl) (fun z hz Q hR h => ?_)
  unfold fX0_hasSpot at h
  show Aw z 0 [some (.inr 3), some (.inl x1), none] [] M
  refine ite_elim h (fun hc h => ?_) (fun hc h => ?_)
  · refine a_run (md qX0_hasSpot_ok) hz 2 [1] (pc' := 6) (lv' := [some (.inr 3), some (.inl x1), none]) (st' := []) (M' := M) (P := (0 ≤ x1) ∧ True) rfl ⟨hc, trivial⟩ ?_
    refine jn_elim h (fun (K1 : Option (Int)) => OK (K1) (fun r2 => Q (some r2) M) → Aw z 36 [none, none, none] [] M) (fun h => ?_) (fun K1 hK1 h => ?_)
    · refine a_run (md qX0_hasSpot_ok) hz 1 [] (pc' := 37) (lv' := [none, none, none]) (st' := [.inl (0 : Int)]) (M' := M) (P := True) rfl trivial ?_
      exact a_ri (md qX0_hasSpot_ok) hz hR rfl (Or.inr ⟨rfl, by decide⟩) h
    · refine a_run (md qX0_hasSpot_ok) hz 4 [] (pc' := 11) (lv' := [some (.inr 3), some (.inl x1), some (.inl (x1.tdiv (100 : Int)))]) (st' := []) (M' := M) (P := (¬ (100 : Int) = 0 ∧ ¬ (100 : Int) = -1) ∧ True) rfl ⟨by decide, trivial⟩ ?_
      refine bnd_elim (G := fun (t2 : Int) => Aw z 11 [some (.inr 3), some (.inl x1), some (.inl t2)] [] M) h (fun t2 h => ?_)
      refine ite_elim h (fun hc h => ?_) (fun hc h => ?_)
      · refine a_run (md qX0_hasSpot_ok) hz 4 [1] (pc' := 36) (lv' := [some (.inr 3), some (.inl x1), some (.inl t2)]) (st' := []) (M' := M) (P := ((M 3 1) ≤ t2) ∧ True) rfl ⟨hc, trivial⟩ ?_
        refine a_mask [false, false, false] ?_
        exact hK1  h
      · refine a_run (md qX0_hasSpot_ok) hz 4 [0] (pc' := 19) (lv' := [some (.inr 3), some (.inl x1), some (.inl t2)]) (st' := []) (M' := M) (P := (¬ ((M 3 1) ≤ t2)) ∧ True) rfl ⟨hc, trivial⟩ ?_
        obtain ⟨h3, h⟩ := gd_elim h
        refine ite_elim h (fun hc h => ?_) (fun hc h => ?_)
        · refine a_run (md qX0_hasSpot_ok) hz 8 [1] (pc' := 36) (lv' := [some (.inr 3), some (.inl x1), some (.inl t2)]) (st' := []) (M' := M) (P := (¬ (100 : Int) = 0 ∧ ¬ (100 : Int) = -1) ∧ (0 ≤ t2 ∧ t2 < 20) ∧ ((M 9 t2.toNat) < (x1.tmod (100 : Int))) ∧ True) rfl ⟨by decide, h3, hc, trivial⟩ ?_
          refine a_mask [false, false, false] ?_
          exact hK1  h
        · refine a_run (md qX0_hasSpot_ok) hz 8 [0] (pc' := 32) (lv' := [some (.inr 3), some (.inl x1), some (.inl t2)]) (st' := []) (M' := M) (P := (¬ (100 : Int) = 0 ∧ ¬ (100 : Int) = -1) ∧ (0 ≤ t2 ∧ t2 < 20) ∧ (¬ ((M 9 t2.toNat) < (x1.tmod (100 : Int)))) ∧ True) rfl ⟨by decide, h3, hc, trivial⟩ ?_
          refine a_run (md qX0_hasSpot_ok) hz 2 [] (pc' := 37) (lv' := [some (.inr 3), some (.inl x1), some (.inl t2)]) (st' := [.inl (1 : Int)]) (M' := M) (P := True) rfl trivial ?_
          exact a_ri (md qX0_hasSpot_ok) hz hR rfl (Or.inr ⟨rfl, by decide⟩) h
  · refine a_run (md qX0_hasSpot_ok) hz 2 [0] (pc' := 4) (lv' := [some (.inr 3), some (.inl x1), none]) (st' := []) (M' := M) (P := (¬ (0 ≤ x1)) ∧ True) rfl ⟨hc, trivial⟩ ?_
    refine a_run (md qX0_hasSpot_ok) hz 1 [] (pc' := 5) (lv' := [some (.inr 3), some (.inl x1), none]) (st' := [.inl (0 : Int)]) (M' := M) (P := True) rfl trivial ?_
    exact a_ri (md qX0_hasSpot_ok) hz hR rfl (Or.inr ⟨rfl, by decide⟩) h
def fX0_isTaken_L2 (x1 : Int) (x2 : Int) (M : Mm) : Nat → Int → Option (Int)
  | 0, _ => none
  | n + 1, v1 => if (M 3 0) ≤ v1 then some (0 : Int) else jn (fun (v2 : Int) => gd ((inR (v2 + (1 : Int)))) (fX0_isTaken_L2 x1 x2 M n (v2 + (1 : Int)))) (fun (K3 : Int → Option (Int)) => gd ((0 ≤ v1 ∧ v1 < 12)) (if (M 4 v1.toNat) = x1 then gd ((0 ≤ v1 ∧ v1 < 12)) (if (M 5 v1.toNat) = x2 then some (1 : Int) else K3 v1) else K3 v1))
def fX0_isTaken (M : Mm) (x1 : Int) (x2 : Int) : Option (Int) := fX0_isTaken_L2 x1 x2 M 1000 (0 : Int)
set_option maxRecDepth 100000 in
theorem mX0_isTaken_L2 {z : Zx} (hz : Cx qX0_isTaken z) {Q : Option Int → Mm → Prop} (hR : Rt Q z) {x1 : Int} {x2 : Int} {M : Mm} : ∀ (n : Nat) (v1 : Int), OK (fX0_isTaken_L2 x1 x2 M n v1) (fun r2 => Q (some r2) M) → Aw z 2 [some (.inr 3), some (.inl x1), some (.inl x2), some (.inl v1)] [] M := by
  intro n
  induction n with
  | zero =>
    intro v1 h
    exact (show False from h).elim
  | succ n ih =>
    intro v1 h
    unfold fX0_isTaken_L2 at h
    refine ite_elim h (fun hc h => ?_) (fun hc h => ?_)
    · refine a_run (md qX0_isTaken_ok) hz 4 [1] (pc' := 38) (lv' := [some (.inr 3), some (.inl x1), some (.inl x2), some (.inl v1)]) (st' := []) (M' := M) (P := ((M 3 0) ≤ v1) ∧ True) rfl ⟨hc, trivial⟩ ?_
      refine a_run (md qX0_isTaken_ok) hz 1 [] (pc' := 39) (lv' := [some (.inr 3), some (.inl x1), some (.inl x2), some (.inl v1)]) (st' := [.inl (0 : Int)]) (M' := M) (P := True) rfl trivial ?_
      exact a_ri (md qX0_isTaken_ok) hz hR rfl (Or.inr ⟨rfl, by decide⟩) h
    · refine a_run (md qX0_isTaken_ok) hz 4 [0] (pc' := 10) (lv' := [some (.inr 3), some (.inl x1), some (.inl x2), some (.inl v1)]) (st' := []) (M' := M) (P := (¬ ((M 3 0) ≤ v1)) ∧ True) rfl ⟨hc, trivial⟩ ?_
      refine jn_elim h (fun (K3 : Int → Option (Int)) => ∀ (v2 : Int), OK (K3 v2) (fun r2 => Q (some r2) M) → Aw z 32 [some (.inr 3), some (.inl x1), some (.inl x2), some (.inl v2)] [] M) (fun v2 h => ?_) (fun K3 hK3 h => ?_)
      · obtain ⟨h4, h⟩ := gd_elim h
        refine a_run (md qX0_isTaken_ok) hz 2 [] (pc' := 2) (lv' := [some (.inr 3), some (.inl x1), some (.inl x2), some (.inl (v2 + (1 : Int)))]) (st' := []) (M' := M) (P := (inR (v2 + (1 : Int))) ∧ True) rfl ⟨h4, trivial⟩ ?_
        refine a_mask [true, true, true, true] ?_
        exact ih (v2 + (1 : Int)) h
      · obtain ⟨h6, h⟩ := gd_elim h
        refine ite_elim h (fun hc h => ?_) (fun hc h => ?_)
        · refine a_run (md qX0_isTaken_ok) hz 6 [0] (pc' := 20) (lv' := [some (.inr 3), some (.inl x1), some (.inl x2), some (.inl v1)]) (st' := []) (M' := M) (P := (0 ≤ v1 ∧ v1 < 12) ∧ (¬ ¬ (M 4 v1.toNat) = x1) ∧ True) rfl ⟨h6, fun h9 => h9 hc, trivial⟩ ?_
          obtain ⟨h5, h⟩ := gd_elim h
          refine ite_elim h (fun hc h => ?_) (fun hc h => ?_)
          · refine a_run (md qX0_isTaken_ok) hz 6 [0] (pc' := 30) (lv' := [some (.inr 3), some (.inl x1), some (.inl x2), some (.inl v1)]) (st' := []) (M' := M) (P := (0 ≤ v1 ∧ v1 < 12) ∧ (¬ ¬ (M 5 v1.toNat) = x2) ∧ True) rfl ⟨h5, fun h9 => h9 hc, trivial⟩ ?_
            refine a_run (md qX0_isTaken_ok) hz 1 [] (pc' := 31) (lv' := [some (.inr 3), some (.inl x1), some (.inl x2), some (.inl v1)]) (st' := [.inl (1 : Int)]) (M' := M) (P := True) rfl trivial ?_
            exact a_ri (md qX0_isTaken_ok) hz hR rfl (Or.inr ⟨rfl, by decide⟩) h
          · refine a_run (md qX0_isTaken_ok) hz 6 [1] (pc' := 32) (lv' := [some (.inr 3), some (.inl x1), some (.inl x2), some (.inl v1)]) (st' := []) (M' := M) (P := (0 ≤ v1 ∧ v1 < 12) ∧ (¬ (M 5 v1.toNat) = x2) ∧ True) rfl ⟨h5, hc, trivial⟩ ?_
            refine a_mask [true, true, true, true] ?_
            exact hK3 v1 h
        · refine a_run (md qX0_isTaken_ok) hz 6 [1] (pc' := 32) (lv' := [some (.inr 3), some (.inl x1), some (.inl x2), some (.inl v1)]) (st' := []) (M' := M) (P := (0 ≤ v1 ∧ v1 < 12) ∧ (¬ (M 4 v1.toNat) = x1) ∧ True) rfl ⟨h6, hc, trivial⟩ ?_
          refine a_mask [true, true, true, true] ?_
          exact hK3 v1 h
set_option maxRecDepth 100000 in
theorem mX0_isTaken (g : Gx) {M : Mm} {x1 : Int} {x2 : Int} {r : Int} (h : fX0_isTaken M x1 x2 = some r) : Ct g qX0_isTaken [.inr 3, .inl x1, .inl x2] M (fun r' M' => r' = some r ∧ M' = M) := by
  refine c_ofP h qX0_isTaken_ok (Nat.le_of_ble_eq_true rfl) (fun z hz Q hR h => ?_)
  unfold fX0_isTaken at h
  show Aw z 0 [some (.inr 3), some (.inl x1), some (.inl x2), none] [] M
  refine a_run (md qX0_isTaken_ok) hz 2 [] (pc' := 2) (lv' := [some (.inr 3), some (.inl x1), some (.inl x2), some (.inl (0 : Int))]) (st' := []) (M' := M) (P := True) rfl trivial ?_
  refine a_mask [true, true, true, true] ?_
  refine mX0_isTaken_L2 hz hR  1000 (0 : Int) h
def fX0_areInOneRow (M : Mm) (x1 : Int) (x2 : Int) : Option (Int) := cal (fX0_hasCrossing M x1) (fun (r1 : Int) => if r1 = 0 then some (0 : Int) else cal (fX0_hasCrossing M x2) (fun (r2 : Int) => if r2 = 0 then some (0 : Int) else jn (some (1 : Int)) (fun (K3 : Option (Int)) => gd ((0 ≤ x1 ∧ x1 < 12) ∧ (0 ≤ x2 ∧ x2 < 12)) (if (M 4 x1.toNat) = (M 4 x2.toNat) then K3 else gd ((0 ≤ x1 ∧ x1 < 12) ∧ (0 ≤ x2 ∧ x2 < 12)) (if (M 5 x1.toNat) = (M 5 x2.toNat) then K3 else some (0 : Int))))))
set_option maxRecDepth 100000 in
theorem mX0_areInOneRow (g : Gx) {M : Mm} {x1 : Int} {x2 : Int} {r : Int} (h : fX0_areInOneRow M x1 x2 = some r) : Ct g qX0_areInOneRow [.inr 3, .inl x1, .inl x2] M (fun r' M' => r' = some r ∧ M' = M) := by
  refine c_ofP h qX0_areInOneRow_ok (Nat.le_of_ble_eq_true rfl) (fun z hz Q hR h => ?_)
  unfold fX0_areInOneRow at h
  show Aw z 0 [some (.inr 3), some (.inl x1), some (.inl x2)] [] M
  refine a_run (md qX0_areInOneRow_ok) hz 2 [] (pc' := 2) (lv' := [some (.inr 3), some (.inl x1), some (.inl x2)]) (st' := [.inl x1, .inr 3]) (M' := M) (P := True) rfl trivial ?_
  obtain ⟨r1, hr, h⟩ := cal_elim h
  refine a_fV (as := [.inl x1]) (a := 3) (st := []) (mX0_hasCrossing z.1 hr) (md qX0_areInOneRow_ok) qX0_hasCrossing_ok hz lkX0_40 rfl 1 0 (by decide +kernel) rfl rfl rfl rfl ?_
  show Aw z 5 [some (.inr 3), some (.inl x1), some (.inl x2)] [.inl r1] M
  refine ite_elim h (fun hc h => ?_) (fun hc h => ?_)
  · refine a_run (md qX0_areInOneRow_ok) hz 1 [1] (pc' := 16) (lv' := [some (.inr 3), some (.inl x1), some (.inl x2)]) (st' := []) (M' := M) (P := (r1 = 0) ∧ True) rfl ⟨hc, trivial⟩ ?_
    refine a_run (md qX0_areInOneRow_ok) hz 1 [] (pc' := 17) (lv' := [some (.inr 3), some (.inl x1), some (.inl x2)]) (st' := [.inl (0 : Int)]) (M' := M) (P := True) rfl trivial ?_
    exact a_ri (md qX0_areInOneRow_ok) hz hR rfl (Or.inr ⟨rfl, by decide⟩) h
  · refine a_run (md qX0_areInOneRow_ok) hz 1 [0] (pc' := 8) (lv' := [some (.inr 3), some (.inl x1), some (.inl x2)]) (st' := []) (M' := M) (P := (¬ (r1 = 0)) ∧ True) rfl ⟨hc, trivial⟩ ?_
    refine a_run (md qX0_areInOneRow_ok) hz 2 [] (pc' := 10) (lv' := [some (.inr 3), some (.inl x1), some (.inl x2)]) (st' := [.inl x2, .inr 3]) (M' := M) (P := True) rfl trivial ?_
    obtain ⟨r2, hr, h⟩ := cal_elim h
    refine a_fV (as := [.inl x2]) (a := 3) (st := []) (mX0_hasCrossing z.1 hr) (md qX0_areInOneRow_ok) qX0_hasCrossing_ok hz lkX0_40 rfl 1 0 (by decide +kernel) rfl rfl rfl rfl ?_
    show Aw z 13 [some (.inr 3), some (.inl x1), some (.inl x2)] [.inl r2] M
    refine ite_elim h (fun hc h => ?_) (fun hc h => ?_)
    · refine a_run (md qX0_areInOneRow_ok) hz 1 [0] (pc' := 16) (lv' := [some (.inr 3), some (.inl x1), some (.inl x2)]) (st' := []) (M' := M) (P := (¬ ¬ r2 = 0) ∧ True) rfl ⟨fun h9 => h9 hc, trivial⟩ ?_
      refine a_run (md qX0_areInOneRow_ok) hz 1 [] (pc' := 17) (lv' := [some (.inr 3), some (.inl x1), some (.inl x2)]) (st' := [.inl (0 : Int)]) (M' := M) (P := True) rfl trivial ?_
      exact a_ri (md qX0_areInOneRow_ok) hz hR rfl (Or.inr ⟨rfl, by decide⟩) h
    · refine a_run (md qX0_areInOneRow_ok) hz 1 [1] (pc' := 18) (lv' := [some (.inr 3), some (.inl x1), some (.inl x2)]) (st' := []) (M' := M) (P := (¬ r2 = 0) ∧ True) rfl ⟨hc, trivial⟩ ?_
      refine jn_elim h (fun (K3 : Option (Int)) => OK (K3) (fun r2 => Q (some r2) M) → Aw z 48 [none, none, none] [] M) (fun h => ?_) (fun K3 hK3 h => ?_)
      · refine a_run (md qX0_areInOneRow_ok) hz 2 [] (pc' := 53) (lv' := [none, none, none]) (st' := [.inl (1 : Int)]) (M' := M) (P := True) rfl trivial ?_
        exact a_ri (md qX0_areInOneRow_ok) hz hR rfl (Or.inr ⟨rfl, by decide⟩) h
      · obtain ⟨⟨h6, h7⟩, h⟩ := gd_elim h
        refine ite_elim h (fun hc h => ?_) (fun hc h => ?_)
        · refine a_run (md qX0_areInOneRow_ok) hz 9 [1] (pc' := 48) (lv' := [some (.inr 3), some (.inl x1), some (.inl x2)]) (st' := []) (M' := M) (P := (0 ≤ x1 ∧ x1 < 12) ∧ (0 ≤ x2 ∧ x2 < 12) ∧ ((M 4 x1.toNat) = (M 4 x2.toNat)) ∧ True) rfl ⟨h6, h7, hc, trivial⟩ ?_
          refine a_mask [false, false, false] ?_
          exact hK3  h
        · refine a_run (md qX0_areInOneRow_ok) hz 9 [0] (pc' := 33) (lv' := [some (.inr 3), some (.inl x1), some (.inl x2)]) (st' := []) (M' := M) (P := (0 ≤ x1 ∧ x1 < 12) ∧ (0 ≤ x2 ∧ x2 < 12) ∧ (¬ ((M 4 x1.toNat) = (M 4 x2.toNat))) ∧ True) rfl ⟨h6, h7, hc, trivial⟩ ?_
          obtain ⟨⟨h4, h5⟩, h⟩ := gd_elim h
          refine ite_elim h (fun hc h => ?_) (fun hc h => ?_)
          · refine a_run (md qX0_areInOneRow_ok) hz 9 [0] (pc' := 48) (lv' := [some (.inr 3), some (.inl x1), some (.inl x2)]) (st' := []) (M' := M) (P := (0 ≤ x1 ∧ x1 < 12) ∧ (0 ≤ x2 ∧ x2 < 12) ∧ (¬ ¬ (M 5 x1.toNat) = (M 5 x2.toNat)) ∧ True) rfl ⟨h4, h5, fun h9 => h9 hc, trivial⟩ ?_
            refine a_mask [false, false, false] ?_
            exact hK3  h
          · refine a_run (md qX0_areInOneRow_ok) hz 9 [1] (pc' := 52) (lv' := [some (.inr 3), some (.inl x1), some (.inl x2)]) (st' := []) (M' := M) (P := (0 ≤ x1 ∧ x1 < 12) ∧ (0 ≤ x2 ∧ x2 < 12) ∧ (¬ (M 5 x1.toNat) = (M 5 x2.toNat)) ∧ True) rfl ⟨h4, h5, hc, trivial⟩ ?_
            refine a_run (md qX0_areInOneRow_ok) hz 1 [] (pc' := 53) (lv' := [some (.inr 3), some (.inl x1), some (.inl x2)]) (st' := [.inl (0 : Int)]) (M' := M) (P := True) rfl trivial ?_
            exact a_ri (md qX0_areInOneRow_ok) hz hR rfl (Or.inr ⟨rfl, by decide⟩) h
def fX0_areJoined_L2 (x1 : Int) (x2 : Int) (M : Mm) : Nat → Int → Option (Int)
  | 0, _ => none
  | n + 1, v1 => if (M 3 1) ≤ v1 then some (0 : Int) else jn (fun (v2 : Int) (w3 : Int) => jn (fun (v5 : Int) (v6 : Int) (w7 : Int) => if v6 = 0 then if w7 = 0 then gd ((inR (v5 + (1 : Int)))) (fX0_areJoined_L2 x1 x2 M n (v5 + (1 : Int))) else some (1 : Int) else some (1 : Int)) (fun (K8 : Int → Int → Int → Option (Int)) => jn (fun (v10 : Int) (v11 : Int) => K8 v10 v11 (0 : Int)) (fun (K12 : Int → Int → Option (Int)) => gd ((0 ≤ v2 ∧ v2 < 20)) (if (M 6 v2.toNat) = x2 then gd ((0 ≤ v2 ∧ v2 < 20)) (if (M 7 v2.toNat) = x1 then K8 v2 w3 (1 : Int) else K12 v2 w3) else K12 v2 w3)))) (fun (K4 : Int → Int → Option (Int)) => jn (fun (v15 : Int) => K4 v15 (0 : Int)) (fun (K16 : Int → Option (Int)) => gd ((0 ≤ v1 ∧ v1 < 20)) (if (M 6 v1.toNat) = x1 then gd ((0 ≤ v1 ∧ v1 < 20)) (if (M 7 v1.toNat) = x2 then K4 v1 (1 : Int) else K16 v1) else K16 v1)))
def fX0_areJoined (M : Mm) (x1 : Int) (x2 : Int) : Option (Int) := fX0_areJoined_L2 x1 x2 M 1000 (0 : Int)
set_option maxRecDepth 100000 in
theorem mX0_areJoined_L2 {z : Zx} (hz : Cx qX0_areJoined z) {Q : Option Int → Mm → Prop} (hR : Rt Q z) {x1 : Int} {x2 : Int} {M : Mm} : ∀ (n : Nat) (v1 : Int), OK (fX0_areJoined_L2 x1 x2 M n v1) (fun r2 => Q (some r2) M) → Aw z 2 [some (.inr 3), some (.inl x1), some (.inl x2), some (.inl v1), none, none] [] M := by
  intro n
  induction n with
  | zero =>
    intro v1 h
    exact (show False from h).elim
  | succ n ih =>
    intro v1 h
    unfold fX0_areJoined_L2 at h
    refine ite_elim h (fun hc h => ?_) (fun hc h => ?_)
    · refine a_run (md qX0_areJoined_ok) hz 4 [1] (pc' := 82) (lv' := [some (.inr 3), some (.inl x1), some (.inl x2), some (.inl v1), none, none]) (st' := []) (M' := M) (P := ((M 3 1) ≤ v1) ∧ True) rfl ⟨hc, trivial⟩ ?_
      refine a_run (md qX0_areJoined_ok) hz 1 [] (pc' := 83) (lv' := [some (.inr 3), some (.inl x1), some (.inl x2), some (.inl v1), none, none]) (st' := [.inl (0 : Int)]) (M' := M) (P := True) rfl trivial ?_
      exact a_ri (md qX0_areJoined_ok) hz hR rfl (Or.inr ⟨rfl, by decide⟩) h
    · refine a_run (md qX0_areJoined_ok) hz 4 [0] (pc' := 10) (lv' := [some (.inr 3), some (.inl x1), some (.inl x2), some (.inl v1), none, none]) (st' := []) (M' := M) (P := (¬ ((M 3 1) ≤ v1)) ∧ True) rfl ⟨hc, trivial⟩ ?_
      refine jn_elim h (fun (K4 : Int → Int → Option (Int)) => ∀ (v2 : Int), ∀ (w3 : Int), OK (K4 v2 w3) (fun r2 => Q (some r2) M) → Aw z 35 [some (.inr 3), some (.inl x1), some (.inl x2), some (.inl v2), none, none] [.inl w3] M) (fun v2 w3 h => ?_) (fun K4 hK4 h => ?_)
      · refine jn_elim h (fun (K8 : Int → Int → Int → Option (Int)) => ∀ (v5 : Int), ∀ (v6 : Int), ∀ (w7 : Int), OK (K8 v5 v6 w7) (fun r2 => Q (some r2) M) → Aw z 62 [some (.inr 3), some (.inl x1), some (.inl x2), some (.inl v5), some (.inl v6), none] [.inl w7] M) (fun v5 v6 w7 h => ?_) (fun K8 hK8 h => ?_)
        · refine ite_elim h (fun hc h => ?_) (fun hc h => ?_)
          · refine a_run (md qX0_areJoined_ok) hz 3 [0] (pc' := 69) (lv' := [some (.inr 3), some (.inl x1), some (.inl x2), some (.inl v5), some (.inl v6), some (.inl w7)]) (st' := []) (M' := M) (P := (¬ ¬ v6 = 0) ∧ True) rfl ⟨fun h9 => h9 hc, trivial⟩ ?_
            refine ite_elim h (fun hc h => ?_) (fun hc h => ?_)
            · refine a_run (md qX0_areJoined_ok) hz 2 [1] (pc' := 76) (lv' := [some (.inr 3), some (.inl x1), some (.inl x2), some (.inl v5), some (.inl v6), some (.inl w7)]) (st' := []) (M' := M) (P := (w7 = 0) ∧ True) rfl ⟨hc, trivial⟩ ?_
              obtain ⟨h9, h⟩ := gd_elim h
              refine a_run (md qX0_areJoined_ok) hz 2 [] (pc' := 2) (lv' := [some (.inr 3), some (.inl x1), some (.inl x2), some (.inl (v5 + (1 : Int))), some (.inl v6), some (.inl w7)]) (st' := []) (M' := M) (P := (inR (v5 + (1 : Int))) ∧ True) rfl ⟨h9, trivial⟩ ?_
              refine a_mask [true, true, true, true, false, false] ?_
              exact ih (v5 + (1 : Int)) h
            · refine a_run (md qX0_areJoined_ok) hz 2 [0] (pc' := 74) (lv' := [some (.inr 3), some (.inl x1), some (.inl x2), some (.inl v5), some (.inl v6), some (.inl w7)]) (st' := []) (M' := M) (P := (¬ (w7 = 0)) ∧ True) rfl ⟨hc, trivial⟩ ?_
              refine a_run (md qX0_areJoined_ok) hz 1 [] (pc' := 75) (lv' := [some (.inr 3), some (.inl x1), some (.inl x2), some (.inl v5), some (.inl v6), some (.inl w7)]) (st' := [.inl (1 : Int)]) (M' := M) (P := True) rfl trivial ?_
              exact a_ri (md qX0_areJoined_ok) hz hR rfl (Or.inr ⟨rfl, by decide⟩) h
          · refine a_run (md qX0_areJoined_ok) hz 3 [1] (pc' := 74) (lv' := [some (.inr 3), some (.inl x1), some (.inl x2), some (.inl v5), some (.inl v6), some (.inl w7)]) (st' := []) (M' := M) (P := (¬ v6 = 0) ∧ True) rfl ⟨hc, trivial⟩ ?_
            refine a_run (md qX0_areJoined_ok) hz 1 [] (pc' := 75) (lv' := [some (.inr 3), some (.inl x1), some (.inl x2), some (.inl v5), some (.inl v6), some (.inl w7)]) (st' := [.inl (1 : Int)]) (M' := M) (P := True) rfl trivial ?_
            exact a_ri (md qX0_areJoined_ok) hz hR rfl (Or.inr ⟨rfl, by decide⟩) h
        · refine jn_elim h (fun (K12 : Int → Int → Option (Int)) => ∀ (v10 : Int), ∀ (v11 : Int), OK (K12 v10 v11) (fun r2 => Q (some r2) M) → Aw z 61 [some (.inr 3), some (.inl x1), some (.inl x2), some (.inl v10), some (.inl v11), none] [] M) (fun v10 v11 h => ?_) (fun K12 hK12 h => ?_)
          · refine a_run (md qX0_areJoined_ok) hz 1 [] (pc' := 62) (lv' := [some (.inr 3), some (.inl x1), some (.inl x2), some (.inl v10), some (.inl v11), none]) (st' := [.inl (0 : Int)]) (M' := M) (P := True) rfl trivial ?_
            refine a_mask [true, true, true, true, true, false] ?_
            exact hK8 v10 v11 (0 : Int) h
          · obtain ⟨h14, h⟩ := gd_elim h
            refine ite_elim h (fun hc h => ?_) (fun hc h => ?_)
            · refine a_run (md qX0_areJoined_ok) hz 7 [0] (pc' := 47) (lv' := [some (.inr 3), some (.inl x1), some (.inl x2), some (.inl v2), some (.inl w3), none]) (st' := []) (M' := M) (P := (0 ≤ v2 ∧ v2 < 20) ∧ (¬ ¬ (M 6 v2.toNat) = x2) ∧ True) rfl ⟨h14, fun h9 => h9 hc, trivial⟩ ?_
              obtain ⟨h13, h⟩ := gd_elim h
              refine ite_elim h (fun hc h => ?_) (fun hc h => ?_)
              · refine a_run (md qX0_areJoined_ok) hz 6 [0] (pc' := 57) (lv' := [some (.inr 3), some (.inl x1), some (.inl x2), some (.inl v2), some (.inl w3), none]) (st' := []) (M' := M) (P := (0 ≤ v2 ∧ v2 < 20) ∧ (¬ ¬ (M 7 v2.toNat) = x1) ∧ True) rfl ⟨h13, fun h9 => h9 hc, trivial⟩ ?_
                refine a_run (md qX0_areJoined_ok) hz 2 [] (pc' := 62) (lv' := [some (.inr 3), some (.inl x1), some (.inl x2), some (.inl v2), some (.inl w3), none]) (st' := [.inl (1 : Int)]) (M' := M) (P := True) rfl trivial ?_
                refine a_mask [true, true, true, true, true, false] ?_
                exact hK8 v2 w3 (1 : Int) h
              · refine a_run (md qX0_areJoined_ok) hz 6 [1] (pc' := 61) (lv' := [some (.inr 3), some (.inl x1), some (.inl x2), some (.inl v2), some (.inl w3), none]) (st' := []) (M' := M) (P := (0 ≤ v2 ∧ v2 < 20) ∧ (¬ (M 7 v2.toNat) = x1) ∧ True) rfl ⟨h13, hc, trivial⟩ ?_
                refine a_mask [true, true, true, true, true, false] ?_
                exact hK12 v2 w3 h
            · refine a_run (md qX0_areJoined_ok) hz 7 [1] (pc' := 61) (lv' := [some (.inr 3), some (.inl x1), some (.inl x2), some (.inl v2), some (.inl w3), none]) (st' := []) (M' := M) (P := (0 ≤ v2 ∧ v2 < 20) ∧ (¬ (M 6 v2.toNat) = x2) ∧ True) rfl ⟨h14, hc, trivial⟩ ?_
              refine a_mask [true, true, true, true, true, false] ?_
              exact hK12 v2 w3 h
      · refine jn_elim h (fun (K16 : Int → Option (Int)) => ∀ (v15 : Int), OK (K16 v15) (fun r2 => Q (some r2) M) → Aw z 34 [some (.inr 3), some (.inl x1), some (.inl x2), some (.inl v15), none, none] [] M) (fun v15 h => ?_) (fun K16 hK16 h => ?_)
        · refine a_run (md qX0_areJoined_ok) hz 1 [] (pc' := 35) (lv' := [some (.inr 3), some (.inl x1), some (.inl x2), some (.inl v15), none, none]) (st' := [.inl (0 : Int)]) (M' := M) (P := True) rfl trivial ?_
          refine a_mask [true, true, true, true, false, false] ?_
          exact hK4 v15 (0 : Int) h
        · obtain ⟨h18, h⟩ := gd_elim h
          refine ite_elim h (fun hc h => ?_) (fun hc h => ?_)
          · refine a_run (md qX0_areJoined_ok) hz 6 [0] (pc' := 20) (lv' := [some (.inr 3), some (.inl x1), some (.inl x2), some (.inl v1), none, none]) (st' := []) (M' := M) (P := (0 ≤ v1 ∧ v1 < 20) ∧ (¬ ¬ (M 6 v1.toNat) = x1) ∧ True) rfl ⟨h18, fun h9 => h9 hc, trivial⟩ ?_
            obtain ⟨h17, h⟩ := gd_elim h
            refine ite_elim h (fun hc h => ?_) (fun hc h => ?_)
            · refine a_run (md qX0_areJoined_ok) hz 6 [0] (pc' := 30) (lv' := [some (.inr 3), some (.inl x1), some (.inl x2), some (.inl v1), none, none]) (st' := []) (M' := M) (P := (0 ≤ v1 ∧ v1 < 20) ∧ (¬ ¬ (M 7 v1.toNat) = x2) ∧ True) rfl ⟨h17, fun h9 => h9 hc, trivial⟩ ?_
              refine a_run (md qX0_areJoined_ok) hz 2 [] (pc' := 35) (lv' := [some (.inr 3), some (.inl x1), some (.inl x2), some (.inl v1), none, none]) (st' := [.inl (1 : Int)]) (M' := M) (P := True) rfl trivial ?_
              refine a_mask [true, true, true, true, false, false] ?_
              exact hK4 v1 (1 : Int) h
            · refine a_run (md qX0_areJoined_ok) hz 6 [1] (pc' := 34) (lv' := [some (.inr 3), some (.inl x1), some (.inl x2), some (.inl v1), none, none]) (st' := []) (M' := M) (P := (0 ≤ v1 ∧ v1 < 20) ∧ (¬ (M 7 v1.toNat) = x2) ∧ True) rfl ⟨h17, hc, trivial⟩ ?_
              refine a_mask [true, true, true, true, false, false] ?_
              exact hK16 v1 h
          · refine a_run (md qX0_areJoined_ok) hz 6 [1] (pc' := 34) (lv' := [some (.inr 3), some (.inl x1), some (.inl x2), some (.inl v1), none, none]) (st' := []) (M' := M) (P := (0 ≤ v1 ∧ v1 < 20) ∧ (¬ (M 6 v1.toNat) = x1) ∧ True) rfl ⟨h18, hc, trivial⟩ ?_
            refine a_mask [true, true, true, true, false, false] ?_
            exact hK16 v1 h
set_option maxRecDepth 100000 in
theorem mX0_areJoined (g : Gx) {M : Mm} {x1 : Int} {x2 : Int} {r : Int} (h : fX0_areJoined M x1 x2 = some r) : Ct g qX0_areJoined [.inr 3, .inl x1, .inl x2] M (fun r' M' => r' = some r ∧ M' = M) := by
  refine c_ofP h qX0_areJoined_ok (Nat.le_of_ble_eq_true rfl) (fun z hz Q hR h => ?_)
  unfold fX0_areJoined at h
  show Aw z 0 [some (.inr 3), some (.inl x1), some (.inl x2), none, none, none] [] M
  refine a_run (md qX0_areJoined_ok) hz 2 [] (pc' := 2) (lv' := [some (.inr 3), some (.inl x1), some (.inl x2), some (.inl (0 : Int)), none, none]) (st' := []) (M' := M) (P := True) rfl trivial ?_
  refine a_mask [true, true, true, true, false, false] ?_
  refine mX0_areJoined_L2 hz hR  1000 (0 : Int) h
def fX0_pair (M : Mm) (x0 : Int) (x1 : Int) : Option (Int) := gd ((inR (x0 * (12 : Int))) ∧ (inR ((x0 * (12 : Int)) + x1))) (some ((x0 * (12 : Int)) + x1))
set_option maxRecDepth 100000 in
theorem mX0_pair (g : Gx) {M : Mm} {x0 : Int} {x1 : Int} {r : Int} (h : fX0_pair M x0 x1 = some r) : Ct g qX0_pair [.inl x0, .inl x1] M (fun r' M' => r' = some r ∧ M' = M) := by
  refine c_ofP h qX0_pair_ok (Nat.le_of_ble_eq_true rfl) (fun z hz Q hR h => ?_)
  unfold fX0_pair at h
  show Aw z 0 [some (.inl x0), some (.inl x1)] [] M
  obtain ⟨⟨h1, h2⟩, h⟩ := gd_elim h
  refine a_run (md qX0_pair_ok) hz 5 [] (pc' := 6) (lv' := [some (.inl x0), some (.inl x1)]) (st' := [.inl ((x0 * (12 : Int)) + x1)]) (M' := M) (P := (inR (x0 * (12 : Int))) ∧ (inR ((x0 * (12 : Int)) + x1)) ∧ True) rfl ⟨h1, h2, trivial⟩ ?_
  exact a_ri (md qX0_pair_ok) hz hR rfl (Or.inl rfl) h
def fX0_addCrossing_L32 (x1 : Int) (x2 : Int) (k70 : Int → Mm → Option (Mm)) : Nat → Int → Int → Mm → Option (Mm)
  | 0, _, _, _ => none
  | n + 1, v3, v4, M5 => if v3 ≤ v4 then k70 v3 M5 else cal (fX0_pair M5 v4 v3) (fun (r13 : Int) => gd ((0 ≤ r13 ∧ r13 < 144)) (bnd (up M5 10 r13.toNat (-6 : Int)) (fun (M14 : Mm) => cal (fX0_pair M14 v3 v4) (fun (r15 : Int) => gd ((0 ≤ r15 ∧ r15 < 144)) (bnd (up M14 10 r15.toNat (-6 : Int)) (fun (M16 : Mm) => gd ((inR (v4 + (1 : Int)))) (fX0_addCrossing_L32 x1 x2 k70 n v3 (v4 + (1 : Int)) M16)))))))
def fX0_addCrossing (M : Mm) (x1 : Int) (x2 : Int) : Option (Mm) := if (M 3 0) < (12 : Int) then gd ((0 ≤ (M 3 0) ∧ (M 3 0) < 12)) (bnd (up M 4 (M 3 0).toNat x1) (fun (M1 : Mm) => gd ((0 ≤ (M 3 0) ∧ (M 3 0) < 12)) (bnd (up M1 5 (M 3 0).toNat x2) (fun (M2 : Mm) => fX0_addCrossing_L32 x1 x2 (fun (v6 : Int) (M7 : Mm) => cal (fX0_pair M7 v6 v6) (fun (r8 : Int) => gd ((0 ≤ r8 ∧ r8 < 144)) (bnd (up M7 10 r8.toNat (0 : Int)) (fun (M9 : Mm) => gd ((inR (v6 + (1 : Int)))) (bnd (up M9 3 0 (v6 + (1 : Int))) (fun (M10 : Mm) => some M10)))))) 1000 (M 3 0) (0 : Int) M2)))) else some M
set_option maxRecDepth 100000 in
theorem mX0_addCrossing_L32 {z : Zx} (hz : Cx qX0_addCrossing z) {Q : Option Int → Mm → Prop} (hR : Rt Q z) {x1 : Int} {x2 : Int} {k70 : Int → Mm → Option (Mm)} (hk70 : ∀ (v6 : Int), ∀ (M7 : Mm), OK (k70 v6 M7) (fun r2 => Q none r2) → Aw z 70 [some (.inr 3), none, none, some (.inl v6), none] [] M7) : ∀ (n : Nat) (v3 : Int) (v4 : Int) (M5 : Mm), OK (fX0_addCrossing_L32 x1 x2 k70 n v3 v4 M5) (fun r2 => Q none r2) → Aw z 32 [some (.inr 3), none, none, some (.inl v3), some (.inl v4)] [] M5 := by
  intro n
  induction n with
  | zero =>
    intro v3 v4 M5 h
    exact (show False from h).elim
  | succ n ih =>
    intro v3 v4 M5 h
    unfold fX0_addCrossing_L32 at h
    refine ite_elim h (fun hc h => ?_) (fun hc h => ?_)
    · refine a_run (md qX0_addCrossing_ok) hz 3 [1] (pc' := 70) (lv' := [some (.inr 3), none, none, some (.inl v3), some (.inl v4)]) (st' := []) (M' := M5) (P := (v3 ≤ v4) ∧ True) rfl ⟨hc, trivial⟩ ?_
      refine a_mask [true, false, false, true, false] ?_
      exact hk70 v3 M5 h
    · refine a_run (md qX0_addCrossing_ok) hz 3 [0] (pc' := 38) (lv' := [some (.inr 3), none, none, some (.inl v3), some (.inl v4)]) (st' := []) (M' := M5) (P := (¬ (v3 ≤ v4)) ∧ True) rfl ⟨hc, trivial⟩ ?_
      refine a_run (md qX0_addCrossing_ok) hz 4 [] (pc' := 45) (lv' := [some (.inr 3), none, none, some (.inl v3), some (.inl v4)]) (st' := [.inl v3, .inl v4, .inr 10]) (M' := M5) (P := True) rfl trivial ?_
      obtain ⟨r13, hr, h⟩ := cal_elim h
      refine a_fS (as := [.inl v4, .inl v3]) (st := [.inr 10]) (mX0_pair z.1 hr) (md qX0_addCrossing_ok) qX0_pair_ok hz lkX0_44 rfl 2 1 (by decide +kernel) rfl rfl ?_
      show Aw z 48 [some (.inr 3), none, none, some (.inl v3), some (.inl v4)] [.inl r13, .inr 10] M5
      obtain ⟨h19, h⟩ := gd_elim h
      refine a_run (md qX0_addCrossing_ok) hz 2 [] (pc' := 51) (lv' := [some (.inr 3), none, none, some (.inl v3), some (.inl v4)]) (st' := []) (M' := (up M5 10 r13.toNat (-6 : Int))) (P := (0 ≤ r13 ∧ r13 < 144) ∧ True) rfl ⟨h19, trivial⟩ ?_
      refine bnd_elim (G := fun (M14 : Mm) => Aw z 51 [some (.inr 3), none, none, some (.inl v3), some (.inl v4)] [] M14) h (fun M14 h => ?_)
      refine a_run (md qX0_addCrossing_ok) hz 4 [] (pc' := 58) (lv' := [some (.inr 3), none, none, some (.inl v3), some (.inl v4)]) (st' := [.inl v4, .inl v3, .inr 10]) (M' := M14) (P := True) rfl trivial ?_
      obtain ⟨r15, hr, h⟩ := cal_elim h
      refine a_fS (as := [.inl v3, .inl v4]) (st := [.inr 10]) (mX0_pair z.1 hr) (md qX0_addCrossing_ok) qX0_pair_ok hz lkX0_44 rfl 2 1 (by decide +kernel) rfl rfl ?_
      show Aw z 61 [some (.inr 3), none, none, some (.inl v3), some (.inl v4)] [.inl r15, .inr 10] M14
      obtain ⟨h18, h⟩ := gd_elim h
      refine a_run (md qX0_addCrossing_ok) hz 2 [] (pc' := 64) (lv' := [some (.inr 3), none, none, some (.inl v3), some (.inl v4)]) (st' := []) (M' := (up M14 10 r15.toNat (-6 : Int))) (P := (0 ≤ r15 ∧ r15 < 144) ∧ True) rfl ⟨h18, trivial⟩ ?_
      refine bnd_elim (G := fun (M16 : Mm) => Aw z 64 [some (.inr 3), none, none, some (.inl v3), some (.inl v4)] [] M16) h (fun M16 h => ?_)
      obtain ⟨h17, h⟩ := gd_elim h
      refine a_run (md qX0_addCrossing_ok) hz 2 [] (pc' := 32) (lv' := [some (.inr 3), none, none, some (.inl v3), some (.inl (v4 + (1 : Int)))]) (st' := []) (M' := M16) (P := (inR (v4 + (1 : Int))) ∧ True) rfl ⟨h17, trivial⟩ ?_
      refine a_mask [true, false, false, true, true] ?_
      exact ih v3 (v4 + (1 : Int)) M16 h
set_option maxRecDepth 100000 in
theorem mX0_addCrossing (g : Gx) {M : Mm} {x1 : Int} {x2 : Int} {M2 : Mm} (h : fX0_addCrossing M x1 x2 = some M2) : Ct g qX0_addCrossing [.inr 3, .inl x1, .inl x2] M (fun r' M' => r' = none ∧ M' = M2) := by
  refine c_ofV h qX0_addCrossing_ok (Nat.le_of_ble_eq_true rfl) (fun z hz Q hR h => ?_)
  unfold fX0_addCrossing at h
  show Aw z 0 [some (.inr 3), some (.inl x1), some (.inl x2), none, none] [] M
  refine ite_elim h (fun hc h => ?_) (fun hc h => ?_)
  · refine a_run (md qX0_addCrossing_ok) hz 4 [1] (pc' := 10) (lv' := [some (.inr 3), some (.inl x1), some (.inl x2), none, none]) (st' := []) (M' := M) (P := ((M 3 0) < (12 : Int)) ∧ True) rfl ⟨hc, trivial⟩ ?_
    obtain ⟨h21, h⟩ := gd_elim h
    refine a_run (md qX0_addCrossing_ok) hz 8 [] (pc' := 22) (lv' := [some (.inr 3), some (.inl x1), some (.inl x2), some (.inl (M 3 0)), none]) (st' := []) (M' := (up M 4 (M 3 0).toNat x1)) (P := (0 ≤ (M 3 0) ∧ (M 3 0) < 12) ∧ True) rfl ⟨h21, trivial⟩ ?_
    refine bnd_elim (G := fun (M1 : Mm) => Aw z 22 [some (.inr 3), some (.inl x1), some (.inl x2), some (.inl (M 3 0)), none] [] M1) h (fun M1 h => ?_)
    obtain ⟨h20, h⟩ := gd_elim h
    refine a_run (md qX0_addCrossing_ok) hz 5 [] (pc' := 29) (lv' := [some (.inr 3), some (.inl x1), some (.inl x2), some (.inl (M 3 0)), none]) (st' := []) (M' := (up M1 5 (M 3 0).toNat x2)) (P := (0 ≤ (M 3 0) ∧ (M 3 0) < 12) ∧ True) rfl ⟨h20, trivial⟩ ?_
    refine bnd_elim (G := fun (M2 : Mm) => Aw z 29 [some (.inr 3), some (.inl x1), some (.inl x2), some (.inl (M 3 0)), none] [] M2) h (fun M2 h => ?_)
    refine a_run (md qX0_addCrossing_ok) hz 2 [] (pc' := 32) (lv' := [some (.inr 3), some (.inl x1), some (.inl x2), some (.inl (M 3 0)), some (.inl (0 : Int))]) (st' := []) (M' := M2) (P := True) rfl trivial ?_
    refine a_mask [true, false, false, true, true] ?_
    refine mX0_addCrossing_L32 hz hR (fun v6 M7 h => ?_) 1000 (M 3 0) (0 : Int) M2 h
    · refine a_run (md qX0_addCrossing_ok) hz 4 [] (pc' := 76) (lv' := [some (.inr 3), none, none, some (.inl v6), none]) (st' := [.inl v6, .inl v6, .inr 10]) (M' := M7) (P := True) rfl trivial ?_
      obtain ⟨r8, hr, h⟩ := cal_elim h
      refine a_fS (as := [.inl v6, .inl v6]) (st := [.inr 10]) (mX0_pair z.1 hr) (md qX0_addCrossing_ok) qX0_pair_ok hz lkX0_44 rfl 2 1 (by decide +kernel) rfl rfl ?_
      show Aw z 79 [some (.inr 3), none, none, some (.inl v6), none] [.inl r8, .inr 10] M7
      obtain ⟨h12, h⟩ := gd_elim h
      refine a_run (md qX0_addCrossing_ok) hz 2 [] (pc' := 81) (lv' := [some (.inr 3), none, none, some (.inl v6), none]) (st' := []) (M' := (up M7 10 r8.toNat (0 : Int))) (P := (0 ≤ r8 ∧ r8 < 144) ∧ True) rfl ⟨h12, trivial⟩ ?_
      refine bnd_elim (G := fun (M9 : Mm) => Aw z 81 [some (.inr 3), none, none, some (.inl v6), none] [] M9) h (fun M9 h => ?_)
      obtain ⟨h11, h⟩ := gd_elim h
      refine a_run (md qX0_addCrossing_ok) hz 5 [] (pc' := 88) (lv' := [some (.inr 3), none, none, some (.inl v6), none]) (st' := []) (M' := (up M9 3 0 (v6 + (1 : Int)))) (P := (inR (v6 + (1 : Int))) ∧ True) rfl ⟨h11, trivial⟩ ?_
      refine bnd_elim (G := fun (M10 : Mm) => Aw z 88 [some (.inr 3), none, none, some (.inl v6), none] [] M10) h (fun M10 h => ?_)
      exact a_rv (md qX0_addCrossing_ok) hz hR rfl rfl h
  · refine a_run (md qX0_addCrossing_ok) hz 4 [0] (pc' := 9) (lv' := [some (.inr 3), some (.inl x1), some (.inl x2), none, none]) (st' := []) (M' := M) (P := (¬ ((M 3 0) < (12 : Int))) ∧ True) rfl ⟨hc, trivial⟩ ?_
    exact a_rv (md qX0_addCrossing_ok) hz hR rfl rfl h
def fX0_shortenBy_L28 (x1 : Int) (x2 : Int) (x3 : Int) (k122 : Int → Mm → Option (Mm)) : Nat → Int → Int → Int → Mm → Option (Mm)
  | 0, _, _, _, _ => none
  | n + 1, v4, v5, v6, M7 => if v5 = (-6 : Int) then k122 v4 M7 else if (M7 3 0) ≤ v6 then k122 v4 M7 else jn (fun (v11 : Int) (v12 : Int) (v13 : Int) (M14 : Mm) => gd ((inR (v13 + (1 : Int)))) (fX0_shortenBy_L28 x1 x2 x3 k122 n v11 v12 (v13 + (1 : Int)) M14)) (fun (K15 : Int → Int → Int → Mm → Option (Mm)) => cal (fX0_pair M7 x2 v6) (fun (r17 : Int) => gd ((0 ≤ r17 ∧ r17 < 144)) (cal (fX0_pair M7 v4 v6) (fun (r18 : Int) => gd ((0 ≤ r18 ∧ r18 < 144)) (if (M7 10 r17.toNat) = (-6 : Int) then K15 v4 v5 v6 M7 else jn (fun (v19 : Int) (v20 : Int) (v21 : Int) (v22 : Int) (M23 : Mm) => cal (fX0_pair M23 v19 v21) (fun (r25 : Int) => gd ((inR (v20 + x3)) ∧ (inR ((v20 + x3) + v22)) ∧ (0 ≤ r25 ∧ r25 < 144)) (bnd (up M23 10 r25.toNat ((v20 + x3) + v22)) (fun (M26 : Mm) => K15 v19 v20 v21 M26)))) (fun (K24 : Int → Int → Int → Int → Mm → Option (Mm)) => if (M7 10 r18.toNat) = (-6 : Int) then K24 v4 v5 v6 (M7 10 r17.toNat) M7 else gd ((inR (v5 + x3)) ∧ (inR ((v5 + x3) + (M7 10 r17.toNat)))) (if (M7 10 r18.toNat) ≤ ((v5 + x3) + (M7 10 r17.toNat)) then K15 v4 v5 v6 M7 else K24 v4 v5 v6 (M7 10 r17.toNat) M7)))))))
def fX0_shortenBy_L3 (x1 : Int) (x2 : Int) (x3 : Int) : Nat → Int → Mm → Option (Mm)
  | 0, _, _ => none
  | n + 1, v1, M2 => if (M2 3 0) ≤ v1 then some M2 else cal (fX0_pair M2 v1 x1) (fun (r3 : Int) => gd ((0 ≤ r3 ∧ r3 < 144)) (fX0_shortenBy_L28 x1 x2 x3 (fun (v8 : Int) (M9 : Mm) => gd ((inR (v8 + (1 : Int)))) (fX0_shortenBy_L3 x1 x2 x3 n (v8 + (1 : Int)) M9)) 1000 v1 (M2 10 r3.toNat) (0 : Int) M2))
def fX0_shortenBy (M : Mm) (x1 : Int) (x2 : Int) (x3 : Int) : Option (Mm) := fX0_shortenBy_L3 x1 x2 x3 1000 (0 : Int) M
set_option maxRecDepth 100000 in
theorem mX0_shortenBy_L28 {z : Zx} (hz : Cx qX0_shortenBy z) {Q : Option Int → Mm → Prop} (hR : Rt Q z) {x1 : Int} {x2 : Int} {x3 : Int} {k122 : Int → Mm → Option (Mm)} (hk122 : ∀ (v8 : Int), ∀ (M9 : Mm), OK (k122 v8 M9) (fun r2 => Q none r2) → Aw z 122 [some (.inr 3), some (.inl x1), some (.inl x2), some (.inl x3), some (.inl v8), none, none, none, none] [] M9) : ∀ (n : Nat) (v4 : Int) (v5 : Int) (v6 : Int) (M7 : Mm), OK (fX0_shortenBy_L28 x1 x2 x3 k122 n v4 v5 v6 M7) (fun r2 => Q none r2) → Aw z 28 [some (.inr 3), some (.inl x1), some (.inl x2), some (.inl x3), some (.inl v4), some (.inl v5), some (.inl v6), none, none] [] M7 := by
  intro n
  induction n with
  | zero =>
    intro v4 v5 v6 M7 h
    exact (show False from h).elim
  | succ n ih =>
    intro v4 v5 v6 M7 h
    unfold fX0_shortenBy_L28 at h
    refine ite_elim h (fun hc h => ?_) (fun hc h => ?_)
    · refine a_run (md qX0_shortenBy_ok) hz 3 [1] (pc' := 122) (lv' := [some (.inr 3), some (.inl x1), some (.inl x2), some (.inl x3), some (.inl v4), some (.inl v5), some (.inl v6), none, none]) (st' := []) (M' := M7) (P := (v5 = (-6 : Int)) ∧ True) rfl ⟨hc, trivial⟩ ?_
      refine a_mask [true, true, true, true, true, false, false, false, false] ?_
      exact hk122 v4 M7 h
    · refine a_run (md qX0_shortenBy_ok) hz 3 [0] (pc' := 35) (lv' := [some (.inr 3), some (.inl x1), some (.inl x2), some (.inl x3), some (.inl v4), some (.inl v5), some (.inl v6), none, none]) (st' := []) (M' := M7) (P := (¬ (v5 = (-6 : Int))) ∧ True) rfl ⟨hc, trivial⟩ ?_
      refine ite_elim h (fun hc h => ?_) (fun hc h => ?_)
      · refine a_run (md qX0_shortenBy_ok) hz 4 [1] (pc' := 122) (lv' := [some (.inr 3), some (.inl x1), some (.inl x2), some (.inl x3), some (.inl v4), some (.inl v5), some (.inl v6), none, none]) (st' := []) (M' := M7) (P := ((M7 3 0) ≤ v6) ∧ True) rfl ⟨hc, trivial⟩ ?_
        refine a_mask [true, true, true, true, true, false, false, false, false] ?_
        exact hk122 v4 M7 h
      · refine a_run (md qX0_shortenBy_ok) hz 4 [0] (pc' := 44) (lv' := [some (.inr 3), some (.inl x1), some (.inl x2), some (.inl x3), some (.inl v4), some (.inl v5), some (.inl v6), none, none]) (st' := []) (M' := M7) (P := (¬ ((M7 3 0) ≤ v6)) ∧ True) rfl ⟨hc, trivial⟩ ?_
        refine jn_elim h (fun (K15 : Int → Int → Int → Mm → Option (Mm)) => ∀ (v11 : Int), ∀ (v12 : Int), ∀ (v13 : Int), ∀ (M14 : Mm), OK (K15 v11 v12 v13 M14) (fun r2 => Q none r2) → Aw z 116 [some (.inr 3), some (.inl x1), some (.inl x2), some (.inl x3), some (.inl v11), some (.inl v12), some (.inl v13), none, none] [] M14) (fun v11 v12 v13 M14 h => ?_) (fun K15 hK15 h => ?_)
        · obtain ⟨h16, h⟩ := gd_elim h
          refine a_run (md qX0_shortenBy_ok) hz 2 [] (pc' := 28) (lv' := [some (.inr 3), some (.inl x1), some (.inl x2), some (.inl x3), some (.inl v11), some (.inl v12), some (.inl (v13 + (1 : Int))), none, none]) (st' := []) (M' := M14) (P := (inR (v13 + (1 : Int))) ∧ True) rfl ⟨h16, trivial⟩ ?_
          refine a_mask [true, true, true, true, true, true, true, false, false] ?_
          exact ih v11 v12 (v13 + (1 : Int)) M14 h
        · refine a_run (md qX0_shortenBy_ok) hz 4 [] (pc' := 51) (lv' := [some (.inr 3), some (.inl x1), some (.inl x2), some (.inl x3), some (.inl v4), some (.inl v5), some (.inl v6), none, none]) (st' := [.inl v6, .inl x2, .inr 10]) (M' := M7) (P := True) rfl trivial ?_
          obtain ⟨r17, hr, h⟩ := cal_elim h
          refine a_fS (as := [.inl x2, .inl v6]) (st := [.inr 10]) (mX0_pair z.1 hr) (md qX0_shortenBy_ok) qX0_pair_ok hz lkX0_44 rfl 2 1 (by decide +kernel) rfl rfl ?_
          show Aw z 54 [some (.inr 3), some (.inl x1), some (.inl x2), some (.inl x3), some (.inl v4), some (.inl v5), some (.inl v6), none, none] [.inl r17, .inr 10] M7
          obtain ⟨h33, h⟩ := gd_elim h
          refine a_run (md qX0_shortenBy_ok) hz 6 [] (pc' := 65) (lv' := [some (.inr 3), some (.inl x1), some (.inl x2), some (.inl x3), some (.inl v4), some (.inl v5), some (.inl v6), some (.inl (M7 10 r17.toNat)), none]) (st' := [.inl v6, .inl v4, .inr 10]) (M' := M7) (P := (0 ≤ r17 ∧ r17 < 144) ∧ True) rfl ⟨h33, trivial⟩ ?_
          obtain ⟨r18, hr, h⟩ := cal_elim h
          refine a_fS (as := [.inl v4, .inl v6]) (st := [.inr 10]) (mX0_pair z.1 hr) (md qX0_shortenBy_ok) qX0_pair_ok hz lkX0_44 rfl 2 1 (by decide +kernel) rfl rfl ?_
          show Aw z 68 [some (.inr 3), some (.inl x1), some (.inl x2), some (.inl x3), some (.inl v4), some (.inl v5), some (.inl v6), some (.inl (M7 10 r17.toNat)), none] [.inl r18, .inr 10] M7
          obtain ⟨h32, h⟩ := gd_elim h
          refine ite_elim h (fun hc h => ?_) (fun hc h => ?_)
          · refine a_run (md qX0_shortenBy_ok) hz 5 [1] (pc' := 116) (lv' := [some (.inr 3), some (.inl x1), some (.inl x2), some (.inl x3), some (.inl v4), some (.inl v5), some (.inl v6), some (.inl (M7 10 r17.toNat)), some (.inl (M7 10 r18.toNat))]) (st' := []) (M' := M7) (P := (0 ≤ r18 ∧ r18 < 144) ∧ ((M7 10 r17.toNat) = (-6 : Int)) ∧ True) rfl ⟨h32, hc, trivial⟩ ?_
            refine a_mask [true, true, true, true, true, true, true, false, false] ?_
            exact hK15 v4 v5 v6 M7 h
          · refine a_run (md qX0_shortenBy_ok) hz 5 [0] (pc' := 78) (lv' := [some (.inr 3), some (.inl x1), some (.inl x2), some (.inl x3), some (.inl v4), some (.inl v5), some (.inl v6), some (.inl (M7 10 r17.toNat)), some (.inl (M7 10 r18.toNat))]) (st' := []) (M' := M7) (P := (0 ≤ r18 ∧ r18 < 144) ∧ (¬ ((M7 10 r17.toNat) = (-6 : Int))) ∧ True) rfl ⟨h32, hc, trivial⟩ ?_
            refine jn_elim h (fun (K24 : Int → Int → Int → Int → Mm → Option (Mm)) => ∀ (v19 : Int), ∀ (v20 : Int), ∀ (v21 : Int), ∀ (v22 : Int), ∀ (M23 : Mm), OK (K24 v19 v20 v21 v22 M23) (fun r2 => Q none r2) → Aw z 97 [some (.inr 3), some (.inl x1), some (.inl x2), some (.inl x3), some (.inl v19), some (.inl v20), some (.inl v21), some (.inl v22), none] [] M23) (fun v19 v20 v21 v22 M23 h => ?_) (fun K24 hK24 h => ?_)
            · refine a_run (md qX0_shortenBy_ok) hz 4 [] (pc' := 105) (lv' := [some (.inr 3), some (.inl x1), some (.inl x2), some (.inl x3), some (.inl v19), some (.inl v20), some (.inl v21), some (.inl v22), none]) (st' := [.inl v21, .inl v19, .inr 10]) (M' := M23) (P := True) rfl trivial ?_
              obtain ⟨r25, hr, h⟩ := cal_elim h
              refine a_fS (as := [.inl v19, .inl v21]) (st := [.inr 10]) (mX0_pair z.1 hr) (md qX0_shortenBy_ok) qX0_pair_ok hz lkX0_44 rfl 2 1 (by decide +kernel) rfl rfl ?_
              show Aw z 108 [some (.inr 3), some (.inl x1), some (.inl x2), some (.inl x3), some (.inl v19), some (.inl v20), some (.inl v21), some (.inl v22), none] [.inl r25, .inr 10] M23
              obtain ⟨⟨h27, h28, h29⟩, h⟩ := gd_elim h
              refine a_run (md qX0_shortenBy_ok) hz 6 [] (pc' := 116) (lv' := [some (.inr 3), some (.inl x1), some (.inl x2), some (.inl x3), some (.inl v19), some (.inl v20), some (.inl v21), some (.inl v22), none]) (st' := []) (M' := (up M23 10 r25.toNat ((v20 + x3) + v22))) (P := (inR (v20 + x3)) ∧ (inR ((v20 + x3) + v22)) ∧ (0 ≤ r25 ∧ r25 < 144) ∧ True) rfl ⟨h27, h28, h29, trivial⟩ ?_
              refine bnd_elim (G := fun (M26 : Mm) => Aw z 116 [some (.inr 3), some (.inl x1), some (.inl x2), some (.inl x3), some (.inl v19), some (.inl v20), some (.inl v21), some (.inl v22), none] [] M26) h (fun M26 h => ?_)
              refine a_mask [true, true, true, true, true, true, true, false, false] ?_
              exact hK15 v19 v20 v21 M26 h
            · refine ite_elim h (fun hc h => ?_) (fun hc h => ?_)
              · refine a_run (md qX0_shortenBy_ok) hz 3 [1] (pc' := 97) (lv' := [some (.inr 3), some (.inl x1), some (.inl x2), some (.inl x3), some (.inl v4), some (.inl v5), some (.inl v6), some (.inl (M7 10 r17.toNat)), some (.inl (M7 10 r18.toNat))]) (st' := []) (M' := M7) (P := ((M7 10 r18.toNat) = (-6 : Int)) ∧ True) rfl ⟨hc, trivial⟩ ?_
                refine a_mask [true, true, true, true, true, true, true, true, false] ?_
                exact hK24 v4 v5 v6 (M7 10 r17.toNat) M7 h
              · refine a_run (md qX0_shortenBy_ok) hz 3 [0] (pc' := 85) (lv' := [some (.inr 3), some (.inl x1), some (.inl x2), some (.inl x3), some (.inl v4), some (.inl v5), some (.inl v6), some (.inl (M7 10 r17.toNat)), some (.inl (M7 10 r18.toNat))]) (st' := []) (M' := M7) (P := (¬ ((M7 10 r18.toNat) = (-6 : Int))) ∧ True) rfl ⟨hc, trivial⟩ ?_
                obtain ⟨⟨h30, h31⟩, h⟩ := gd_elim h
                refine ite_elim h (fun hc h => ?_) (fun hc h => ?_)
                · refine a_run (md qX0_shortenBy_ok) hz 7 [1] (pc' := 116) (lv' := [some (.inr 3), some (.inl x1), some (.inl x2), some (.inl x3), some (.inl v4), some (.inl v5), some (.inl v6), some (.inl (M7 10 r17.toNat)), some (.inl (M7 10 r18.toNat))]) (st' := []) (M' := M7) (P := (inR (v5 + x3)) ∧ (inR ((v5 + x3) + (M7 10 r17.toNat))) ∧ ((M7 10 r18.toNat) ≤ ((v5 + x3) + (M7 10 r17.toNat))) ∧ True) rfl ⟨h30, h31, hc, trivial⟩ ?_
                  refine a_mask [true, true, true, true, true, true, true, false, false] ?_
                  exact hK15 v4 v5 v6 M7 h
                · refine a_run (md qX0_shortenBy_ok) hz 7 [0] (pc' := 97) (lv' := [some (.inr 3), some (.inl x1), some (.inl x2), some (.inl x3), some (.inl v4), some (.inl v5), some (.inl v6), some (.inl (M7 10 r17.toNat)), some (.inl (M7 10 r18.toNat))]) (st' := []) (M' := M7) (P := (inR (v5 + x3)) ∧ (inR ((v5 + x3) + (M7 10 r17.toNat))) ∧ (¬ ((M7 10 r18.toNat) ≤ ((v5 + x3) + (M7 10 r17.toNat)))) ∧ True) rfl ⟨h30, h31, hc, trivial⟩ ?_
                  refine a_mask [true, true, true, true, true, true, true, true, false] ?_
                  exact hK24 v4 v5 v6 (M7 10 r17.toNat) M7 h
set_option maxRecDepth 100000 in
theorem mX0_shortenBy_L3 {z : Zx} (hz : Cx qX0_shortenBy z) {Q : Option Int → Mm → Prop} (hR : Rt Q z) {x1 : Int} {x2 : Int} {x3 : Int} : ∀ (n : Nat) (v1 : Int) (M2 : Mm), OK (fX0_shortenBy_L3 x1 x2 x3 n v1 M2) (fun r2 => Q none r2) → Aw z 3 [some (.inr 3), some (.inl x1), some (.inl x2), some (.inl x3), some (.inl v1), none, none, none, none] [] M2 := by
  intro n
  induction n with
  | zero =>
    intro v1 M2 h
    exact (show False from h).elim
  | succ n ih =>
    intro v1 M2 h
    unfold fX0_shortenBy_L3 at h
    refine ite_elim h (fun hc h => ?_) (fun hc h => ?_)
    · refine a_run (md qX0_shortenBy_ok) hz 4 [1] (pc' := 128) (lv' := [some (.inr 3), some (.inl x1), some (.inl x2), some (.inl x3), some (.inl v1), none, none, none, none]) (st' := []) (M' := M2) (P := ((M2 3 0) ≤ v1) ∧ True) rfl ⟨hc, trivial⟩ ?_
      exact a_rv (md qX0_shortenBy_ok) hz hR rfl rfl h
    · refine a_run (md qX0_shortenBy_ok) hz 4 [0] (pc' := 12) (lv' := [some (.inr 3), some (.inl x1), some (.inl x2), some (.inl x3), some (.inl v1), none, none, none, none]) (st' := []) (M' := M2) (P := (¬ ((M2 3 0) ≤ v1)) ∧ True) rfl ⟨hc, trivial⟩ ?_
      refine a_run (md qX0_shortenBy_ok) hz 4 [] (pc' := 19) (lv' := [some (.inr 3), some (.inl x1), some (.inl x2), some (.inl x3), some (.inl v1), none, none, none, none]) (st' := [.inl x1, .inl v1, .inr 10]) (M' := M2) (P := True) rfl trivial ?_
      obtain ⟨r3, hr, h⟩ := cal_elim h
      refine a_fS (as := [.inl v1, .inl x1]) (st := [.inr 10]) (mX0_pair z.1 hr) (md qX0_shortenBy_ok) qX0_pair_ok hz lkX0_44 rfl 2 1 (by decide +kernel) rfl rfl ?_
      show Aw z 22 [some (.inr 3), some (.inl x1), some (.inl x2), some (.inl x3), some (.inl v1), none, none, none, none] [.inl r3, .inr 10] M2
      obtain ⟨h34, h⟩ := gd_elim h
      refine a_run (md qX0_shortenBy_ok) hz 4 [] (pc' := 28) (lv' := [some (.inr 3), some (.inl x1), some (.inl x2), some (.inl x3), some (.inl v1), some (.inl (M2 10 r3.toNat)), some (.inl (0 : Int)), none, none]) (st' := []) (M' := M2) (P := (0 ≤ r3 ∧ r3 < 144) ∧ True) rfl ⟨h34, trivial⟩ ?_
      refine a_mask [true, true, true, true, true, true, true, false, false] ?_
      refine mX0_shortenBy_L28 hz hR (fun v8 M9 h => ?_) 1000 v1 (M2 10 r3.toNat) (0 : Int) M2 h
      · obtain ⟨h10, h⟩ := gd_elim h
        refine a_run (md qX0_shortenBy_ok) hz 2 [] (pc' := 3) (lv' := [some (.inr 3), some (.inl x1), some (.inl x2), some (.inl x3), some (.inl (v8 + (1 : Int))), none, none, none, none]) (st' := []) (M' := M9) (P := (inR (v8 + (1 : Int))) ∧ True) rfl ⟨h10, trivial⟩ ?_
        refine a_mask [true, true, true, true, true, false, false, false, false] ?_
        exact ih (v8 + (1 : Int)) M9 h
set_option maxRecDepth 100000 in
theorem mX0_shortenBy (g : Gx) {M : Mm} {x1 : Int} {x2 : Int} {x3 : Int} {M2 : Mm} (h : fX0_shortenBy M x1 x2 x3 = some M2) : Ct g qX0_shortenBy [.inr 3, .inl x1, .inl x2, .inl x3] M (fun r' M' => r' = none ∧ M' = M2) := by
  refine c_ofV h qX0_shortenBy_ok (Nat.le_of_ble_eq_true rfl) (fun z hz Q hR h => ?_)
  unfold fX0_shortenBy at h
  show Aw z 0 [some (.inr 3), some (.inl x1), some (.inl x2), some (.inl x3), none, none, none, none, none] [] M
  refine a_run (md qX0_shortenBy_ok) hz 2 [] (pc' := 3) (lv' := [some (.inr 3), some (.inl x1), some (.inl x2), some (.inl x3), some (.inl (0 : Int)), none, none, none, none]) (st' := []) (M' := M) (P := True) rfl trivial ?_
  refine a_mask [true, true, true, true, true, false, false, false, false] ?_
  refine mX0_shortenBy_L3 hz hR  1000 (0 : Int) M h
def fX0_addRoad (M : Mm) (x1 : Int) (x2 : Int) (x3 : Int) : Option (Mm) := if (20 : Int) ≤ (M 3 1) then some M else cal (fX0_hasCrossing M x1) (fun (r1 : Int) => if r1 = 0 then some M else cal (fX0_hasCrossing M x2) (fun (r2 : Int) => if r2 = 0 then some M else gd ((0 ≤ x1 ∧ x1 < 12) ∧ (0 ≤ x2 ∧ x2 < 12) ∧ (inR ((M 4 x1.toNat) - (M 4 x2.toNat))) ∧ (inR (-((M 4 x1.toNat) - (M 4 x2.toNat))))) (gd ((0 ≤ x1 ∧ x1 < 12) ∧ (0 ≤ x2 ∧ x2 < 12) ∧ (inR ((M 5 x1.toNat) - (M 5 x2.toNat))) ∧ (inR (-((M 5 x1.toNat) - (M 5 x2.toNat))))) (gd ((inR ((iabs ((M 4 x1.toNat) - (M 4 x2.toNat))) + (iabs ((M 5 x1.toNat) - (M 5 x2.toNat)))))) (bnd ((iabs ((M 4 x1.toNat) - (M 4 x2.toNat))) + (iabs ((M 5 x1.toNat) - (M 5 x2.toNat)))) (fun (t5 : Int) => gd ((0 ≤ (M 3 1) ∧ (M 3 1) < 20)) (bnd (up M 6 (M 3 1).toNat x1) (fun (M6 : Mm) => gd ((0 ≤ (M6 3 1) ∧ (M6 3 1) < 20)) (bnd (up M6 7 (M6 3 1).toNat x2) (fun (M7 : Mm) => gd ((0 ≤ (M7 3 1) ∧ (M7 3 1) < 20)) (bnd (up M7 8 (M7 3 1).toNat x3) (fun (M8 : Mm) => gd ((0 ≤ (M8 3 1) ∧ (M8 3 1) < 20)) (bnd (up M8 9 (M8 3 1).toNat t5) (fun (M9 : Mm) => gd ((inR ((M9 3 1) + (1 : Int)))) (bnd (up M9 3 1 ((M9 3 1) + (1 : Int))) (fun (M10 : Mm) => cal (fX0_shortenBy M10 x1 x2 t5) (fun (M11 : Mm) => if x3 = 0 then cal (fX0_shortenBy M11 x2 x1 t5) (fun (M12 : Mm) => some M12) else some M11)))))))))))))))))
set_option maxRecDepth 100000 in
theorem mX0_addRoad (g : Gx) {M : Mm} {x1 : Int} {x2 : Int} {x3 : Int} {M2 : Mm} (h : fX0_addRoad M x1 x2 x3 = some M2) : Ct g qX0_addRoad [.inr 3, .inl x1, .inl x2, .inl x3] M (fun r' M' => r' = none ∧ M' = M2) := by
  refine c_ofV h qX0_addRoad_ok (Nat.le_of_ble_eq_true rfl) (fun z hz Q hR h => ?_)
  unfold fX0_addRoad at h
  show Aw z 0 [some (.inr 3), some (.inl x1), some (.inl x2), some (.inl x3), none] [] M
  refine ite_elim h (fun hc h => ?_) (fun hc h => ?_)
  · refine a_run (md qX0_addRoad_ok) hz 4 [1] (pc' := 25) (lv' := [some (.inr 3), some (.inl x1), some (.inl x2), some (.inl x3), none]) (st' := []) (M' := M) (P := ((20 : Int) ≤ (M 3 1)) ∧ True) rfl ⟨hc, trivial⟩ ?_
    exact a_rv (md qX0_addRoad_ok) hz hR rfl rfl h
  · refine a_run (md qX0_addRoad_ok) hz 4 [0] (pc' := 9) (lv' := [some (.inr 3), some (.inl x1), some (.inl x2), some (.inl x3), none]) (st' := []) (M' := M) (P := (¬ ((20 : Int) ≤ (M 3 1))) ∧ True) rfl ⟨hc, trivial⟩ ?_
    refine a_run (md qX0_addRoad_ok) hz 2 [] (pc' := 11) (lv' := [some (.inr 3), some (.inl x1), some (.inl x2), some (.inl x3), none]) (st' := [.inl x1, .inr 3]) (M' := M) (P := True) rfl trivial ?_
    obtain ⟨r1, hr, h⟩ := cal_elim h
    refine a_fV (as := [.inl x1]) (a := 3) (st := []) (mX0_hasCrossing z.1 hr) (md qX0_addRoad_ok) qX0_hasCrossing_ok hz lkX0_40 rfl 1 0 (by decide +kernel) rfl rfl rfl rfl ?_
    show Aw z 14 [some (.inr 3), some (.inl x1), some (.inl x2), some (.inl x3), none] [.inl r1] M
    refine ite_elim h (fun hc h => ?_) (fun hc h => ?_)
    · refine a_run (md qX0_addRoad_ok) hz 1 [1] (pc' := 25) (lv' := [some (.inr 3), some (.inl x1), some (.inl x2), some (.inl x3), none]) (st' := []) (M' := M) (P := (r1 = 0) ∧ True) rfl ⟨hc, trivial⟩ ?_
      exact a_rv (md qX0_addRoad_ok) hz hR rfl rfl h
    · refine a_run (md qX0_addRoad_ok) hz 1 [0] (pc' := 17) (lv' := [some (.inr 3), some (.inl x1), some (.inl x2), some (.inl x3), none]) (st' := []) (M' := M) (P := (¬ (r1 = 0)) ∧ True) rfl ⟨hc, trivial⟩ ?_
      refine a_run (md qX0_addRoad_ok) hz 2 [] (pc' := 19) (lv' := [some (.inr 3), some (.inl x1), some (.inl x2), some (.inl x3), none]) (st' := [.inl x2, .inr 3]) (M' := M) (P := True) rfl trivial ?_
      obtain ⟨r2, hr, h⟩ := cal_elim h
      refine a_fV (as := [.inl x2]) (a := 3) (st := []) (mX0_hasCrossing z.1 hr) (md qX0_addRoad_ok) qX0_hasCrossing_ok hz lkX0_40 rfl 1 0 (by decide +kernel) rfl rfl rfl rfl ?_
      show Aw z 22 [some (.inr 3), some (.inl x1), some (.inl x2), some (.inl x3), none] [.inl r2] M
      refine ite_elim h (fun hc h => ?_) (fun hc h => ?_)
      · refine a_run (md qX0_addRoad_ok) hz 1 [0] (pc' := 25) (lv' := [some (.inr 3), some (.inl x1), some (.inl x2), some (.inl x3), none]) (st' := []) (M' := M) (P := (¬ ¬ r2 = 0) ∧ True) rfl ⟨fun h9 => h9 hc, trivial⟩ ?_
        exact a_rv (md qX0_addRoad_ok) hz hR rfl rfl h
      · refine a_run (md qX0_addRoad_ok) hz 1 [1] (pc' := 26) (lv' := [some (.inr 3), some (.inl x1), some (.inl x2), some (.inl x3), none]) (st' := []) (M' := M) (P := (¬ r2 = 0) ∧ True) rfl ⟨hc, trivial⟩ ?_
        obtain ⟨⟨h22, h23, h24, h3⟩, h⟩ := gd_elim h
        refine a_run (md qX0_addRoad_ok) hz 9 [] (pc' := 39) (lv' := [some (.inr 3), some (.inl x1), some (.inl x2), some (.inl x3), none]) (st' := [.inl ((M 4 x1.toNat) - (M 4 x2.toNat))]) (M' := M) (P := (0 ≤ x1 ∧ x1 < 12) ∧ (0 ≤ x2 ∧ x2 < 12) ∧ (inR ((M 4 x1.toNat) - (M 4 x2.toNat))) ∧ True) rfl ⟨h22, h23, h24, trivial⟩ ?_
        refine a_abs (md qX0_addRoad_ok) hz h3 lkX0_48 0 (by decide) rfl rfl ?_
        show Aw z 42 [some (.inr 3), some (.inl x1), some (.inl x2), some (.inl x3), none] [.inl (iabs ((M 4 x1.toNat) - (M 4 x2.toNat)))] M
        obtain ⟨⟨h19, h20, h21, h4⟩, h⟩ := gd_elim h
        refine a_run (md qX0_addRoad_ok) hz 9 [] (pc' := 55) (lv' := [some (.inr 3), some (.inl x1), some (.inl x2), some (.inl x3), none]) (st' := [.inl ((M 5 x1.toNat) - (M 5 x2.toNat)), .inl (iabs ((M 4 x1.toNat) - (M 4 x2.toNat)))]) (M' := M) (P := (0 ≤ x1 ∧ x1 < 12) ∧ (0 ≤ x2 ∧ x2 < 12) ∧ (inR ((M 5 x1.toNat) - (M 5 x2.toNat))) ∧ True) rfl ⟨h19, h20, h21, trivial⟩ ?_
        refine a_abs (md qX0_addRoad_ok) hz h4 lkX0_48 1 (by decide) rfl rfl ?_
        show Aw z 58 [some (.inr 3), some (.inl x1), some (.inl x2), some (.inl x3), none] [.inl (iabs ((M 5 x1.toNat) - (M 5 x2.toNat))), .inl (iabs ((M 4 x1.toNat) - (M 4 x2.toNat)))] M
        obtain ⟨h18, h⟩ := gd_elim h
        refine a_run (md qX0_addRoad_ok) hz 2 [] (pc' := 61) (lv' := [some (.inr 3), some (.inl x1), some (.inl x2), some (.inl x3), some (.inl ((iabs ((M 4 x1.toNat) - (M 4 x2.toNat))) + (iabs ((M 5 x1.toNat) - (M 5 x2.toNat)))))]) (st' := []) (M' := M) (P := (inR ((iabs ((M 4 x1.toNat) - (M 4 x2.toNat))) + (iabs ((M 5 x1.toNat) - (M 5 x2.toNat))))) ∧ True) rfl ⟨h18, trivial⟩ ?_
        refine bnd_elim (G := fun (t5 : Int) => Aw z 61 [some (.inr 3), some (.inl x1), some (.inl x2), some (.inl x3), some (.inl t5)] [] M) h (fun t5 h => ?_)
        obtain ⟨h17, h⟩ := gd_elim h
        refine a_run (md qX0_addRoad_ok) hz 6 [] (pc' := 71) (lv' := [some (.inr 3), some (.inl x1), some (.inl x2), some (.inl x3), some (.inl t5)]) (st' := []) (M' := (up M 6 (M 3 1).toNat x1)) (P := (0 ≤ (M 3 1) ∧ (M 3 1) < 20) ∧ True) rfl ⟨h17, trivial⟩ ?_
        refine bnd_elim (G := fun (M6 : Mm) => Aw z 71 [some (.inr 3), some (.inl x1), some (.inl x2), some (.inl x3), some (.inl t5)] [] M6) h (fun M6 h => ?_)
        obtain ⟨h16, h⟩ := gd_elim h
        refine a_run (md qX0_addRoad_ok) hz 6 [] (pc' := 81) (lv' := [some (.inr 3), some (.inl x1), some (.inl x2), some (.inl x3), some (.inl t5)]) (st' := []) (M' := (up M6 7 (M6 3 1).toNat x2)) (P := (0 ≤ (M6 3 1) ∧ (M6 3 1) < 20) ∧ True) rfl ⟨h16, trivial⟩ ?_
        refine bnd_elim (G := fun (M7 : Mm) => Aw z 81 [some (.inr 3), some (.inl x1), some (.inl x2), some (.inl x3), some (.inl t5)] [] M7) h (fun M7 h => ?_)
        obtain ⟨h15, h⟩ := gd_elim h
        refine a_run (md qX0_addRoad_ok) hz 6 [] (pc' := 91) (lv' := [some (.inr 3), some (.inl x1), some (.inl x2), some (.inl x3), some (.inl t5)]) (st' := []) (M' := (up M7 8 (M7 3 1).toNat x3)) (P := (0 ≤ (M7 3 1) ∧ (M7 3 1) < 20) ∧ True) rfl ⟨h15, trivial⟩ ?_
        refine bnd_elim (G := fun (M8 : Mm) => Aw z 91 [some (.inr 3), some (.inl x1), some (.inl x2), some (.inl x3), some (.inl t5)] [] M8) h (fun M8 h => ?_)
        obtain ⟨h14, h⟩ := gd_elim h
        refine a_run (md qX0_addRoad_ok) hz 6 [] (pc' := 102) (lv' := [some (.inr 3), some (.inl x1), some (.inl x2), some (.inl x3), some (.inl t5)]) (st' := []) (M' := (up M8 9 (M8 3 1).toNat t5)) (P := (0 ≤ (M8 3 1) ∧ (M8 3 1) < 20) ∧ True) rfl ⟨h14, trivial⟩ ?_
        refine bnd_elim (G := fun (M9 : Mm) => Aw z 102 [some (.inr 3), some (.inl x1), some (.inl x2), some (.inl x3), some (.inl t5)] [] M9) h (fun M9 h => ?_)
        obtain ⟨h13, h⟩ := gd_elim h
        refine a_run (md qX0_addRoad_ok) hz 6 [] (pc' := 112) (lv' := [some (.inr 3), some (.inl x1), some (.inl x2), some (.inl x3), some (.inl t5)]) (st' := []) (M' := (up M9 3 1 ((M9 3 1) + (1 : Int)))) (P := (inR ((M9 3 1) + (1 : Int))) ∧ True) rfl ⟨h13, trivial⟩ ?_
        refine bnd_elim (G := fun (M10 : Mm) => Aw z 112 [some (.inr 3), some (.inl x1), some (.inl x2), some (.inl x3), some (.inl t5)] [] M10) h (fun M10 h => ?_)
        refine a_run (md qX0_addRoad_ok) hz 4 [] (pc' := 117) (lv' := [some (.inr 3), some (.inl x1), some (.inl x2), some (.inl x3), some (.inl t5)]) (st' := [.inl t5, .inl x2, .inl x1, .inr 3]) (M' := M10) (P := True) rfl trivial ?_
        obtain ⟨M11, hr, h⟩ := cal_elim h
        refine a_fV (as := [.inl x1, .inl x2, .inl t5]) (a := 3) (st := []) (mX0_shortenBy z.1 hr) (md qX0_addRoad_ok) qX0_shortenBy_ok hz lkX0_54 rfl 3 0 (by decide +kernel) rfl rfl rfl rfl ?_
        show Aw z 120 [some (.inr 3), some (.inl x1), some (.inl x2), some (.inl x3), some (.inl t5)] [] M11
        refine ite_elim h (fun hc h => ?_) (fun hc h => ?_)
        · refine a_run (md qX0_addRoad_ok) hz 2 [0] (pc' := 124) (lv' := [some (.inr 3), some (.inl x1), some (.inl x2), some (.inl x3), some (.inl t5)]) (st' := []) (M' := M11) (P := (¬ ¬ x3 = 0) ∧ True) rfl ⟨fun h9 => h9 hc, trivial⟩ ?_
          refine a_run (md qX0_addRoad_ok) hz 4 [] (pc' := 129) (lv' := [some (.inr 3), some (.inl x1), some (.inl x2), some (.inl x3), some (.inl t5)]) (st' := [.inl t5, .inl x1, .inl x2, .inr 3]) (M' := M11) (P := True) rfl trivial ?_
          obtain ⟨M12, hr, h⟩ := cal_elim h
          refine a_fV (as := [.inl x2, .inl x1, .inl t5]) (a := 3) (st := []) (mX0_shortenBy z.1 hr) (md qX0_addRoad_ok) qX0_shortenBy_ok hz lkX0_54 rfl 3 0 (by decide +kernel) rfl rfl rfl rfl ?_
          show Aw z 132 [some (.inr 3), some (.inl x1), some (.inl x2), some (.inl x3), some (.inl t5)] [] M12
          exact a_rv (md qX0_addRoad_ok) hz hR rfl rfl h
        · refine a_run (md qX0_addRoad_ok) hz 2 [1] (pc' := 132) (lv' := [some (.inr 3), some (.inl x1), some (.inl x2), some (.inl x3), some (.inl t5)]) (st' := []) (M' := M11) (P := (¬ x3 = 0) ∧ True) rfl ⟨hc, trivial⟩ ?_
          exact a_rv (md qX0_addRoad_ok) hz hR rfl rfl h
def fX0_leastBetween (M : Mm) (x1 : Int) (x2 : Int) : Option (Int) := jn (some (-6 : Int)) (fun (K1 : Option (Int)) => cal (fX0_hasCrossing M x1) (fun (r2 : Int) => if r2 = 0 then K1 else cal (fX0_hasCrossing M x2) (fun (r3 : Int) => if r3 = 0 then K1 else cal (fX0_pair M x1 x2) (fun (r4 : Int) => gd ((0 ≤ r4 ∧ r4 < 144)) (some (M 10 r4.toNat))))))
set_option maxRecDepth 100000 in
theorem mX0_leastBetween (g : Gx) {M : Mm} {x1 : Int} {x2 : Int} {r : Int} (h : fX0_leastBetween M x1 x2 = some r) : Ct g qX0_leastBetween [.inr 3, .inl x1, .inl x2] M (fun r' M' => r' = some r ∧ M' = M) := by
  refine c_ofP h qX0_leastBetween_ok (Nat.le_of_ble_eq_true rfl) (fun z hz Q hR h => ?_)
  unfold fX0_leastBetween at h
  show Aw z 0 [some (.inr 3), some (.inl x1), some (.inl x2)] [] M
  refine jn_elim h (fun (K1 : Option (Int)) => OK (K1) (fun r2 => Q (some r2) M) → Aw z 29 [none, none, none] [] M) (fun h => ?_) (fun K1 hK1 h => ?_)
  · refine a_run (md qX0_leastBetween_ok) hz 1 [] (pc' := 31) (lv' := [none, none, none]) (st' := [.inl (-6 : Int)]) (M' := M) (P := True) rfl trivial ?_
    exact a_ri (md qX0_leastBetween_ok) hz hR rfl (Or.inl rfl) h
  · refine a_run (md qX0_leastBetween_ok) hz 2 [] (pc' := 2) (lv' := [some (.inr 3), some (.inl x1), some (.inl x2)]) (st' := [.inl x1, .inr 3]) (M' := M) (P := True) rfl trivial ?_
    obtain ⟨r2, hr, h⟩ := cal_elim h
    refine a_fV (as := [.inl x1]) (a := 3) (st := []) (mX0_hasCrossing z.1 hr) (md qX0_leastBetween_ok) qX0_hasCrossing_ok hz lkX0_40 rfl 1 0 (by decide +kernel) rfl rfl rfl rfl ?_
    show Aw z 5 [some (.inr 3), some (.inl x1), some (.inl x2)] [.inl r2] M
    refine ite_elim h (fun hc h => ?_) (fun hc h => ?_)
    · refine a_run (md qX0_leastBetween_ok) hz 1 [1] (pc' := 29) (lv' := [some (.inr 3), some (.inl x1), some (.inl x2)]) (st' := []) (M' := M) (P := (r2 = 0) ∧ True) rfl ⟨hc, trivial⟩ ?_
      refine a_mask [false, false, false] ?_
      exact hK1  h
    · refine a_run (md qX0_leastBetween_ok) hz 1 [0] (pc' := 8) (lv' := [some (.inr 3), some (.inl x1), some (.inl x2)]) (st' := []) (M' := M) (P := (¬ (r2 = 0)) ∧ True) rfl ⟨hc, trivial⟩ ?_
      refine a_run (md qX0_leastBetween_ok) hz 2 [] (pc' := 10) (lv' := [some (.inr 3), some (.inl x1), some (.inl x2)]) (st' := [.inl x2, .inr 3]) (M' := M) (P := True) rfl trivial ?_
      obtain ⟨r3, hr, h⟩ := cal_elim h
      refine a_fV (as := [.inl x2]) (a := 3) (st := []) (mX0_hasCrossing z.1 hr) (md qX0_leastBetween_ok) qX0_hasCrossing_ok hz lkX0_40 rfl 1 0 (by decide +kernel) rfl rfl rfl rfl ?_
      show Aw z 13 [some (.inr 3), some (.inl x1), some (.inl x2)] [.inl r3] M
      refine ite_elim h (fun hc h => ?_) (fun hc h => ?_)
      · refine a_run (md qX0_leastBetween_ok) hz 1 [1] (pc' := 29) (lv' := [some (.inr 3), some (.inl x1), some (.inl x2)]) (st' := []) (M' := M) (P := (r3 = 0) ∧ True) rfl ⟨hc, trivial⟩ ?_
        refine a_mask [false, false, false] ?_
        exact hK1  h
      · refine a_run (md qX0_leastBetween_ok) hz 1 [0] (pc' := 16) (lv' := [some (.inr 3), some (.inl x1), some (.inl x2)]) (st' := []) (M' := M) (P := (¬ (r3 = 0)) ∧ True) rfl ⟨hc, trivial⟩ ?_
        refine a_run (md qX0_leastBetween_ok) hz 4 [] (pc' := 22) (lv' := [some (.inr 3), some (.inl x1), some (.inl x2)]) (st' := [.inl x2, .inl x1, .inr 10]) (M' := M) (P := True) rfl trivial ?_
        obtain ⟨r4, hr, h⟩ := cal_elim h
        refine a_fS (as := [.inl x1, .inl x2]) (st := [.inr 10]) (mX0_pair z.1 hr) (md qX0_leastBetween_ok) qX0_pair_ok hz lkX0_44 rfl 2 1 (by decide +kernel) rfl rfl ?_
        show Aw z 25 [some (.inr 3), some (.inl x1), some (.inl x2)] [.inl r4, .inr 10] M
        obtain ⟨h5, h⟩ := gd_elim h
        refine a_run (md qX0_leastBetween_ok) hz 2 [] (pc' := 31) (lv' := [some (.inr 3), some (.inl x1), some (.inl x2)]) (st' := [.inl (M 10 r4.toNat)]) (M' := M) (P := (0 ≤ r4 ∧ r4 < 144) ∧ True) rfl ⟨h5, trivial⟩ ?_
        exact a_ri (md qX0_leastBetween_ok) hz hR rfl (Or.inl rfl) h
def fX0_spans (M : Mm) (x0 : Int) (x1 : Int) (x2 : Int) : Option (Int) := jn (some (0 : Int)) (fun (K1 : Option (Int)) => if x2 < ((imin x0 x1).tdiv (8 : Int)) then K1 else if ((imax x0 x1).tdiv (8 : Int)) < x2 then K1 else some (1 : Int))
set_option maxRecDepth 100000 in
theorem mX0_spans (g : Gx) {M : Mm} {x0 : Int} {x1 : Int} {x2 : Int} {r : Int} (h : fX0_spans M x0 x1 x2 = some r) : Ct g qX0_spans [.inl x0, .inl x1, .inl x2] M (fun r' M' => r' = some r ∧ M' = M) := by
  refine c_ofP h qX0_spans_ok (Nat.le_of_ble_eq_true rfl) (fun z hz Q hR h => ?_)
  unfold fX0_spans at h
  show Aw z 0 [some (.inl x0), some (.inl x1), some (.inl x2)] [] M
  refine jn_elim h (fun (K1 : Option (Int)) => OK (K1) (fun r2 => Q (some r2) M) → Aw z 28 [none, none, none] [] M) (fun h => ?_) (fun K1 hK1 h => ?_)
  · refine a_run (md qX0_spans_ok) hz 1 [] (pc' := 29) (lv' := [none, none, none]) (st' := [.inl (0 : Int)]) (M' := M) (P := True) rfl trivial ?_
    exact a_ri (md qX0_spans_ok) hz hR rfl (Or.inr ⟨rfl, by decide⟩) h
  · refine a_run (md qX0_spans_ok) hz 2 [] (pc' := 2) (lv' := [some (.inl x0), some (.inl x1), some (.inl x2)]) (st' := [.inl x1, .inl x0]) (M' := M) (P := True) rfl trivial ?_
    refine a_min (md qX0_spans_ok) hz lkX0_62 0 (by decide) rfl rfl ?_
    show Aw z 5 [some (.inl x0), some (.inl x1), some (.inl x2)] [.inl (imin x0 x1)] M
    refine ite_elim h (fun hc h => ?_) (fun hc h => ?_)
    · refine a_run (md qX0_spans_ok) hz 4 [1] (pc' := 28) (lv' := [some (.inl x0), some (.inl x1), some (.inl x2)]) (st' := []) (M' := M) (P := (¬ (8 : Int) = 0 ∧ ¬ (8 : Int) = -1) ∧ (x2 < ((imin x0 x1).tdiv (8 : Int))) ∧ True) rfl ⟨by decide, hc, trivial⟩ ?_
      refine a_mask [false, false, false] ?_
      exact hK1  h
    · refine a_run (md qX0_spans_ok) hz 4 [0] (pc' := 12) (lv' := [some (.inl x0), some (.inl x1), some (.inl x2)]) (st' := []) (M' := M) (P := (¬ (8 : Int) = 0 ∧ ¬ (8 : Int) = -1) ∧ (¬ (x2 < ((imin x0 x1).tdiv (8 : Int)))) ∧ True) rfl ⟨by decide, hc, trivial⟩ ?_
      refine a_run (md qX0_spans_ok) hz 3 [] (pc' := 15) (lv' := [some (.inl x0), some (.inl x1), some (.inl x2)]) (st' := [.inl x1, .inl x0, .inl x2]) (M' := M) (P := True) rfl trivial ?_
      refine a_max (md qX0_spans_ok) hz lkX0_65 1 (by decide) rfl rfl ?_
      show Aw z 18 [some (.inl x0), some (.inl x1), some (.inl x2)] [.inl (imax x0 x1), .inl x2] M
      refine ite_elim h (fun hc h => ?_) (fun hc h => ?_)
      · refine a_run (md qX0_spans_ok) hz 3 [1] (pc' := 28) (lv' := [some (.inl x0), some (.inl x1), some (.inl x2)]) (st' := []) (M' := M) (P := (¬ (8 : Int) = 0 ∧ ¬ (8 : Int) = -1) ∧ (((imax x0 x1).tdiv (8 : Int)) < x2) ∧ True) rfl ⟨by decide, hc, trivial⟩ ?_
        refine a_mask [false, false, false] ?_
        exact hK1  h
      · refine a_run (md qX0_spans_ok) hz 3 [0] (pc' := 24) (lv' := [some (.inl x0), some (.inl x1), some (.inl x2)]) (st' := []) (M' := M) (P := (¬ (8 : Int) = 0 ∧ ¬ (8 : Int) = -1) ∧ (¬ (((imax x0 x1).tdiv (8 : Int)) < x2)) ∧ True) rfl ⟨by decide, hc, trivial⟩ ?_
        refine a_run (md qX0_spans_ok) hz 2 [] (pc' := 29) (lv' := [some (.inl x0), some (.inl x1), some (.inl x2)]) (st' := [.inl (1 : Int)]) (M' := M) (P := True) rfl trivial ?_
        exact a_ri (md qX0_spans_ok) hz hR rfl (Or.inr ⟨rfl, by decide⟩) h
def fX0_roadsInCell_L5 (x1 : Int) (x2 : Int) (M : Mm) : Nat → Int → Int → Option (Int)
  | 0, _, _ => none
  | n + 1, v1, v2 => if (M 3 1) ≤ v2 then some v1 else jn (fun (v3 : Int) (v4 : Int) => gd ((inR (v4 + (1 : Int)))) (fX0_roadsInCell_L5 x1 x2 M n v3 (v4 + (1 : Int)))) (fun (K5 : Int → Int → Option (Int)) => gd ((0 ≤ v2 ∧ v2 < 20) ∧ (0 ≤ (M 6 v2.toNat) ∧ (M 6 v2.toNat) < 12) ∧ (0 ≤ v2 ∧ v2 < 20) ∧ (0 ≤ (M 7 v2.toNat) ∧ (M 7 v2.toNat) < 12)) (cal (fX0_spans M (M 4 (M 6 v2.toNat).toNat) (M 4 (M 7 v2.toNat).toNat) x1) (fun (r7 : Int) => if r7 = 0 then K5 v1 v2 else gd ((0 ≤ v2 ∧ v2 < 20) ∧ (0 ≤ (M 6 v2.toNat) ∧ (M 6 v2.toNat) < 12) ∧ (0 ≤ v2 ∧ v2 < 20) ∧ (0 ≤ (M 7 v2.toNat) ∧ (M 7 v2.toNat) < 12)) (cal (fX0_spans M (M 5 (M 6 v2.toNat).toNat) (M 5 (M 7 v2.toNat).toNat) x2) (fun (r8 : Int) => if r8 = 0 then K5 v1 v2 else gd ((inR (v1 + (1 : Int)))) (K5 (v1 + (1 : Int)) v2))))))
def fX0_roadsInCell (M : Mm) (x1 : Int) (x2 : Int) : Option (Int) := fX0_roadsInCell_L5 x1 x2 M 1000 (0 : Int) (0 : Int)
set_option maxRecDepth 100000 in
theorem mX0_roadsInCell_L5 {z : Zx} (hz : Cx qX0_roadsInCell z) {Q : Option Int → Mm → Prop} (hR : Rt Q z) {x1 : Int} {x2 : Int} {M : Mm} : ∀ (n : Nat) (v1 : Int) (v2 : Int), OK (fX0_roadsInCell_L5 x1 x2 M n v1 v2) (fun r2 => Q (some r2) M) → Aw z 5 [some (.inr 3), some (.inl x1), some (.inl x2), some (.inl v1), some (.inl v2)] [] M := by
  intro n
  induction n with
  | zero =>
    intro v1 v2 h
    exact (show False from h).elim
  | succ n ih =>
    intro v1 v2 h
    unfold fX0_roadsInCell_L5 at h
    refine ite_elim h (fun hc h => ?_) (fun hc h => ?_)
    · refine a_run (md qX0_roadsInCell_ok) hz 4 [1] (pc' := 85) (lv' := [some (.inr 3), some (.inl x1), some (.inl x2), some (.inl v1), some (.inl v2)]) (st' := []) (M' := M) (P := ((M 3 1) ≤ v2) ∧ True) rfl ⟨hc, trivial⟩ ?_
      refine a_run (md qX0_roadsInCell_ok) hz 1 [] (pc' := 86) (lv' := [some (.inr 3), some (.inl x1), some (.inl x2), some (.inl v1), some (.inl v2)]) (st' := [.inl v1]) (M' := M) (P := True) rfl trivial ?_
      exact a_ri (md qX0_roadsInCell_ok) hz hR rfl (Or.inl rfl) h
    · refine a_run (md qX0_roadsInCell_ok) hz 4 [0] (pc' := 14) (lv' := [some (.inr 3), some (.inl x1), some (.inl x2), some (.inl v1), some (.inl v2)]) (st' := []) (M' := M) (P := (¬ ((M 3 1) ≤ v2)) ∧ True) rfl ⟨hc, trivial⟩ ?_
      refine jn_elim h (fun (K5 : Int → Int → Option (Int)) => ∀ (v3 : Int), ∀ (v4 : Int), OK (K5 v3 v4) (fun r2 => Q (some r2) M) → Aw z 79 [some (.inr 3), some (.inl x1), some (.inl x2), some (.inl v3), some (.inl v4)] [] M) (fun v3 v4 h => ?_) (fun K5 hK5 h => ?_)
      · obtain ⟨h6, h⟩ := gd_elim h
        refine a_run (md qX0_roadsInCell_ok) hz 2 [] (pc' := 5) (lv' := [some (.inr 3), some (.inl x1), some (.inl x2), some (.inl v3), some (.inl (v4 + (1 : Int)))]) (st' := []) (M' := M) (P := (inR (v4 + (1 : Int))) ∧ True) rfl ⟨h6, trivial⟩ ?_
        refine a_mask [true, true, true, true, true] ?_
        exact ih v3 (v4 + (1 : Int)) h
      · obtain ⟨⟨h14, h15, h16, h17⟩, h⟩ := gd_elim h
        refine a_run (md qX0_roadsInCell_ok) hz 15 [] (pc' := 39) (lv' := [some (.inr 3), some (.inl x1), some (.inl x2), some (.inl v1), some (.inl v2)]) (st' := [.inl x1, .inl (M 4 (M 7 v2.toNat).toNat), .inl (M 4 (M 6 v2.toNat).toNat)]) (M' := M) (P := (0 ≤ v2 ∧ v2 < 20) ∧ (0 ≤ (M 6 v2.toNat) ∧ (M 6 v2.toNat) < 12) ∧ (0 ≤ v2 ∧ v2 < 20) ∧ (0 ≤ (M 7 v2.toNat) ∧ (M 7 v2.toNat) < 12) ∧ True) rfl ⟨h14, h15, h16, h17, trivial⟩ ?_
        obtain ⟨r7, hr, h⟩ := cal_elim h
        refine a_fS (as := [.inl (M 4 (M 6 v2.toNat).toNat), .inl (M 4 (M 7 v2.toNat).toNat), .inl x1]) (st := []) (mX0_spans z.1 hr) (md qX0_roadsInCell_ok) qX0_spans_ok hz lkX0_58 rfl 3 0 (by decide +kernel) rfl rfl ?_
        show Aw z 42 [some (.inr 3), some (.inl x1), some (.inl x2), some (.inl v1), some (.inl v2)] [.inl r7] M
        refine ite_elim h (fun hc h => ?_) (fun hc h => ?_)
        · refine a_run (md qX0_roadsInCell_ok) hz 1 [1] (pc' := 79) (lv' := [some (.inr 3), some (.inl x1), some (.inl x2), some (.inl v1), some (.inl v2)]) (st' := []) (M' := M) (P := (r7 = 0) ∧ True) rfl ⟨hc, trivial⟩ ?_
          refine a_mask [true, true, true, true, true] ?_
          exact hK5 v1 v2 h
        · refine a_run (md qX0_roadsInCell_ok) hz 1 [0] (pc' := 45) (lv' := [some (.inr 3), some (.inl x1), some (.inl x2), some (.inl v1), some (.inl v2)]) (st' := []) (M' := M) (P := (¬ (r7 = 0)) ∧ True) rfl ⟨hc, trivial⟩ ?_
          obtain ⟨⟨h10, h11, h12, h13⟩, h⟩ := gd_elim h
          refine a_run (md qX0_roadsInCell_ok) hz 15 [] (pc' := 70) (lv' := [some (.inr 3), some (.inl x1), some (.inl x2), some (.inl v1), some (.inl v2)]) (st' := [.inl x2, .inl (M 5 (M 7 v2.toNat).toNat), .inl (M 5 (M 6 v2.toNat).toNat)]) (M' := M) (P := (0 ≤ v2 ∧ v2 < 20) ∧ (0 ≤ (M 6 v2.toNat) ∧ (M 6 v2.toNat) < 12) ∧ (0 ≤ v2 ∧ v2 < 20) ∧ (0 ≤ (M 7 v2.toNat) ∧ (M 7 v2.toNat) < 12) ∧ True) rfl ⟨h10, h11, h12, h13, trivial⟩ ?_
          obtain ⟨r8, hr, h⟩ := cal_elim h
          refine a_fS (as := [.inl (M 5 (M 6 v2.toNat).toNat), .inl (M 5 (M 7 v2.toNat).toNat), .inl x2]) (st := []) (mX0_spans z.1 hr) (md qX0_roadsInCell_ok) qX0_spans_ok hz lkX0_58 rfl 3 0 (by decide +kernel) rfl rfl ?_
          show Aw z 73 [some (.inr 3), some (.inl x1), some (.inl x2), some (.inl v1), some (.inl v2)] [.inl r8] M
          refine ite_elim h (fun hc h => ?_) (fun hc h => ?_)
          · refine a_run (md qX0_roadsInCell_ok) hz 1 [1] (pc' := 79) (lv' := [some (.inr 3), some (.inl x1), some (.inl x2), some (.inl v1), some (.inl v2)]) (st' := []) (M' := M) (P := (r8 = 0) ∧ True) rfl ⟨hc, trivial⟩ ?_
            refine a_mask [true, true, true, true, true] ?_
            exact hK5 v1 v2 h
          · refine a_run (md qX0_roadsInCell_ok) hz 1 [0] (pc' := 76) (lv' := [some (.inr 3), some (.inl x1), some (.inl x2), some (.inl v1), some (.inl v2)]) (st' := []) (M' := M) (P := (¬ (r8 = 0)) ∧ True) rfl ⟨hc, trivial⟩ ?_
            obtain ⟨h9, h⟩ := gd_elim h
            refine a_run (md qX0_roadsInCell_ok) hz 1 [] (pc' := 79) (lv' := [some (.inr 3), some (.inl x1), some (.inl x2), some (.inl (v1 + (1 : Int))), some (.inl v2)]) (st' := []) (M' := M) (P := (inR (v1 + (1 : Int))) ∧ True) rfl ⟨h9, trivial⟩ ?_
            refine a_mask [true, true, true, true, true] ?_
            exact hK5 (v1 + (1 : Int)) v2 h
set_option maxRecDepth 100000 in
theorem mX0_roadsInCell (g : Gx) {M : Mm} {x1 : Int} {x2 : Int} {r : Int} (h : fX0_roadsInCell M x1 x2 = some r) : Ct g qX0_roadsInCell [.inr 3, .inl x1, .inl x2] M (fun r' M' => r' = some r ∧ M' = M) := by
  refine c_ofP h qX0_roadsInCell_ok (Nat.le_of_ble_eq_true rfl) (fun z hz Q hR h => ?_)
  unfold fX0_roadsInCell at h
  show Aw z 0 [some (.inr 3), some (.inl x1), some (.inl x2), none, none] [] M
  refine a_run (md qX0_roadsInCell_ok) hz 4 [] (pc' := 5) (lv' := [some (.inr 3), some (.inl x1), some (.inl x2), some (.inl (0 : Int)), some (.inl (0 : Int))]) (st' := []) (M' := M) (P := True) rfl trivial ?_
  refine a_mask [true, true, true, true, true] ?_
  refine mX0_roadsInCell_L5 hz hR  1000 (0 : Int) (0 : Int) h
def fX0_held (M : Mm) (x0 : Int) (x1 : Int) (x2 : Int) : Option (Int) := some (imax (imin x1 x2) (imin x0 (imax x1 x2)))
set_option maxRecDepth 100000 in
theorem mX0_held (g : Gx) {M : Mm} {x0 : Int} {x1 : Int} {x2 : Int} {r : Int} (h : fX0_held M x0 x1 x2 = some r) : Ct g qX0_held [.inl x0, .inl x1, .inl x2] M (fun r' M' => r' = some r ∧ M' = M) := by
  refine c_ofP h qX0_held_ok (Nat.le_of_ble_eq_true rfl) (fun z hz Q hR h => ?_)
  unfold fX0_held at h
  show Aw z 0 [some (.inl x0), some (.inl x1), some (.inl x2)] [] M
  refine a_run (md qX0_held_ok) hz 2 [] (pc' := 2) (lv' := [some (.inl x0), some (.inl x1), some (.inl x2)]) (st' := [.inl x2, .inl x1]) (M' := M) (P := True) rfl trivial ?_
  refine a_min (md qX0_held_ok) hz lkX0_62 0 (by decide) rfl rfl ?_
  show Aw z 5 [some (.inl x0), some (.inl x1), some (.inl x2)] [.inl (imin x1 x2)] M
  refine a_run (md qX0_held_ok) hz 3 [] (pc' := 8) (lv' := [some (.inl x0), some (.inl x1), some (.inl x2)]) (st' := [.inl x2, .inl x1, .inl x0, .inl (imin x1 x2)]) (M' := M) (P := True) rfl trivial ?_
  refine a_max (md qX0_held_ok) hz lkX0_65 2 (by decide) rfl rfl ?_
  show Aw z 11 [some (.inl x0), some (.inl x1), some (.inl x2)] [.inl (imax x1 x2), .inl x0, .inl (imin x1 x2)] M
  refine a_min (md qX0_held_ok) hz lkX0_62 1 (by decide) rfl rfl ?_
  show Aw z 14 [some (.inl x0), some (.inl x1), some (.inl x2)] [.inl (imin x0 (imax x1 x2)), .inl (imin x1 x2)] M
  refine a_max (md qX0_held_ok) hz lkX0_65 0 (by decide) rfl rfl ?_
  show Aw z 17 [some (.inl x0), some (.inl x1), some (.inl x2)] [.inl (imax (imin x1 x2) (imin x0 (imax x1 x2)))] M
  exact a_ri (md qX0_held_ok) hz hR rfl (Or.inl rfl) h
def fX0_nearestX (M : Mm) (x1 : Int) (x2 : Int) : Option (Int) := gd ((0 ≤ x1 ∧ x1 < 20) ∧ (0 ≤ (M 6 x1.toNat) ∧ (M 6 x1.toNat) < 12) ∧ (0 ≤ x1 ∧ x1 < 20) ∧ (0 ≤ (M 7 x1.toNat) ∧ (M 7 x1.toNat) < 12)) (cal (fX0_held M x2 (M 4 (M 6 x1.toNat).toNat) (M 4 (M 7 x1.toNat).toNat)) (fun (r1 : Int) => some r1))
set_option maxRecDepth 100000 in
theorem mX0_nearestX (g : Gx) {M : Mm} {x1 : Int} {x2 : Int} {r : Int} (h : fX0_nearestX M x1 x2 = some r) : Ct g qX0_nearestX [.inr 3, .inl x1, .inl x2] M (fun r' M' => r' = some r ∧ M' = M) := by
  refine c_ofP h qX0_nearestX_ok (Nat.le_of_ble_eq_true rfl) (fun z hz Q hR h => ?_)
  unfold fX0_nearestX at h
  show Aw z 0 [some (.inr 3), some (.inl x1), some (.inl x2)] [] M
  obtain ⟨⟨h2, h3, h4, h5⟩, h⟩ := gd_elim h
  refine a_run (md qX0_nearestX_ok) hz 15 [] (pc' := 23) (lv' := [some (.inr 3), some (.inl x1), some (.inl x2)]) (st' := [.inl (M 4 (M 7 x1.toNat).toNat), .inl (M 4 (M 6 x1.toNat).toNat), .inl x2]) (M' := M) (P := (0 ≤ x1 ∧ x1 < 20) ∧ (0 ≤ (M 6 x1.toNat) ∧ (M 6 x1.toNat) < 12) ∧ (0 ≤ x1 ∧ x1 < 20) ∧ (0 ≤ (M 7 x1.toNat) ∧ (M 7 x1.toNat) < 12) ∧ True) rfl ⟨h2, h3, h4, h5, trivial⟩ ?_
  obtain ⟨r1, hr, h⟩ := cal_elim h
  refine a_fS (as := [.inl x2, .inl (M 4 (M 6 x1.toNat).toNat), .inl (M 4 (M 7 x1.toNat).toNat)]) (st := []) (mX0_held z.1 hr) (md qX0_nearestX_ok) qX0_held_ok hz lkX0_77 rfl 3 0 (by decide +kernel) rfl rfl ?_
  show Aw z 26 [some (.inr 3), some (.inl x1), some (.inl x2)] [.inl r1] M
  exact a_ri (md qX0_nearestX_ok) hz hR rfl (Or.inl rfl) h
def fX0_nearestY (M : Mm) (x1 : Int) (x2 : Int) : Option (Int) := gd ((0 ≤ x1 ∧ x1 < 20) ∧ (0 ≤ (M 6 x1.toNat) ∧ (M 6 x1.toNat) < 12) ∧ (0 ≤ x1 ∧ x1 < 20) ∧ (0 ≤ (M 7 x1.toNat) ∧ (M 7 x1.toNat) < 12)) (cal (fX0_held M x2 (M 5 (M 6 x1.toNat).toNat) (M 5 (M 7 x1.toNat).toNat)) (fun (r1 : Int) => some r1))
set_option maxRecDepth 100000 in
theorem mX0_nearestY (g : Gx) {M : Mm} {x1 : Int} {x2 : Int} {r : Int} (h : fX0_nearestY M x1 x2 = some r) : Ct g qX0_nearestY [.inr 3, .inl x1, .inl x2] M (fun r' M' => r' = some r ∧ M' = M) := by
  refine c_ofP h qX0_nearestY_ok (Nat.le_of_ble_eq_true rfl) (fun z hz Q hR h => ?_)
  unfold fX0_nearestY at h
  show Aw z 0 [some (.inr 3), some (.inl x1), some (.inl x2)] [] M
  obtain ⟨⟨h2, h3, h4, h5⟩, h⟩ := gd_elim h
  refine a_run (md qX0_nearestY_ok) hz 15 [] (pc' := 23) (lv' := [some (.inr 3), some (.inl x1), some (.inl x2)]) (st' := [.inl (M 5 (M 7 x1.toNat).toNat), .inl (M 5 (M 6 x1.toNat).toNat), .inl x2]) (M' := M) (P := (0 ≤ x1 ∧ x1 < 20) ∧ (0 ≤ (M 6 x1.toNat) ∧ (M 6 x1.toNat) < 12) ∧ (0 ≤ x1 ∧ x1 < 20) ∧ (0 ≤ (M 7 x1.toNat) ∧ (M 7 x1.toNat) < 12) ∧ True) rfl ⟨h2, h3, h4, h5, trivial⟩ ?_
  obtain ⟨r1, hr, h⟩ := cal_elim h
  refine a_fS (as := [.inl x2, .inl (M 5 (M 6 x1.toNat).toNat), .inl (M 5 (M 7 x1.toNat).toNat)]) (st := []) (mX0_held z.1 hr) (md qX0_nearestY_ok) qX0_held_ok hz lkX0_77 rfl 3 0 (by decide +kernel) rfl rfl ?_
  show Aw z 26 [some (.inr 3), some (.inl x1), some (.inl x2)] [.inl r1] M
  exact a_ri (md qX0_nearestY_ok) hz hR rfl (Or.inl rfl) h
def fX0_apartFromRoad (M : Mm) (x1 : Int) (x2 : Int) (x3 : Int) : Option (Int) := cal (fX0_hasRoad M x1) (fun (r1 : Int) => if r1 = 0 then some (-6 : Int) else cal (fX0_nearestX M x1 x2) (fun (r2 : Int) => gd ((inR (r2 - x2)) ∧ (inR (-(r2 - x2)))) (cal (fX0_nearestY M x1 x3) (fun (r4 : Int) => gd ((inR (r4 - x3)) ∧ (inR (-(r4 - x3)))) (gd ((inR ((iabs (r2 - x2)) + (iabs (r4 - x3))))) (some ((iabs (r2 - x2)) + (iabs (r4 - x3)))))))))
set_option maxRecDepth 100000 in
theorem mX0_apartFromRoad (g : Gx) {M : Mm} {x1 : Int} {x2 : Int} {x3 : Int} {r : Int} (h : fX0_apartFromRoad M x1 x2 x3 = some r) : Ct g qX0_apartFromRoad [.inr 3, .inl x1, .inl x2, .inl x3] M (fun r' M' => r' = some r ∧ M' = M) := by
  refine c_ofP h qX0_apartFromRoad_ok (Nat.le_of_ble_eq_true rfl) (fun z hz Q hR h => ?_)
  unfold fX0_apartFromRoad at h
  show Aw z 0 [some (.inr 3), some (.inl x1), some (.inl x2), some (.inl x3)] [] M
  refine a_run (md qX0_apartFromRoad_ok) hz 2 [] (pc' := 2) (lv' := [some (.inr 3), some (.inl x1), some (.inl x2), some (.inl x3)]) (st' := [.inl x1, .inr 3]) (M' := M) (P := True) rfl trivial ?_
  obtain ⟨r1, hr, h⟩ := cal_elim h
  refine a_fV (as := [.inl x1]) (a := 3) (st := []) (mX0_hasRoad z.1 hr) (md qX0_apartFromRoad_ok) qX0_hasRoad_ok hz lkX0_68 rfl 1 0 (by decide +kernel) rfl rfl rfl rfl ?_
  show Aw z 5 [some (.inr 3), some (.inl x1), some (.inl x2), some (.inl x3)] [.inl r1] M
  refine ite_elim h (fun hc h => ?_) (fun hc h => ?_)
  · refine a_run (md qX0_apartFromRoad_ok) hz 1 [0] (pc' := 8) (lv' := [some (.inr 3), some (.inl x1), some (.inl x2), some (.inl x3)]) (st' := []) (M' := M) (P := (¬ ¬ r1 = 0) ∧ True) rfl ⟨fun h9 => h9 hc, trivial⟩ ?_
    refine a_run (md qX0_apartFromRoad_ok) hz 1 [] (pc' := 10) (lv' := [some (.inr 3), some (.inl x1), some (.inl x2), some (.inl x3)]) (st' := [.inl (-6 : Int)]) (M' := M) (P := True) rfl trivial ?_
    exact a_ri (md qX0_apartFromRoad_ok) hz hR rfl (Or.inl rfl) h
  · refine a_run (md qX0_apartFromRoad_ok) hz 1 [1] (pc' := 11) (lv' := [some (.inr 3), some (.inl x1), some (.inl x2), some (.inl x3)]) (st' := []) (M' := M) (P := (¬ r1 = 0) ∧ True) rfl ⟨hc, trivial⟩ ?_
    refine a_run (md qX0_apartFromRoad_ok) hz 3 [] (pc' := 14) (lv' := [some (.inr 3), some (.inl x1), some (.inl x2), some (.inl x3)]) (st' := [.inl x2, .inl x1, .inr 3]) (M' := M) (P := True) rfl trivial ?_
    obtain ⟨r2, hr, h⟩ := cal_elim h
    refine a_fV (as := [.inl x1, .inl x2]) (a := 3) (st := []) (mX0_nearestX z.1 hr) (md qX0_apartFromRoad_ok) qX0_nearestX_ok hz lkX0_71 rfl 2 0 (by decide +kernel) rfl rfl rfl rfl ?_
    show Aw z 17 [some (.inr 3), some (.inl x1), some (.inl x2), some (.inl x3)] [.inl r2] M
    obtain ⟨⟨h8, h3⟩, h⟩ := gd_elim h
    refine a_run (md qX0_apartFromRoad_ok) hz 2 [] (pc' := 19) (lv' := [some (.inr 3), some (.inl x1), some (.inl x2), some (.inl x3)]) (st' := [.inl (r2 - x2)]) (M' := M) (P := (inR (r2 - x2)) ∧ True) rfl ⟨h8, trivial⟩ ?_
    refine a_abs (md qX0_apartFromRoad_ok) hz h3 lkX0_48 0 (by decide) rfl rfl ?_
    show Aw z 22 [some (.inr 3), some (.inl x1), some (.inl x2), some (.inl x3)] [.inl (iabs (r2 - x2))] M
    refine a_run (md qX0_apartFromRoad_ok) hz 3 [] (pc' := 25) (lv' := [some (.inr 3), some (.inl x1), some (.inl x2), some (.inl x3)]) (st' := [.inl x3, .inl x1, .inr 3, .inl (iabs (r2 - x2))]) (M' := M) (P := True) rfl trivial ?_
    obtain ⟨r4, hr, h⟩ := cal_elim h
    refine a_fV (as := [.inl x1, .inl x3]) (a := 3) (st := [.inl (iabs (r2 - x2))]) (mX0_nearestY z.1 hr) (md qX0_apartFromRoad_ok) qX0_nearestY_ok hz lkX0_74 rfl 2 1 (by decide +kernel) rfl rfl rfl rfl ?_
    show Aw z 28 [some (.inr 3), some (.inl x1), some (.inl x2), some (.inl x3)] [.inl r4, .inl (iabs (r2 - x2))] M
    obtain ⟨⟨h7, h5⟩, h⟩ := gd_elim h
    refine a_run (md qX0_apartFromRoad_ok) hz 2 [] (pc' := 30) (lv' := [some (.inr 3), some (.inl x1), some (.inl x2), some (.inl x3)]) (st' := [.inl (r4 - x3), .inl (iabs (r2 - x2))]) (M' := M) (P := (inR (r4 - x3)) ∧ True) rfl ⟨h7, trivial⟩ ?_
    refine a_abs (md qX0_apartFromRoad_ok) hz h5 lkX0_48 1 (by decide) rfl rfl ?_
    show Aw z 33 [some (.inr 3), some (.inl x1), some (.inl x2), some (.inl x3)] [.inl (iabs (r4 - x3)), .inl (iabs (r2 - x2))] M
    obtain ⟨h6, h⟩ := gd_elim h
    refine a_run (md qX0_apartFromRoad_ok) hz 1 [] (pc' := 34) (lv' := [some (.inr 3), some (.inl x1), some (.inl x2), some (.inl x3)]) (st' := [.inl ((iabs (r2 - x2)) + (iabs (r4 - x3)))]) (M' := M) (P := (inR ((iabs (r2 - x2)) + (iabs (r4 - x3)))) ∧ True) rfl ⟨h6, trivial⟩ ?_
    exact a_ri (md qX0_apartFromRoad_ok) hz hR rfl (Or.inl rfl) h
def fX0_nearestSpot (M : Mm) (x1 : Int) (x2 : Int) (x3 : Int) : Option (Int) := cal (fX0_hasRoad M x1) (fun (r1 : Int) => if r1 = 0 then some (-6 : Int) else cal (fX0_nearestX M x1 x2) (fun (r2 : Int) => gd ((0 ≤ x1 ∧ x1 < 20) ∧ (0 ≤ (M 6 x1.toNat) ∧ (M 6 x1.toNat) < 12) ∧ (inR (r2 - (M 4 (M 6 x1.toNat).toNat))) ∧ (inR (-(r2 - (M 4 (M 6 x1.toNat).toNat))))) (bnd (iabs (r2 - (M 4 (M 6 x1.toNat).toNat))) (fun (t4 : Int) => cal (fX0_nearestY M x1 x3) (fun (r5 : Int) => gd ((0 ≤ x1 ∧ x1 < 20) ∧ (0 ≤ (M 6 x1.toNat) ∧ (M 6 x1.toNat) < 12) ∧ (inR (r5 - (M 5 (M 6 x1.toNat).toNat))) ∧ (inR (-(r5 - (M 5 (M 6 x1.toNat).toNat))))) (bnd (iabs (r5 - (M 5 (M 6 x1.toNat).toNat))) (fun (t7 : Int) => gd ((inR ((100 : Int) * x1)) ∧ (inR (((100 : Int) * x1) + t4)) ∧ (inR ((((100 : Int) * x1) + t4) + t7))) (some ((((100 : Int) * x1) + t4) + t7)))))))))
set_option maxRecDepth 100000 in
theorem mX0_nearestSpot (g : Gx) {M : Mm} {x1 : Int} {x2 : Int} {x3 : Int} {r : Int} (h : fX0_nearestSpot M x1 x2 x3 = some r) : Ct g qX0_nearestSpot [.inr 3, .inl x1, .inl x2, .inl x3] M (fun r' M' => r' = some r ∧ M' = M) := by
  refine c_ofP h qX0_nearestSpot_ok (Nat.le_of_ble_eq_true rfl) (fun z hz Q hR h => ?_)
  unfold fX0_nearestSpot at h
  show Aw z 0 [some (.inr 3), some (.inl x1), some (.inl x2), some (.inl x3), none, none] [] M
  refine a_run (md qX0_nearestSpot_ok) hz 2 [] (pc' := 2) (lv' := [some (.inr 3), some (.inl x1), some (.inl x2), some (.inl x3), none, none]) (st' := [.inl x1, .inr 3]) (M' := M) (P := True) rfl trivial ?_
  obtain ⟨r1, hr, h⟩ := cal_elim h
  refine a_fV (as := [.inl x1]) (a := 3) (st := []) (mX0_hasRoad z.1 hr) (md qX0_nearestSpot_ok) qX0_hasRoad_ok hz lkX0_68 rfl 1 0 (by decide +kernel) rfl rfl rfl rfl ?_
  show Aw z 5 [some (.inr 3), some (.inl x1), some (.inl x2), some (.inl x3), none, none] [.inl r1] M
  refine ite_elim h (fun hc h => ?_) (fun hc h => ?_)
  · refine a_run (md qX0_nearestSpot_ok) hz 1 [0] (pc' := 8) (lv' := [some (.inr 3), some (.inl x1), some (.inl x2), some (.inl x3), none, none]) (st' := []) (M' := M) (P := (¬ ¬ r1 = 0) ∧ True) rfl ⟨fun h9 => h9 hc, trivial⟩ ?_
    refine a_run (md qX0_nearestSpot_ok) hz 1 [] (pc' := 10) (lv' := [some (.inr 3), some (.inl x1), some (.inl x2), some (.inl x3), none, none]) (st' := [.inl (-6 : Int)]) (M' := M) (P := True) rfl trivial ?_
    exact a_ri (md qX0_nearestSpot_ok) hz hR rfl (Or.inl rfl) h
  · refine a_run (md qX0_nearestSpot_ok) hz 1 [1] (pc' := 11) (lv' := [some (.inr 3), some (.inl x1), some (.inl x2), some (.inl x3), none, none]) (st' := []) (M' := M) (P := (¬ r1 = 0) ∧ True) rfl ⟨hc, trivial⟩ ?_
    refine a_run (md qX0_nearestSpot_ok) hz 3 [] (pc' := 14) (lv' := [some (.inr 3), some (.inl x1), some (.inl x2), some (.inl x3), none, none]) (st' := [.inl x2, .inl x1, .inr 3]) (M' := M) (P := True) rfl trivial ?_
    obtain ⟨r2, hr, h⟩ := cal_elim h
    refine a_fV (as := [.inl x1, .inl x2]) (a := 3) (st := []) (mX0_nearestX z.1 hr) (md qX0_nearestSpot_ok) qX0_nearestX_ok hz lkX0_71 rfl 2 0 (by decide +kernel) rfl rfl rfl rfl ?_
    show Aw z 17 [some (.inr 3), some (.inl x1), some (.inl x2), some (.inl x3), none, none] [.inl r2] M
    obtain ⟨⟨h14, h15, h16, h3⟩, h⟩ := gd_elim h
    refine a_run (md qX0_nearestSpot_ok) hz 8 [] (pc' := 29) (lv' := [some (.inr 3), some (.inl x1), some (.inl x2), some (.inl x3), none, none]) (st' := [.inl (r2 - (M 4 (M 6 x1.toNat).toNat))]) (M' := M) (P := (0 ≤ x1 ∧ x1 < 20) ∧ (0 ≤ (M 6 x1.toNat) ∧ (M 6 x1.toNat) < 12) ∧ (inR (r2 - (M 4 (M 6 x1.toNat).toNat))) ∧ True) rfl ⟨h14, h15, h16, trivial⟩ ?_
    refine a_abs (md qX0_nearestSpot_ok) hz h3 lkX0_48 0 (by decide) rfl rfl ?_
    show Aw z 32 [some (.inr 3), some (.inl x1), some (.inl x2), some (.inl x3), none, none] [.inl (iabs (r2 - (M 4 (M 6 x1.toNat).toNat)))] M
    refine a_run (md qX0_nearestSpot_ok) hz 1 [] (pc' := 34) (lv' := [some (.inr 3), some (.inl x1), some (.inl x2), some (.inl x3), some (.inl (iabs (r2 - (M 4 (M 6 x1.toNat).toNat)))), none]) (st' := []) (M' := M) (P := True) rfl trivial ?_
    refine bnd_elim (G := fun (t4 : Int) => Aw z 34 [some (.inr 3), some (.inl x1), some (.inl x2), some (.inl x3), some (.inl t4), none] [] M) h (fun t4 h => ?_)
    refine a_run (md qX0_nearestSpot_ok) hz 3 [] (pc' := 37) (lv' := [some (.inr 3), some (.inl x1), some (.inl x2), some (.inl x3), some (.inl t4), none]) (st' := [.inl x3, .inl x1, .inr 3]) (M' := M) (P := True) rfl trivial ?_
    obtain ⟨r5, hr, h⟩ := cal_elim h
    refine a_fV (as := [.inl x1, .inl x3]) (a := 3) (st := []) (mX0_nearestY z.1 hr) (md qX0_nearestSpot_ok) qX0_nearestY_ok hz lkX0_74 rfl 2 0 (by decide +kernel) rfl rfl rfl rfl ?_
    show Aw z 40 [some (.inr 3), some (.inl x1), some (.inl x2), some (.inl x3), some (.inl t4), none] [.inl r5] M
    obtain ⟨⟨h11, h12, h13, h6⟩, h⟩ := gd_elim h
    refine a_run (md qX0_nearestSpot_ok) hz 8 [] (pc' := 52) (lv' := [some (.inr 3), some (.inl x1), some (.inl x2), some (.inl x3), some (.inl t4), none]) (st' := [.inl (r5 - (M 5 (M 6 x1.toNat).toNat))]) (M' := M) (P := (0 ≤ x1 ∧ x1 < 20) ∧ (0 ≤ (M 6 x1.toNat) ∧ (M 6 x1.toNat) < 12) ∧ (inR (r5 - (M 5 (M 6 x1.toNat).toNat))) ∧ True) rfl ⟨h11, h12, h13, trivial⟩ ?_
    refine a_abs (md qX0_nearestSpot_ok) hz h6 lkX0_48 0 (by decide) rfl rfl ?_
    show Aw z 55 [some (.inr 3), some (.inl x1), some (.inl x2), some (.inl x3), some (.inl t4), none] [.inl (iabs (r5 - (M 5 (M 6 x1.toNat).toNat)))] M
    refine a_run (md qX0_nearestSpot_ok) hz 1 [] (pc' := 57) (lv' := [some (.inr 3), some (.inl x1), some (.inl x2), some (.inl x3), some (.inl t4), some (.inl (iabs (r5 - (M 5 (M 6 x1.toNat).toNat))))]) (st' := []) (M' := M) (P := True) rfl trivial ?_
    refine bnd_elim (G := fun (t7 : Int) => Aw z 57 [some (.inr 3), some (.inl x1), some (.inl x2), some (.inl x3), some (.inl t4), some (.inl t7)] [] M) h (fun t7 h => ?_)
    obtain ⟨⟨h8, h9, h10⟩, h⟩ := gd_elim h
    refine a_run (md qX0_nearestSpot_ok) hz 7 [] (pc' := 67) (lv' := [some (.inr 3), some (.inl x1), some (.inl x2), some (.inl x3), some (.inl t4), some (.inl t7)]) (st' := [.inl ((((100 : Int) * x1) + t4) + t7)]) (M' := M) (P := (inR ((100 : Int) * x1)) ∧ (inR (((100 : Int) * x1) + t4)) ∧ (inR ((((100 : Int) * x1) + t4) + t7)) ∧ True) rfl ⟨h8, h9, h10, trivial⟩ ?_
    exact a_ri (md qX0_nearestSpot_ok) hz hR rfl (Or.inl rfl) h
def fX0_lengthAlong (M : Mm) (x1 : Int) (x2 : Int) : Option (Int) := bnd (x1.tdiv (100 : Int)) (fun (t1 : Int) => if t1 = (x2.tdiv (100 : Int)) then jn (gd ((inR (x2 - x1)) ∧ (inR (-(x2 - x1)))) (some (iabs (x2 - x1)))) (fun (K2 : Option (Int)) => gd ((0 ≤ t1 ∧ t1 < 20)) (if (M 8 t1.toNat) = 0 then K2 else if x1 ≤ x2 then K2 else some (-6 : Int))) else some (-6 : Int))
set_option maxRecDepth 100000 in
theorem mX0_lengthAlong (g : Gx) {M : Mm} {x1 : Int} {x2 : Int} {r : Int} (h : fX0_lengthAlong M x1 x2 = some r) : Ct g qX0_lengthAlong [.inr 3, .inl x1, .inl x2] M (fun r' M' => r' = some r ∧ M' = M) := by
  refine c_ofP h qX0_lengthAlong_ok (Nat.le_of_ble_eq_true rfl) (fun z hz Q hR h => ?_)
  unfold fX0_lengthAlong at h
  show Aw z 0 [some (.inr 3), some (.inl x1), some (.inl x2), none] [] M
  refine a_run (md qX0_lengthAlong_ok) hz 4 [] (pc' := 5) (lv' := [some (.inr 3), some (.inl x1), some (.inl x2), some (.inl (x1.tdiv (100 : Int)))]) (st' := []) (M' := M) (P := (¬ (100 : Int) = 0 ∧ ¬ (100 : Int) = -1) ∧ True) rfl ⟨by decide, trivial⟩ ?_
  refine bnd_elim (G := fun (t1 : Int) => Aw z 5 [some (.inr 3), some (.inl x1), some (.inl x2), some (.inl t1)] [] M) h (fun t1 h => ?_)
  refine ite_elim h (fun hc h => ?_) (fun hc h => ?_)
  · refine a_run (md qX0_lengthAlong_ok) hz 5 [0] (pc' := 13) (lv' := [some (.inr 3), some (.inl x1), some (.inl x2), some (.inl t1)]) (st' := []) (M' := M) (P := (¬ (100 : Int) = 0 ∧ ¬ (100 : Int) = -1) ∧ (¬ ¬ t1 = (x2.tdiv (100 : Int))) ∧ True) rfl ⟨by decide, fun h9 => h9 hc, trivial⟩ ?_
    refine jn_elim h (fun (K2 : Option (Int)) => OK (K2) (fun r2 => Q (some r2) M) → Aw z 30 [none, some (.inl x1), some (.inl x2), none] [] M) (fun h => ?_) (fun K2 hK2 h => ?_)
    · obtain ⟨⟨h4, h3⟩, h⟩ := gd_elim h
      refine a_run (md qX0_lengthAlong_ok) hz 3 [] (pc' := 33) (lv' := [none, some (.inl x1), some (.inl x2), none]) (st' := [.inl (x2 - x1)]) (M' := M) (P := (inR (x2 - x1)) ∧ True) rfl ⟨h4, trivial⟩ ?_
      refine a_abs (md qX0_lengthAlong_ok) hz h3 lkX0_48 0 (by decide) rfl rfl ?_
      show Aw z 36 [none, some (.inl x1), some (.inl x2), none] [.inl (iabs (x2 - x1))] M
      exact a_ri (md qX0_lengthAlong_ok) hz hR rfl (Or.inl rfl) h
    · obtain ⟨h5, h⟩ := gd_elim h
      refine ite_elim h (fun hc h => ?_) (fun hc h => ?_)
      · refine a_run (md qX0_lengthAlong_ok) hz 5 [1] (pc' := 30) (lv' := [some (.inr 3), some (.inl x1), some (.inl x2), some (.inl t1)]) (st' := []) (M' := M) (P := (0 ≤ t1 ∧ t1 < 20) ∧ ((M 8 t1.toNat) = 0) ∧ True) rfl ⟨h5, hc, trivial⟩ ?_
        refine a_mask [false, true, true, false] ?_
        exact hK2  h
      · refine a_run (md qX0_lengthAlong_ok) hz 5 [0] (pc' := 22) (lv' := [some (.inr 3), some (.inl x1), some (.inl x2), some (.inl t1)]) (st' := []) (M' := M) (P := (0 ≤ t1 ∧ t1 < 20) ∧ (¬ ((M 8 t1.toNat) = 0)) ∧ True) rfl ⟨h5, hc, trivial⟩ ?_
        refine ite_elim h (fun hc h => ?_) (fun hc h => ?_)
        · refine a_run (md qX0_lengthAlong_ok) hz 3 [1] (pc' := 30) (lv' := [some (.inr 3), some (.inl x1), some (.inl x2), some (.inl t1)]) (st' := []) (M' := M) (P := (x1 ≤ x2) ∧ True) rfl ⟨hc, trivial⟩ ?_
          refine a_mask [false, true, true, false] ?_
          exact hK2  h
        · refine a_run (md qX0_lengthAlong_ok) hz 3 [0] (pc' := 27) (lv' := [some (.inr 3), some (.inl x1), some (.inl x2), some (.inl t1)]) (st' := []) (M' := M) (P := (¬ (x1 ≤ x2)) ∧ True) rfl ⟨hc, trivial⟩ ?_
          refine a_run (md qX0_lengthAlong_ok) hz 1 [] (pc' := 29) (lv' := [some (.inr 3), some (.inl x1), some (.inl x2), some (.inl t1)]) (st' := [.inl (-6 : Int)]) (M' := M) (P := True) rfl trivial ?_
          exact a_ri (md qX0_lengthAlong_ok) hz hR rfl (Or.inl rfl) h
  · refine a_run (md qX0_lengthAlong_ok) hz 5 [1] (pc' := 27) (lv' := [some (.inr 3), some (.inl x1), some (.inl x2), some (.inl t1)]) (st' := []) (M' := M) (P := (¬ (100 : Int) = 0 ∧ ¬ (100 : Int) = -1) ∧ (¬ t1 = (x2.tdiv (100 : Int))) ∧ True) rfl ⟨by decide, hc, trivial⟩ ?_
    refine a_run (md qX0_lengthAlong_ok) hz 1 [] (pc' := 29) (lv' := [some (.inr 3), some (.inl x1), some (.inl x2), some (.inl t1)]) (st' := [.inl (-6 : Int)]) (M' := M) (P := True) rfl trivial ?_
    exact a_ri (md qX0_lengthAlong_ok) hz hR rfl (Or.inl rfl) h
def fX0_leavesByLast (M : Mm) (x0 : Int) : Option (Int) := if x0 < (3 : Int) then some (0 : Int) else some (1 : Int)
set_option maxRecDepth 100000 in
theorem mX0_leavesByLast (g : Gx) {M : Mm} {x0 : Int} {r : Int} (h : fX0_leavesByLast M x0 = some r) : Ct g qX0_leavesByLast [.inl x0] M (fun r' M' => r' = some r ∧ M' = M) := by
  refine c_ofP h qX0_leavesByLast_ok (Nat.le_of_ble_eq_true rfl) (fun z hz Q hR h => ?_)
  unfold fX0_leavesByLast at h
  show Aw z 0 [some (.inl x0)] [] M
  refine ite_elim h (fun hc h => ?_) (fun hc h => ?_)
  · refine a_run (md qX0_leavesByLast_ok) hz 3 [1] (pc' := 9) (lv' := [some (.inl x0)]) (st' := []) (M' := M) (P := (x0 < (3 : Int)) ∧ True) rfl ⟨hc, trivial⟩ ?_
    refine a_run (md qX0_leavesByLast_ok) hz 1 [] (pc' := 10) (lv' := [some (.inl x0)]) (st' := [.inl (0 : Int)]) (M' := M) (P := True) rfl trivial ?_
    exact a_ri (md qX0_leavesByLast_ok) hz hR rfl (Or.inr ⟨rfl, by decide⟩) h
  · refine a_run (md qX0_leavesByLast_ok) hz 3 [0] (pc' := 5) (lv' := [some (.inl x0)]) (st' := []) (M' := M) (P := (¬ (x0 < (3 : Int))) ∧ True) rfl ⟨hc, trivial⟩ ?_
    refine a_run (md qX0_leavesByLast_ok) hz 2 [] (pc' := 10) (lv' := [some (.inl x0)]) (st' := [.inl (1 : Int)]) (M' := M) (P := True) rfl trivial ?_
    exact a_ri (md qX0_leavesByLast_ok) hz hR rfl (Or.inr ⟨rfl, by decide⟩) h
def fX0_leaveLength (M : Mm) (x1 : Int) (x2 : Int) : Option (Int) := bnd (x1.tdiv (100 : Int)) (fun (t1 : Int) => bnd (x1.tmod (100 : Int)) (fun (t2 : Int) => if x2 = 0 then gd ((0 ≤ t1 ∧ t1 < 20)) (if (M 8 t1.toNat) = 0 then some t2 else some (-6 : Int)) else gd ((0 ≤ t1 ∧ t1 < 20) ∧ (inR ((M 9 t1.toNat) - t2))) (some ((M 9 t1.toNat) - t2))))
set_option maxRecDepth 100000 in
theorem mX0_leaveLength (g : Gx) {M : Mm} {x1 : Int} {x2 : Int} {r : Int} (h : fX0_leaveLength M x1 x2 = some r) : Ct g qX0_leaveLength [.inr 3, .inl x1, .inl x2] M (fun r' M' => r' = some r ∧ M' = M) := by
  refine c_ofP h qX0_leaveLength_ok (Nat.le_of_ble_eq_true rfl) (fun z hz Q hR h => ?_)
  unfold fX0_leaveLength at h
  show Aw z 0 [some (.inr 3), some (.inl x1), some (.inl x2), none, none] [] M
  refine a_run (md qX0_leaveLength_ok) hz 4 [] (pc' := 5) (lv' := [some (.inr 3), some (.inl x1), some (.inl x2), some (.inl (x1.tdiv (100 : Int))), none]) (st' := []) (M' := M) (P := (¬ (100 : Int) = 0 ∧ ¬ (100 : Int) = -1) ∧ True) rfl ⟨by decide, trivial⟩ ?_
  refine bnd_elim (G := fun (t1 : Int) => Aw z 5 [some (.inr 3), some (.inl x1), some (.inl x2), some (.inl t1), none] [] M) h (fun t1 h => ?_)
  refine a_run (md qX0_leaveLength_ok) hz 4 [] (pc' := 11) (lv' := [some (.inr 3), some (.inl x1), some (.inl x2), some (.inl t1), some (.inl (x1.tmod (100 : Int)))]) (st' := []) (M' := M) (P := (¬ (100 : Int) = 0 ∧ ¬ (100 : Int) = -1) ∧ True) rfl ⟨by decide, trivial⟩ ?_
  refine bnd_elim (G := fun (t2 : Int) => Aw z 11 [some (.inr 3), some (.inl x1), some (.inl x2), some (.inl t1), some (.inl t2)] [] M) h (fun t2 h => ?_)
  refine ite_elim h (fun hc h => ?_) (fun hc h => ?_)
  · refine a_run (md qX0_leaveLength_ok) hz 2 [1] (pc' := 25) (lv' := [some (.inr 3), some (.inl x1), some (.inl x2), some (.inl t1), some (.inl t2)]) (st' := []) (M' := M) (P := (x2 = 0) ∧ True) rfl ⟨hc, trivial⟩ ?_
    obtain ⟨h3, h⟩ := gd_elim h
    refine ite_elim h (fun hc h => ?_) (fun hc h => ?_)
    · refine a_run (md qX0_leaveLength_ok) hz 5 [0] (pc' := 34) (lv' := [some (.inr 3), some (.inl x1), some (.inl x2), some (.inl t1), some (.inl t2)]) (st' := []) (M' := M) (P := (0 ≤ t1 ∧ t1 < 20) ∧ (¬ ¬ (M 8 t1.toNat) = 0) ∧ True) rfl ⟨h3, fun h9 => h9 hc, trivial⟩ ?_
      refine a_run (md qX0_leaveLength_ok) hz 2 [] (pc' := 41) (lv' := [some (.inr 3), some (.inl x1), some (.inl x2), some (.inl t1), some (.inl t2)]) (st' := [.inl t2]) (M' := M) (P := True) rfl trivial ?_
      exact a_ri (md qX0_leaveLength_ok) hz hR rfl (Or.inl rfl) h
    · refine a_run (md qX0_leaveLength_ok) hz 5 [1] (pc' := 39) (lv' := [some (.inr 3), some (.inl x1), some (.inl x2), some (.inl t1), some (.inl t2)]) (st' := []) (M' := M) (P := (0 ≤ t1 ∧ t1 < 20) ∧ (¬ (M 8 t1.toNat) = 0) ∧ True) rfl ⟨h3, hc, trivial⟩ ?_
      refine a_run (md qX0_leaveLength_ok) hz 1 [] (pc' := 41) (lv' := [some (.inr 3), some (.inl x1), some (.inl x2), some (.inl t1), some (.inl t2)]) (st' := [.inl (-6 : Int)]) (M' := M) (P := True) rfl trivial ?_
      exact a_ri (md qX0_leaveLength_ok) hz hR rfl (Or.inl rfl) h
  · refine a_run (md qX0_leaveLength_ok) hz 2 [0] (pc' := 15) (lv' := [some (.inr 3), some (.inl x1), some (.inl x2), some (.inl t1), some (.inl t2)]) (st' := []) (M' := M) (P := (¬ (x2 = 0)) ∧ True) rfl ⟨hc, trivial⟩ ?_
    obtain ⟨⟨h4, h5⟩, h⟩ := gd_elim h
    refine a_run (md qX0_leaveLength_ok) hz 6 [] (pc' := 24) (lv' := [some (.inr 3), some (.inl x1), some (.inl x2), some (.inl t1), some (.inl t2)]) (st' := [.inl ((M 9 t1.toNat) - t2)]) (M' := M) (P := (0 ≤ t1 ∧ t1 < 20) ∧ (inR ((M 9 t1.toNat) - t2)) ∧ True) rfl ⟨h4, h5, trivial⟩ ?_
    exact a_ri (md qX0_leaveLength_ok) hz hR rfl (Or.inl rfl) h
def fX0_endOf (M : Mm) (x1 : Int) (x2 : Int) : Option (Int) := bnd (x1.tdiv (100 : Int)) (fun (t1 : Int) => if x2 = 0 then gd ((0 ≤ t1 ∧ t1 < 20)) (some (M 6 t1.toNat)) else gd ((0 ≤ t1 ∧ t1 < 20)) (some (M 7 t1.toNat)))
set_option maxRecDepth 100000 in
theorem mX0_endOf (g : Gx) {M : Mm} {x1 : Int} {x2 : Int} {r : Int} (h : fX0_endOf M x1 x2 = some r) : Ct g qX0_endOf [.inr 3, .inl x1, .inl x2] M (fun r' M' => r' = some r ∧ M' = M) := by
  refine c_ofP h qX0_endOf_ok (Nat.le_of_ble_eq_true rfl) (fun z hz Q hR h => ?_)
  unfold fX0_endOf at h
  show Aw z 0 [some (.inr 3), some (.inl x1), some (.inl x2), none] [] M
  refine a_run (md qX0_endOf_ok) hz 4 [] (pc' := 5) (lv' := [some (.inr 3), some (.inl x1), some (.inl x2), some (.inl (x1.tdiv (100 : Int)))]) (st' := []) (M' := M) (P := (¬ (100 : Int) = 0 ∧ ¬ (100 : Int) = -1) ∧ True) rfl ⟨by decide, trivial⟩ ?_
  refine bnd_elim (G := fun (t1 : Int) => Aw z 5 [some (.inr 3), some (.inl x1), some (.inl x2), some (.inl t1)] [] M) h (fun t1 h => ?_)
  refine ite_elim h (fun hc h => ?_) (fun hc h => ?_)
  · refine a_run (md qX0_endOf_ok) hz 2 [1] (pc' := 18) (lv' := [some (.inr 3), some (.inl x1), some (.inl x2), some (.inl t1)]) (st' := []) (M' := M) (P := (x2 = 0) ∧ True) rfl ⟨hc, trivial⟩ ?_
    obtain ⟨h2, h⟩ := gd_elim h
    refine a_run (md qX0_endOf_ok) hz 4 [] (pc' := 24) (lv' := [some (.inr 3), some (.inl x1), some (.inl x2), some (.inl t1)]) (st' := [.inl (M 6 t1.toNat)]) (M' := M) (P := (0 ≤ t1 ∧ t1 < 20) ∧ True) rfl ⟨h2, trivial⟩ ?_
    exact a_ri (md qX0_endOf_ok) hz hR rfl (Or.inl rfl) h
  · refine a_run (md qX0_endOf_ok) hz 2 [0] (pc' := 9) (lv' := [some (.inr 3), some (.inl x1), some (.inl x2), some (.inl t1)]) (st' := []) (M' := M) (P := (¬ (x2 = 0)) ∧ True) rfl ⟨hc, trivial⟩ ?_
    obtain ⟨h3, h⟩ := gd_elim h
    refine a_run (md qX0_endOf_ok) hz 5 [] (pc' := 24) (lv' := [some (.inr 3), some (.inl x1), some (.inl x2), some (.inl t1)]) (st' := [.inl (M 7 t1.toNat)]) (M' := M) (P := (0 ≤ t1 ∧ t1 < 20) ∧ True) rfl ⟨h3, trivial⟩ ?_
    exact a_ri (md qX0_endOf_ok) hz hR rfl (Or.inl rfl) h
def fX0_comesByLast (M : Mm) (x0 : Int) : Option (Int) := jn (some (1 : Int)) (fun (K1 : Option (Int)) => if x0 = (2 : Int) then K1 else if x0 = (4 : Int) then K1 else some (0 : Int))
set_option maxRecDepth 100000 in
theorem mX0_comesByLast (g : Gx) {M : Mm} {x0 : Int} {r : Int} (h : fX0_comesByLast M x0 = some r) : Ct g qX0_comesByLast [.inl x0] M (fun r' M' => r' = some r ∧ M' = M) := by
  refine c_ofP h qX0_comesByLast_ok (Nat.le_of_ble_eq_true rfl) (fun z hz Q hR h => ?_)
  unfold fX0_comesByLast at h
  show Aw z 0 [some (.inl x0)] [] M
  refine jn_elim h (fun (K1 : Option (Int)) => OK (K1) (fun r2 => Q (some r2) M) → Aw z 10 [none] [] M) (fun h => ?_) (fun K1 hK1 h => ?_)
  · refine a_run (md qX0_comesByLast_ok) hz 2 [] (pc' := 15) (lv' := [none]) (st' := [.inl (1 : Int)]) (M' := M) (P := True) rfl trivial ?_
    exact a_ri (md qX0_comesByLast_ok) hz hR rfl (Or.inr ⟨rfl, by decide⟩) h
  · refine ite_elim h (fun hc h => ?_) (fun hc h => ?_)
    · refine a_run (md qX0_comesByLast_ok) hz 3 [1] (pc' := 10) (lv' := [some (.inl x0)]) (st' := []) (M' := M) (P := (x0 = (2 : Int)) ∧ True) rfl ⟨hc, trivial⟩ ?_
      refine a_mask [false] ?_
      exact hK1  h
    · refine a_run (md qX0_comesByLast_ok) hz 3 [0] (pc' := 5) (lv' := [some (.inl x0)]) (st' := []) (M' := M) (P := (¬ (x0 = (2 : Int))) ∧ True) rfl ⟨hc, trivial⟩ ?_
      refine ite_elim h (fun hc h => ?_) (fun hc h => ?_)
      · refine a_run (md qX0_comesByLast_ok) hz 3 [0] (pc' := 10) (lv' := [some (.inl x0)]) (st' := []) (M' := M) (P := (¬ ¬ x0 = (4 : Int)) ∧ True) rfl ⟨fun h9 => h9 hc, trivial⟩ ?_
        refine a_mask [false] ?_
        exact hK1  h
      · refine a_run (md qX0_comesByLast_ok) hz 3 [1] (pc' := 14) (lv' := [some (.inl x0)]) (st' := []) (M' := M) (P := (¬ x0 = (4 : Int)) ∧ True) rfl ⟨hc, trivial⟩ ?_
        refine a_run (md qX0_comesByLast_ok) hz 1 [] (pc' := 15) (lv' := [some (.inl x0)]) (st' := [.inl (0 : Int)]) (M' := M) (P := True) rfl trivial ?_
        exact a_ri (md qX0_comesByLast_ok) hz hR rfl (Or.inr ⟨rfl, by decide⟩) h
def fX0_comeLength (M : Mm) (x1 : Int) (x2 : Int) : Option (Int) := bnd (x1.tdiv (100 : Int)) (fun (t1 : Int) => bnd (x1.tmod (100 : Int)) (fun (t2 : Int) => if x2 = 0 then some t2 else gd ((0 ≤ t1 ∧ t1 < 20)) (if (M 8 t1.toNat) = 0 then gd ((0 ≤ t1 ∧ t1 < 20) ∧ (inR ((M 9 t1.toNat) - t2))) (some ((M 9 t1.toNat) - t2)) else some (-6 : Int))))
set_option maxRecDepth 100000 in
theorem mX0_comeLength (g : Gx) {M : Mm} {x1 : Int} {x2 : Int} {r : Int} (h : fX0_comeLength M x1 x2 = some r) : Ct g qX0_comeLength [.inr 3, .inl x1, .inl x2] M (fun r' M' => r' = some r ∧ M' = M) := by
  refine c_ofP h qX0_comeLength_ok (Nat.le_of_ble_eq_true rfl) (fun z hz Q hR h => ?_)
  unfold fX0_comeLength at h
  show Aw z 0 [some (.inr 3), some (.inl x1), some (.inl x2), none, none] [] M
  refine a_run (md qX0_comeLength_ok) hz 4 [] (pc' := 5) (lv' := [some (.inr 3), some (.inl x1), some (.inl x2), some (.inl (x1.tdiv (100 : Int))), none]) (st' := []) (M' := M) (P := (¬ (100 : Int) = 0 ∧ ¬ (100 : Int) = -1) ∧ True) rfl ⟨by decide, trivial⟩ ?_
  refine bnd_elim (G := fun (t1 : Int) => Aw z 5 [some (.inr 3), some (.inl x1), some (.inl x2), some (.inl t1), none] [] M) h (fun t1 h => ?_)
  refine a_run (md qX0_comeLength_ok) hz 4 [] (pc' := 11) (lv' := [some (.inr 3), some (.inl x1), some (.inl x2), some (.inl t1), some (.inl (x1.tmod (100 : Int)))]) (st' := []) (M' := M) (P := (¬ (100 : Int) = 0 ∧ ¬ (100 : Int) = -1) ∧ True) rfl ⟨by decide, trivial⟩ ?_
  refine bnd_elim (G := fun (t2 : Int) => Aw z 11 [some (.inr 3), some (.inl x1), some (.inl x2), some (.inl t1), some (.inl t2)] [] M) h (fun t2 h => ?_)
  refine ite_elim h (fun hc h => ?_) (fun hc h => ?_)
  · refine a_run (md qX0_comeLength_ok) hz 2 [0] (pc' := 15) (lv' := [some (.inr 3), some (.inl x1), some (.inl x2), some (.inl t1), some (.inl t2)]) (st' := []) (M' := M) (P := (¬ ¬ x2 = 0) ∧ True) rfl ⟨fun h9 => h9 hc, trivial⟩ ?_
    refine a_run (md qX0_comeLength_ok) hz 1 [] (pc' := 17) (lv' := [some (.inr 3), some (.inl x1), some (.inl x2), some (.inl t1), some (.inl t2)]) (st' := [.inl t2]) (M' := M) (P := True) rfl trivial ?_
    exact a_ri (md qX0_comeLength_ok) hz hR rfl (Or.inl rfl) h
  · refine a_run (md qX0_comeLength_ok) hz 2 [1] (pc' := 18) (lv' := [some (.inr 3), some (.inl x1), some (.inl x2), some (.inl t1), some (.inl t2)]) (st' := []) (M' := M) (P := (¬ x2 = 0) ∧ True) rfl ⟨hc, trivial⟩ ?_
    obtain ⟨h5, h⟩ := gd_elim h
    refine ite_elim h (fun hc h => ?_) (fun hc h => ?_)
    · refine a_run (md qX0_comeLength_ok) hz 5 [0] (pc' := 27) (lv' := [some (.inr 3), some (.inl x1), some (.inl x2), some (.inl t1), some (.inl t2)]) (st' := []) (M' := M) (P := (0 ≤ t1 ∧ t1 < 20) ∧ (¬ ¬ (M 8 t1.toNat) = 0) ∧ True) rfl ⟨h5, fun h9 => h9 hc, trivial⟩ ?_
      obtain ⟨⟨h3, h4⟩, h⟩ := gd_elim h
      refine a_run (md qX0_comeLength_ok) hz 7 [] (pc' := 41) (lv' := [some (.inr 3), some (.inl x1), some (.inl x2), some (.inl t1), some (.inl t2)]) (st' := [.inl ((M 9 t1.toNat) - t2)]) (M' := M) (P := (0 ≤ t1 ∧ t1 < 20) ∧ (inR ((M 9 t1.toNat) - t2)) ∧ True) rfl ⟨h3, h4, trivial⟩ ?_
      exact a_ri (md qX0_comeLength_ok) hz hR rfl (Or.inl rfl) h
    · refine a_run (md qX0_comeLength_ok) hz 5 [1] (pc' := 39) (lv' := [some (.inr 3), some (.inl x1), some (.inl x2), some (.inl t1), some (.inl t2)]) (st' := []) (M' := M) (P := (0 ≤ t1 ∧ t1 < 20) ∧ (¬ (M 8 t1.toNat) = 0) ∧ True) rfl ⟨h5, hc, trivial⟩ ?_
      refine a_run (md qX0_comeLength_ok) hz 1 [] (pc' := 41) (lv' := [some (.inr 3), some (.inl x1), some (.inl x2), some (.inl t1), some (.inl t2)]) (st' := [.inl (-6 : Int)]) (M' := M) (P := True) rfl trivial ?_
      exact a_ri (md qX0_comeLength_ok) hz hR rfl (Or.inl rfl) h
def fX0_lengthOut (M : Mm) (x1 : Int) (x2 : Int) (x3 : Int) : Option (Int) := if x3 = 0 then cal (fX0_lengthAlong M x1 x2) (fun (r14 : Int) => some r14) else jn (some (-6 : Int)) (fun (K1 : Option (Int)) => cal (fX0_leavesByLast M x3) (fun (r2 : Int) => cal (fX0_leaveLength M x1 r2) (fun (r3 : Int) => cal (fX0_leavesByLast M x3) (fun (r4 : Int) => cal (fX0_endOf M x1 r4) (fun (r5 : Int) => cal (fX0_comesByLast M x3) (fun (r6 : Int) => cal (fX0_endOf M x2 r6) (fun (r7 : Int) => cal (fX0_pair M r5 r7) (fun (r8 : Int) => gd ((0 ≤ r8 ∧ r8 < 144)) (cal (fX0_comesByLast M x3) (fun (r9 : Int) => cal (fX0_comeLength M x2 r9) (fun (r10 : Int) => if r3 = (-6 : Int) then K1 else if (M 10 r8.toNat) = (-6 : Int) then K1 else if r10 = (-6 : Int) then K1 else gd ((inR (r3 + (M 10 r8.toNat))) ∧ (inR ((r3 + (M 10 r8.toNat)) + r10))) (some ((r3 + (M 10 r8.toNat)) + r10)))))))))))))
set_option maxRecDepth 100000 in
theorem mX0_lengthOut (g : Gx) {M : Mm} {x1 : Int} {x2 : Int} {x3 : Int} {r : Int} (h : fX0_lengthOut M x1 x2 x3 = some r) : Ct g qX0_lengthOut [.inr 3, .inl x1, .inl x2, .inl x3] M (fun r' M' => r' = some r ∧ M' = M) := by
  refine c_ofP h qX0_lengthOut_ok (Nat.le_of_ble_eq_true rfl) (fun z hz Q hR h => ?_)
  unfold fX0_lengthOut at h
  show Aw z 0 [some (.inr 3), some (.inl x1), some (.inl x2), some (.inl x3), none, none, none] [] M
  refine ite_elim h (fun hc h => ?_) (fun hc h => ?_)
  · refine a_run (md qX0_lengthOut_ok) hz 2 [0] (pc' := 4) (lv' := [some (.inr 3), some (.inl x1), some (.inl x2), some (.inl x3), none, none, none]) (st' := []) (M' := M) (P := (¬ ¬ x3 = 0) ∧ True) rfl ⟨fun h9 => h9 hc, trivial⟩ ?_
    refine a_run (md qX0_lengthOut_ok) hz 3 [] (pc' := 7) (lv' := [some (.inr 3), some (.inl x1), some (.inl x2), some (.inl x3), none, none, none]) (st' := [.inl x2, .inl x1, .inr 3]) (M' := M) (P := True) rfl trivial ?_
    obtain ⟨r14, hr, h⟩ := cal_elim h
    refine a_fV (as := [.inl x1, .inl x2]) (a := 3) (st := []) (mX0_lengthAlong z.1 hr) (md qX0_lengthOut_ok) qX0_lengthAlong_ok hz lkX0_90 rfl 2 0 (by decide +kernel) rfl rfl rfl rfl ?_
    show Aw z 10 [some (.inr 3), some (.inl x1), some (.inl x2), some (.inl x3), none, none, none] [.inl r14] M
    exact a_ri (md qX0_lengthOut_ok) hz hR rfl (Or.inl rfl) h
  · refine a_run (md qX0_lengthOut_ok) hz 2 [1] (pc' := 11) (lv' := [some (.inr 3), some (.inl x1), some (.inl x2), some (.inl x3), none, none, none]) (st' := []) (M' := M) (P := (¬ x3 = 0) ∧ True) rfl ⟨hc, trivial⟩ ?_
    refine jn_elim h (fun (K1 : Option (Int)) => OK (K1) (fun r2 => Q (some r2) M) → Aw z 82 [none, none, none, none, none, none, none] [] M) (fun h => ?_) (fun K1 hK1 h => ?_)
    · refine a_run (md qX0_lengthOut_ok) hz 2 [] (pc' := 95) (lv' := [none, none, none, none, none, none, none]) (st' := [.inl (-6 : Int)]) (M' := M) (P := True) rfl trivial ?_
      exact a_ri (md qX0_lengthOut_ok) hz hR rfl (Or.inl rfl) h
    · refine a_run (md qX0_lengthOut_ok) hz 3 [] (pc' := 14) (lv' := [some (.inr 3), some (.inl x1), some (.inl x2), some (.inl x3), none, none, none]) (st' := [.inl x3, .inl x1, .inr 3]) (M' := M) (P := True) rfl trivial ?_
      obtain ⟨r2, hr, h⟩ := cal_elim h
      refine a_fS (as := [.inl x3]) (st := [.inl x1, .inr 3]) (mX0_leavesByLast z.1 hr) (md qX0_lengthOut_ok) qX0_leavesByLast_ok hz lkX0_93 rfl 1 2 (by decide +kernel) rfl rfl ?_
      show Aw z 17 [some (.inr 3), some (.inl x1), some (.inl x2), some (.inl x3), none, none, none] [.inl r2, .inl x1, .inr 3] M
      obtain ⟨r3, hr, h⟩ := cal_elim h
      refine a_fV (as := [.inl x1, .inl r2]) (a := 3) (st := []) (mX0_leaveLength z.1 hr) (md qX0_lengthOut_ok) qX0_leaveLength_ok hz lkX0_96 rfl 2 0 (by decide +kernel) rfl rfl rfl rfl ?_
      show Aw z 20 [some (.inr 3), some (.inl x1), some (.inl x2), some (.inl x3), none, none, none] [.inl r3] M
      refine a_run (md qX0_lengthOut_ok) hz 6 [] (pc' := 29) (lv' := [some (.inr 3), some (.inl x1), some (.inl x2), some (.inl x3), some (.inl r3), none, none]) (st' := [.inl x3, .inl x1, .inr 3, .inr 10]) (M' := M) (P := True) rfl trivial ?_
      obtain ⟨r4, hr, h⟩ := cal_elim h
      refine a_fS (as := [.inl x3]) (st := [.inl x1, .inr 3, .inr 10]) (mX0_leavesByLast z.1 hr) (md qX0_lengthOut_ok) qX0_leavesByLast_ok hz lkX0_93 rfl 1 3 (by decide +kernel) rfl rfl ?_
      show Aw z 32 [some (.inr 3), some (.inl x1), some (.inl x2), some (.inl x3), some (.inl r3), none, none] [.inl r4, .inl x1, .inr 3, .inr 10] M
      obtain ⟨r5, hr, h⟩ := cal_elim h
      refine a_fV (as := [.inl x1, .inl r4]) (a := 3) (st := [.inr 10]) (mX0_endOf z.1 hr) (md qX0_lengthOut_ok) qX0_endOf_ok hz lkX0_100 rfl 2 1 (by decide +kernel) rfl rfl rfl rfl ?_
      show Aw z 35 [some (.inr 3), some (.inl x1), some (.inl x2), some (.inl x3), some (.inl r3), none, none] [.inl r5, .inr 10] M
      refine a_run (md qX0_lengthOut_ok) hz 3 [] (pc' := 38) (lv' := [some (.inr 3), some (.inl x1), some (.inl x2), some (.inl x3), some (.inl r3), none, none]) (st' := [.inl x3, .inl x2, .inr 3, .inl r5, .inr 10]) (M' := M) (P := True) rfl trivial ?_
      obtain ⟨r6, hr, h⟩ := cal_elim h
      refine a_fS (as := [.inl x3]) (st := [.inl x2, .inr 3, .inl r5, .inr 10]) (mX0_comesByLast z.1 hr) (md qX0_lengthOut_ok) qX0_comesByLast_ok hz lkX0_103 rfl 1 4 (by decide +kernel) rfl rfl ?_
      show Aw z 41 [some (.inr 3), some (.inl x1), some (.inl x2), some (.inl x3), some (.inl r3), none, none] [.inl r6, .inl x2, .inr 3, .inl r5, .inr 10] M
      obtain ⟨r7, hr, h⟩ := cal_elim h
      refine a_fV (as := [.inl x2, .inl r6]) (a := 3) (st := [.inl r5, .inr 10]) (mX0_endOf z.1 hr) (md qX0_lengthOut_ok) qX0_endOf_ok hz lkX0_100 rfl 2 2 (by decide +kernel) rfl rfl rfl rfl ?_
      show Aw z 44 [some (.inr 3), some (.inl x1), some (.inl x2), some (.inl x3), some (.inl r3), none, none] [.inl r7, .inl r5, .inr 10] M
      obtain ⟨r8, hr, h⟩ := cal_elim h
      refine a_fS (as := [.inl r5, .inl r7]) (st := [.inr 10]) (mX0_pair z.1 hr) (md qX0_lengthOut_ok) qX0_pair_ok hz lkX0_44 rfl 2 1 (by decide +kernel) rfl rfl ?_
      show Aw z 47 [some (.inr 3), some (.inl x1), some (.inl x2), some (.inl x3), some (.inl r3), none, none] [.inl r8, .inr 10] M
      obtain ⟨h13, h⟩ := gd_elim h
      refine a_run (md qX0_lengthOut_ok) hz 5 [] (pc' := 53) (lv' := [some (.inr 3), some (.inl x1), some (.inl x2), some (.inl x3), some (.inl r3), some (.inl (M 10 r8.toNat)), none]) (st' := [.inl x3, .inl x2, .inr 3]) (M' := M) (P := (0 ≤ r8 ∧ r8 < 144) ∧ True) rfl ⟨h13, trivial⟩ ?_
      obtain ⟨r9, hr, h⟩ := cal_elim h
      refine a_fS (as := [.inl x3]) (st := [.inl x2, .inr 3]) (mX0_comesByLast z.1 hr) (md qX0_lengthOut_ok) qX0_comesByLast_ok hz lkX0_103 rfl 1 2 (by decide +kernel) rfl rfl ?_
      show Aw z 56 [some (.inr 3), some (.inl x1), some (.inl x2), some (.inl x3), some (.inl r3), some (.inl (M 10 r8.toNat)), none] [.inl r9, .inl x2, .inr 3] M
      obtain ⟨r10, hr, h⟩ := cal_elim h
      refine a_fV (as := [.inl x2, .inl r9]) (a := 3) (st := []) (mX0_comeLength z.1 hr) (md qX0_lengthOut_ok) qX0_comeLength_ok hz lkX0_106 rfl 2 0 (by decide +kernel) rfl rfl rfl rfl ?_
      show Aw z 59 [some (.inr 3), some (.inl x1), some (.inl x2), some (.inl x3), some (.inl r3), some (.inl (M 10 r8.toNat)), none] [.inl r10] M
      refine ite_elim h (fun hc h => ?_) (fun hc h => ?_)
      · refine a_run (md qX0_lengthOut_ok) hz 4 [1] (pc' := 82) (lv' := [some (.inr 3), some (.inl x1), some (.inl x2), some (.inl x3), some (.inl r3), some (.inl (M 10 r8.toNat)), some (.inl r10)]) (st' := []) (M' := M) (P := (r3 = (-6 : Int)) ∧ True) rfl ⟨hc, trivial⟩ ?_
        refine a_mask [false, false, false, false, false, false, false] ?_
        exact hK1  h
      · refine a_run (md qX0_lengthOut_ok) hz 4 [0] (pc' := 68) (lv' := [some (.inr 3), some (.inl x1), some (.inl x2), some (.inl x3), some (.inl r3), some (.inl (M 10 r8.toNat)), some (.inl r10)]) (st' := []) (M' := M) (P := (¬ (r3 = (-6 : Int))) ∧ True) rfl ⟨hc, trivial⟩ ?_
        refine ite_elim h (fun hc h => ?_) (fun hc h => ?_)
        · refine a_run (md qX0_lengthOut_ok) hz 3 [1] (pc' := 82) (lv' := [some (.inr 3), some (.inl x1), some (.inl x2), some (.inl x3), some (.inl r3), some (.inl (M 10 r8.toNat)), some (.inl r10)]) (st' := []) (M' := M) (P := ((M 10 r8.toNat) = (-6 : Int)) ∧ True) rfl ⟨hc, trivial⟩ ?_
          refine a_mask [false, false, false, false, false, false, false] ?_
          exact hK1  h
        · refine a_run (md qX0_lengthOut_ok) hz 3 [0] (pc' := 75) (lv' := [some (.inr 3), some (.inl x1), some (.inl x2), some (.inl x3), some (.inl r3), some (.inl (M 10 r8.toNat)), some (.inl r10)]) (st' := []) (M' := M) (P := (¬ ((M 10 r8.toNat) = (-6 : Int))) ∧ True) rfl ⟨hc, trivial⟩ ?_
          refine ite_elim h (fun hc h => ?_) (fun hc h => ?_)
          · refine a_run (md qX0_lengthOut_ok) hz 3 [0] (pc' := 82) (lv' := [some (.inr 3), some (.inl x1), some (.inl x2), some (.inl x3), some (.inl r3), some (.inl (M 10 r8.toNat)), some (.inl r10)]) (st' := []) (M' := M) (P := (¬ ¬ r10 = (-6 : Int)) ∧ True) rfl ⟨fun h9 => h9 hc, trivial⟩ ?_
            refine a_mask [false, false, false, false, false, false, false] ?_
            exact hK1  h
          · refine a_run (md qX0_lengthOut_ok) hz 3 [1] (pc' := 87) (lv' := [some (.inr 3), some (.inl x1), some (.inl x2), some (.inl x3), some (.inl r3), some (.inl (M 10 r8.toNat)), some (.inl r10)]) (st' := []) (M' := M) (P := (¬ r10 = (-6 : Int)) ∧ True) rfl ⟨hc, trivial⟩ ?_
            obtain ⟨⟨h11, h12⟩, h⟩ := gd_elim h
            refine a_run (md qX0_lengthOut_ok) hz 5 [] (pc' := 95) (lv' := [some (.inr 3), some (.inl x1), some (.inl x2), some (.inl x3), some (.inl r3), some (.inl (M 10 r8.toNat)), some (.inl r10)]) (st' := [.inl ((r3 + (M 10 r8.toNat)) + r10)]) (M' := M) (P := (inR (r3 + (M 10 r8.toNat))) ∧ (inR ((r3 + (M 10 r8.toNat)) + r10)) ∧ True) rfl ⟨h11, h12, trivial⟩ ?_
            exact a_ri (md qX0_lengthOut_ok) hz hR rfl (Or.inl rfl) h
def fX0_wayLength_L25 (x1 : Int) (x2 : Int) (M : Mm) : Nat → Int → Int → Option (Int)
  | 0, _, _ => none
  | n + 1, v3, v4 => if (4 : Int) < v4 then some v3 else jn (fun (v5 : Int) (v6 : Int) => gd ((inR (v6 + (1 : Int)))) (fX0_wayLength_L25 x1 x2 M n v5 (v6 + (1 : Int)))) (fun (K7 : Int → Int → Option (Int)) => cal (fX0_lengthOut M x1 x2 v4) (fun (r9 : Int) => if r9 = (-6 : Int) then K7 v3 v4 else jn (fun (v10 : Int) (v11 : Int) => K7 v11 v10) (fun (K12 : Int → Int → Option (Int)) => if v3 = (-6 : Int) then K12 v4 r9 else if v3 ≤ r9 then K7 v3 v4 else K12 v4 r9)))
def fX0_wayLength (M : Mm) (x1 : Int) (x2 : Int) : Option (Int) := cal (fX0_hasSpot M x1) (fun (r1 : Int) => if r1 = 0 then some (-6 : Int) else cal (fX0_hasSpot M x2) (fun (r2 : Int) => if r2 = 0 then some (-6 : Int) else fX0_wayLength_L25 x1 x2 M 1000 (-6 : Int) (0 : Int)))
set_option maxRecDepth 100000 in
theorem mX0_wayLength_L25 {z : Zx} (hz : Cx qX0_wayLength z) {Q : Option Int → Mm → Prop} (hR : Rt Q z) {x1 : Int} {x2 : Int} {M : Mm} : ∀ (n : Nat) (v3 : Int) (v4 : Int), OK (fX0_wayLength_L25 x1 x2 M n v3 v4) (fun r2 => Q (some r2) M) → Aw z 25 [some (.inr 3), some (.inl x1), some (.inl x2), some (.inl v3), some (.inl v4), none] [] M := by
  intro n
  induction n with
  | zero =>
    intro v3 v4 h
    exact (show False from h).elim
  | succ n ih =>
    intro v3 v4 h
    unfold fX0_wayLength_L25 at h
    refine ite_elim h (fun hc h => ?_) (fun hc h => ?_)
    · refine a_run (md qX0_wayLength_ok) hz 3 [1] (pc' := 69) (lv' := [some (.inr 3), some (.inl x1), some (.inl x2), some (.inl v3), some (.inl v4), none]) (st' := []) (M' := M) (P := ((4 : Int) < v4) ∧ True) rfl ⟨hc, trivial⟩ ?_
      refine a_run (md qX0_wayLength_ok) hz 1 [] (pc' := 70) (lv' := [some (.inr 3), some (.inl x1), some (.inl x2), some (.inl v3), some (.inl v4), none]) (st' := [.inl v3]) (M' := M) (P := True) rfl trivial ?_
      exact a_ri (md qX0_wayLength_ok) hz hR rfl (Or.inl rfl) h
    · refine a_run (md qX0_wayLength_ok) hz 3 [0] (pc' := 31) (lv' := [some (.inr 3), some (.inl x1), some (.inl x2), some (.inl v3), some (.inl v4), none]) (st' := []) (M' := M) (P := (¬ ((4 : Int) < v4)) ∧ True) rfl ⟨hc, trivial⟩ ?_
      refine jn_elim h (fun (K7 : Int → Int → Option (Int)) => ∀ (v5 : Int), ∀ (v6 : Int), OK (K7 v5 v6) (fun r2 => Q (some r2) M) → Aw z 63 [some (.inr 3), some (.inl x1), some (.inl x2), some (.inl v5), some (.inl v6), none] [] M) (fun v5 v6 h => ?_) (fun K7 hK7 h => ?_)
      · obtain ⟨h8, h⟩ := gd_elim h
        refine a_run (md qX0_wayLength_ok) hz 2 [] (pc' := 25) (lv' := [some (.inr 3), some (.inl x1), some (.inl x2), some (.inl v5), some (.inl (v6 + (1 : Int))), none]) (st' := []) (M' := M) (P := (inR (v6 + (1 : Int))) ∧ True) rfl ⟨h8, trivial⟩ ?_
        refine a_mask [true, true, true, true, true, false] ?_
        exact ih v5 (v6 + (1 : Int)) h
      · refine a_run (md qX0_wayLength_ok) hz 4 [] (pc' := 36) (lv' := [some (.inr 3), some (.inl x1), some (.inl x2), some (.inl v3), some (.inl v4), none]) (st' := [.inl v4, .inl x2, .inl x1, .inr 3]) (M' := M) (P := True) rfl trivial ?_
        obtain ⟨r9, hr, h⟩ := cal_elim h
        refine a_fV (as := [.inl x1, .inl x2, .inl v4]) (a := 3) (st := []) (mX0_lengthOut z.1 hr) (md qX0_wayLength_ok) qX0_lengthOut_ok hz lkX0_84 rfl 3 0 (by decide +kernel) rfl rfl rfl rfl ?_
        show Aw z 39 [some (.inr 3), some (.inl x1), some (.inl x2), some (.inl v3), some (.inl v4), none] [.inl r9] M
        refine ite_elim h (fun hc h => ?_) (fun hc h => ?_)
        · refine a_run (md qX0_wayLength_ok) hz 4 [1] (pc' := 63) (lv' := [some (.inr 3), some (.inl x1), some (.inl x2), some (.inl v3), some (.inl v4), some (.inl r9)]) (st' := []) (M' := M) (P := (r9 = (-6 : Int)) ∧ True) rfl ⟨hc, trivial⟩ ?_
          refine a_mask [true, true, true, true, true, false] ?_
          exact hK7 v3 v4 h
        · refine a_run (md qX0_wayLength_ok) hz 4 [0] (pc' := 48) (lv' := [some (.inr 3), some (.inl x1), some (.inl x2), some (.inl v3), some (.inl v4), some (.inl r9)]) (st' := []) (M' := M) (P := (¬ (r9 = (-6 : Int))) ∧ True) rfl ⟨hc, trivial⟩ ?_
          refine jn_elim h (fun (K12 : Int → Int → Option (Int)) => ∀ (v10 : Int), ∀ (v11 : Int), OK (K12 v10 v11) (fun r2 => Q (some r2) M) → Aw z 60 [some (.inr 3), some (.inl x1), some (.inl x2), none, some (.inl v10), some (.inl v11)] [] M) (fun v10 v11 h => ?_) (fun K12 hK12 h => ?_)
          · refine a_run (md qX0_wayLength_ok) hz 2 [] (pc' := 63) (lv' := [some (.inr 3), some (.inl x1), some (.inl x2), some (.inl v11), some (.inl v10), some (.inl v11)]) (st' := []) (M' := M) (P := True) rfl trivial ?_
            refine a_mask [true, true, true, true, true, false] ?_
            exact hK7 v11 v10 h
          · refine ite_elim h (fun hc h => ?_) (fun hc h => ?_)
            · refine a_run (md qX0_wayLength_ok) hz 3 [1] (pc' := 60) (lv' := [some (.inr 3), some (.inl x1), some (.inl x2), some (.inl v3), some (.inl v4), some (.inl r9)]) (st' := []) (M' := M) (P := (v3 = (-6 : Int)) ∧ True) rfl ⟨hc, trivial⟩ ?_
              refine a_mask [true, true, true, false, true, true] ?_
              exact hK12 v4 r9 h
            · refine a_run (md qX0_wayLength_ok) hz 3 [0] (pc' := 54) (lv' := [some (.inr 3), some (.inl x1), some (.inl x2), some (.inl v3), some (.inl v4), some (.inl r9)]) (st' := []) (M' := M) (P := (¬ (v3 = (-6 : Int))) ∧ True) rfl ⟨hc, trivial⟩ ?_
              refine ite_elim h (fun hc h => ?_) (fun hc h => ?_)
              · refine a_run (md qX0_wayLength_ok) hz 3 [1] (pc' := 63) (lv' := [some (.inr 3), some (.inl x1), some (.inl x2), some (.inl v3), some (.inl v4), some (.inl r9)]) (st' := []) (M' := M) (P := (v3 ≤ r9) ∧ True) rfl ⟨hc, trivial⟩ ?_
                refine a_mask [true, true, true, true, true, false] ?_
                exact hK7 v3 v4 h
              · refine a_run (md qX0_wayLength_ok) hz 3 [0] (pc' := 60) (lv' := [some (.inr 3), some (.inl x1), some (.inl x2), some (.inl v3), some (.inl v4), some (.inl r9)]) (st' := []) (M' := M) (P := (¬ (v3 ≤ r9)) ∧ True) rfl ⟨hc, trivial⟩ ?_
                refine a_mask [true, true, true, false, true, true] ?_
                exact hK12 v4 r9 h
set_option maxRecDepth 100000 in
theorem mX0_wayLength (g : Gx) {M : Mm} {x1 : Int} {x2 : Int} {r : Int} (h : fX0_wayLength M x1 x2 = some r) : Ct g qX0_wayLength [.inr 3, .inl x1, .inl x2] M (fun r' M' => r' = some r ∧ M' = M) := by
  refine c_ofP h qX0_wayLength_ok (Nat.le_of_ble_eq_true rfl) (fun z hz Q hR h => ?_)
  unfold fX0_wayLength at h
  show Aw z 0 [some (.inr 3), some (.inl x1), some (.inl x2), none, none, none] [] M
  refine a_run (md qX0_wayLength_ok) hz 2 [] (pc' := 2) (lv' := [some (.inr 3), some (.inl x1), some (.inl x2), none, none, none]) (st' := [.inl x1, .inr 3]) (M' := M) (P := True) rfl trivial ?_
  obtain ⟨r1, hr, h⟩ := cal_elim h
  refine a_fV (as := [.inl x1]) (a := 3) (st := []) (mX0_hasSpot z.1 hr) (md qX0_wayLength_ok) qX0_hasSpot_ok hz lkX0_81 rfl 1 0 (by decide +kernel) rfl rfl rfl rfl ?_
  show Aw z 5 [some (.inr 3), some (.inl x1), some (.inl x2), none, none, none] [.inl r1] M
  refine ite_elim h (fun hc h => ?_) (fun hc h => ?_)
  · refine a_run (md qX0_wayLength_ok) hz 1 [1] (pc' := 16) (lv' := [some (.inr 3), some (.inl x1), some (.inl x2), none, none, none]) (st' := []) (M' := M) (P := (r1 = 0) ∧ True) rfl ⟨hc, trivial⟩ ?_
    refine a_run (md qX0_wayLength_ok) hz 1 [] (pc' := 18) (lv' := [some (.inr 3), some (.inl x1), some (.inl x2), none, none, none]) (st' := [.inl (-6 : Int)]) (M' := M) (P := True) rfl trivial ?_
    exact a_ri (md qX0_wayLength_ok) hz hR rfl (Or.inl rfl) h
  · refine a_run (md qX0_wayLength_ok) hz 1 [0] (pc' := 8) (lv' := [some (.inr 3), some (.inl x1), some (.inl x2), none, none, none]) (st' := []) (M' := M) (P := (¬ (r1 = 0)) ∧ True) rfl ⟨hc, trivial⟩ ?_
    refine a_run (md qX0_wayLength_ok) hz 2 [] (pc' := 10) (lv' := [some (.inr 3), some (.inl x1), some (.inl x2), none, none, none]) (st' := [.inl x2, .inr 3]) (M' := M) (P := True) rfl trivial ?_
    obtain ⟨r2, hr, h⟩ := cal_elim h
    refine a_fV (as := [.inl x2]) (a := 3) (st := []) (mX0_hasSpot z.1 hr) (md qX0_wayLength_ok) qX0_hasSpot_ok hz lkX0_81 rfl 1 0 (by decide +kernel) rfl rfl rfl rfl ?_
    show Aw z 13 [some (.inr 3), some (.inl x1), some (.inl x2), none, none, none] [.inl r2] M
    refine ite_elim h (fun hc h => ?_) (fun hc h => ?_)
    · refine a_run (md qX0_wayLength_ok) hz 1 [0] (pc' := 16) (lv' := [some (.inr 3), some (.inl x1), some (.inl x2), none, none, none]) (st' := []) (M' := M) (P := (¬ ¬ r2 = 0) ∧ True) rfl ⟨fun h9 => h9 hc, trivial⟩ ?_
      refine a_run (md qX0_wayLength_ok) hz 1 [] (pc' := 18) (lv' := [some (.inr 3), some (.inl x1), some (.inl x2), none, none, none]) (st' := [.inl (-6 : Int)]) (M' := M) (P := True) rfl trivial ?_
      exact a_ri (md qX0_wayLength_ok) hz hR rfl (Or.inl rfl) h
    · refine a_run (md qX0_wayLength_ok) hz 1 [1] (pc' := 19) (lv' := [some (.inr 3), some (.inl x1), some (.inl x2), none, none, none]) (st' := []) (M' := M) (P := (¬ r2 = 0) ∧ True) rfl ⟨hc, trivial⟩ ?_
      refine a_run (md qX0_wayLength_ok) hz 4 [] (pc' := 25) (lv' := [some (.inr 3), some (.inl x1), some (.inl x2), some (.inl (-6 : Int)), some (.inl (0 : Int)), none]) (st' := []) (M' := M) (P := True) rfl trivial ?_
      refine a_mask [true, true, true, true, true, false] ?_
      refine mX0_wayLength_L25 hz hR  1000 (-6 : Int) (0 : Int) h
def fX0_wayOut_L10 (x1 : Int) (x2 : Int) (M : Mm) : Nat → Int → Int → Option (Int)
  | 0, _, _ => none
  | n + 1, v2, v3 => if v2 = (-6 : Int) then some (-6 : Int) else if (4 : Int) < v3 then some (-6 : Int) else cal (fX0_lengthOut M x1 x2 v3) (fun (r4 : Int) => if r4 = v2 then some v3 else gd ((inR (v3 + (1 : Int)))) (fX0_wayOut_L10 x1 x2 M n v2 (v3 + (1 : Int))))
def fX0_wayOut (M : Mm) (x1 : Int) (x2 : Int) : Option (Int) := cal (fX0_wayLength M x1 x2) (fun (r1 : Int) => fX0_wayOut_L10 x1 x2 M 1000 r1 (0 : Int))
set_option maxRecDepth 100000 in
theorem mX0_wayOut_L10 {z : Zx} (hz : Cx qX0_wayOut z) {Q : Option Int → Mm → Prop} (hR : Rt Q z) {x1 : Int} {x2 : Int} {M : Mm} : ∀ (n : Nat) (v2 : Int) (v3 : Int), OK (fX0_wayOut_L10 x1 x2 M n v2 v3) (fun r2 => Q (some r2) M) → Aw z 10 [some (.inr 3), some (.inl x1), some (.inl x2), some (.inl v2), some (.inl v3)] [] M := by
  intro n
  induction n with
  | zero =>
    intro v2 v3 h
    exact (show False from h).elim
  | succ n ih =>
    intro v2 v3 h
    unfold fX0_wayOut_L10 at h
    refine ite_elim h (fun hc h => ?_) (fun hc h => ?_)
    · refine a_run (md qX0_wayOut_ok) hz 3 [1] (pc' := 43) (lv' := [some (.inr 3), some (.inl x1), some (.inl x2), some (.inl v2), some (.inl v3)]) (st' := []) (M' := M) (P := (v2 = (-6 : Int)) ∧ True) rfl ⟨hc, trivial⟩ ?_
      refine a_run (md qX0_wayOut_ok) hz 1 [] (pc' := 45) (lv' := [some (.inr 3), some (.inl x1), some (.inl x2), some (.inl v2), some (.inl v3)]) (st' := [.inl (-6 : Int)]) (M' := M) (P := True) rfl trivial ?_
      exact a_ri (md qX0_wayOut_ok) hz hR rfl (Or.inl rfl) h
    · refine a_run (md qX0_wayOut_ok) hz 3 [0] (pc' := 16) (lv' := [some (.inr 3), some (.inl x1), some (.inl x2), some (.inl v2), some (.inl v3)]) (st' := []) (M' := M) (P := (¬ (v2 = (-6 : Int))) ∧ True) rfl ⟨hc, trivial⟩ ?_
      refine ite_elim h (fun hc h => ?_) (fun hc h => ?_)
      · refine a_run (md qX0_wayOut_ok) hz 3 [1] (pc' := 43) (lv' := [some (.inr 3), some (.inl x1), some (.inl x2), some (.inl v2), some (.inl v3)]) (st' := []) (M' := M) (P := ((4 : Int) < v3) ∧ True) rfl ⟨hc, trivial⟩ ?_
        refine a_run (md qX0_wayOut_ok) hz 1 [] (pc' := 45) (lv' := [some (.inr 3), some (.inl x1), some (.inl x2), some (.inl v2), some (.inl v3)]) (st' := [.inl (-6 : Int)]) (M' := M) (P := True) rfl trivial ?_
        exact a_ri (md qX0_wayOut_ok) hz hR rfl (Or.inl rfl) h
      · refine a_run (md qX0_wayOut_ok) hz 3 [0] (pc' := 22) (lv' := [some (.inr 3), some (.inl x1), some (.inl x2), some (.inl v2), some (.inl v3)]) (st' := []) (M' := M) (P := (¬ ((4 : Int) < v3)) ∧ True) rfl ⟨hc, trivial⟩ ?_
        refine a_run (md qX0_wayOut_ok) hz 4 [] (pc' := 27) (lv' := [some (.inr 3), some (.inl x1), some (.inl x2), some (.inl v2), some (.inl v3)]) (st' := [.inl v3, .inl x2, .inl x1, .inr 3]) (M' := M) (P := True) rfl trivial ?_
        obtain ⟨r4, hr, h⟩ := cal_elim h
        refine a_fV (as := [.inl x1, .inl x2, .inl v3]) (a := 3) (st := []) (mX0_lengthOut z.1 hr) (md qX0_wayOut_ok) qX0_lengthOut_ok hz lkX0_84 rfl 3 0 (by decide +kernel) rfl rfl rfl rfl ?_
        show Aw z 30 [some (.inr 3), some (.inl x1), some (.inl x2), some (.inl v2), some (.inl v3)] [.inl r4] M
        refine ite_elim h (fun hc h => ?_) (fun hc h => ?_)
        · refine a_run (md qX0_wayOut_ok) hz 2 [0] (pc' := 34) (lv' := [some (.inr 3), some (.inl x1), some (.inl x2), some (.inl v2), some (.inl v3)]) (st' := []) (M' := M) (P := (¬ ¬ r4 = v2) ∧ True) rfl ⟨fun h9 => h9 hc, trivial⟩ ?_
          refine a_run (md qX0_wayOut_ok) hz 1 [] (pc' := 36) (lv' := [some (.inr 3), some (.inl x1), some (.inl x2), some (.inl v2), some (.inl v3)]) (st' := [.inl v3]) (M' := M) (P := True) rfl trivial ?_
          exact a_ri (md qX0_wayOut_ok) hz hR rfl (Or.inl rfl) h
        · refine a_run (md qX0_wayOut_ok) hz 2 [1] (pc' := 37) (lv' := [some (.inr 3), some (.inl x1), some (.inl x2), some (.inl v2), some (.inl v3)]) (st' := []) (M' := M) (P := (¬ r4 = v2) ∧ True) rfl ⟨hc, trivial⟩ ?_
          obtain ⟨h5, h⟩ := gd_elim h
          refine a_run (md qX0_wayOut_ok) hz 2 [] (pc' := 10) (lv' := [some (.inr 3), some (.inl x1), some (.inl x2), some (.inl v2), some (.inl (v3 + (1 : Int)))]) (st' := []) (M' := M) (P := (inR (v3 + (1 : Int))) ∧ True) rfl ⟨h5, trivial⟩ ?_
          refine a_mask [true, true, true, true, true] ?_
          exact ih v2 (v3 + (1 : Int)) h
set_option maxRecDepth 100000 in
theorem mX0_wayOut (g : Gx) {M : Mm} {x1 : Int} {x2 : Int} {r : Int} (h : fX0_wayOut M x1 x2 = some r) : Ct g qX0_wayOut [.inr 3, .inl x1, .inl x2] M (fun r' M' => r' = some r ∧ M' = M) := by
  refine c_ofP h qX0_wayOut_ok (Nat.le_of_ble_eq_true rfl) (fun z hz Q hR h => ?_)
  unfold fX0_wayOut at h
  show Aw z 0 [some (.inr 3), some (.inl x1), some (.inl x2), none, none] [] M
  refine a_run (md qX0_wayOut_ok) hz 3 [] (pc' := 3) (lv' := [some (.inr 3), some (.inl x1), some (.inl x2), none, none]) (st' := [.inl x2, .inl x1, .inr 3]) (M' := M) (P := True) rfl trivial ?_
  obtain ⟨r1, hr, h⟩ := cal_elim h
  refine a_fV (as := [.inl x1, .inl x2]) (a := 3) (st := []) (mX0_wayLength z.1 hr) (md qX0_wayOut_ok) qX0_wayLength_ok hz lkX0_87 rfl 2 0 (by decide +kernel) rfl rfl rfl rfl ?_
  show Aw z 6 [some (.inr 3), some (.inl x1), some (.inl x2), none, none] [.inl r1] M
  refine a_run (md qX0_wayOut_ok) hz 3 [] (pc' := 10) (lv' := [some (.inr 3), some (.inl x1), some (.inl x2), some (.inl r1), some (.inl (0 : Int))]) (st' := []) (M' := M) (P := True) rfl trivial ?_
  refine a_mask [true, true, true, true, true] ?_
  refine mX0_wayOut_L10 hz hR  1000 r1 (0 : Int) h
def fX0_leadsFrom (M : Mm) (x1 : Int) (x2 : Int) : Option (Int) := gd ((0 ≤ x1 ∧ x1 < 20)) (if (M 6 x1.toNat) = x2 then gd ((0 ≤ x1 ∧ x1 < 20)) (some (M 7 x1.toNat)) else jn (some (-6 : Int)) (fun (K1 : Option (Int)) => gd ((0 ≤ x1 ∧ x1 < 20)) (if (M 7 x1.toNat) = x2 then gd ((0 ≤ x1 ∧ x1 < 20)) (if (M 8 x1.toNat) = 0 then gd ((0 ≤ x1 ∧ x1 < 20)) (some (M 6 x1.toNat)) else K1) else K1)))
set_option maxRecDepth 100000 in
theorem mX0_leadsFrom (g : Gx) {M : Mm} {x1 : Int} {x2 : Int} {r : Int} (h : fX0_leadsFrom M x1 x2 = some r) : Ct g qX0_leadsFrom [.inr 3, .inl x1, .inl x2] M (fun r' M' => r' = some r ∧ M' = M) := by
  refine c_ofP h qX0_leadsFrom_ok (Nat.le_of_ble_eq_true rfl) (fun z hz Q hR h => ?_)
  unfold fX0_leadsFrom at h
  show Aw z 0 [some (.inr 3), some (.inl x1), some (.inl x2)] [] M
  obtain ⟨h6, h⟩ := gd_elim h
  refine ite_elim h (fun hc h => ?_) (fun hc h => ?_)
  · refine a_run (md qX0_leadsFrom_ok) hz 6 [0] (pc' := 10) (lv' := [some (.inr 3), some (.inl x1), some (.inl x2)]) (st' := []) (M' := M) (P := (0 ≤ x1 ∧ x1 < 20) ∧ (¬ ¬ (M 6 x1.toNat) = x2) ∧ True) rfl ⟨h6, fun h9 => h9 hc, trivial⟩ ?_
    obtain ⟨h5, h⟩ := gd_elim h
    refine a_run (md qX0_leadsFrom_ok) hz 4 [] (pc' := 16) (lv' := [some (.inr 3), some (.inl x1), some (.inl x2)]) (st' := [.inl (M 7 x1.toNat)]) (M' := M) (P := (0 ≤ x1 ∧ x1 < 20) ∧ True) rfl ⟨h5, trivial⟩ ?_
    exact a_ri (md qX0_leadsFrom_ok) hz hR rfl (Or.inl rfl) h
  · refine a_run (md qX0_leadsFrom_ok) hz 6 [1] (pc' := 17) (lv' := [some (.inr 3), some (.inl x1), some (.inl x2)]) (st' := []) (M' := M) (P := (0 ≤ x1 ∧ x1 < 20) ∧ (¬ (M 6 x1.toNat) = x2) ∧ True) rfl ⟨h6, hc, trivial⟩ ?_
    refine jn_elim h (fun (K1 : Option (Int)) => OK (K1) (fun r2 => Q (some r2) M) → Aw z 45 [none, none, none] [] M) (fun h => ?_) (fun K1 hK1 h => ?_)
    · refine a_run (md qX0_leadsFrom_ok) hz 1 [] (pc' := 47) (lv' := [none, none, none]) (st' := [.inl (-6 : Int)]) (M' := M) (P := True) rfl trivial ?_
      exact a_ri (md qX0_leadsFrom_ok) hz hR rfl (Or.inl rfl) h
    · obtain ⟨h4, h⟩ := gd_elim h
      refine ite_elim h (fun hc h => ?_) (fun hc h => ?_)
      · refine a_run (md qX0_leadsFrom_ok) hz 6 [0] (pc' := 27) (lv' := [some (.inr 3), some (.inl x1), some (.inl x2)]) (st' := []) (M' := M) (P := (0 ≤ x1 ∧ x1 < 20) ∧ (¬ ¬ (M 7 x1.toNat) = x2) ∧ True) rfl ⟨h4, fun h9 => h9 hc, trivial⟩ ?_
        obtain ⟨h3, h⟩ := gd_elim h
        refine ite_elim h (fun hc h => ?_) (fun hc h => ?_)
        · refine a_run (md qX0_leadsFrom_ok) hz 5 [0] (pc' := 36) (lv' := [some (.inr 3), some (.inl x1), some (.inl x2)]) (st' := []) (M' := M) (P := (0 ≤ x1 ∧ x1 < 20) ∧ (¬ ¬ (M 8 x1.toNat) = 0) ∧ True) rfl ⟨h3, fun h9 => h9 hc, trivial⟩ ?_
          obtain ⟨h2, h⟩ := gd_elim h
          refine a_run (md qX0_leadsFrom_ok) hz 5 [] (pc' := 47) (lv' := [some (.inr 3), some (.inl x1), some (.inl x2)]) (st' := [.inl (M 6 x1.toNat)]) (M' := M) (P := (0 ≤ x1 ∧ x1 < 20) ∧ True) rfl ⟨h2, trivial⟩ ?_
          exact a_ri (md qX0_leadsFrom_ok) hz hR rfl (Or.inl rfl) h
        · refine a_run (md qX0_leadsFrom_ok) hz 5 [1] (pc' := 45) (lv' := [some (.inr 3), some (.inl x1), some (.inl x2)]) (st' := []) (M' := M) (P := (0 ≤ x1 ∧ x1 < 20) ∧ (¬ (M 8 x1.toNat) = 0) ∧ True) rfl ⟨h3, hc, trivial⟩ ?_
          refine a_mask [false, false, false] ?_
          exact hK1  h
      · refine a_run (md qX0_leadsFrom_ok) hz 6 [1] (pc' := 45) (lv' := [some (.inr 3), some (.inl x1), some (.inl x2)]) (st' := []) (M' := M) (P := (0 ≤ x1 ∧ x1 < 20) ∧ (¬ (M 7 x1.toNat) = x2) ∧ True) rfl ⟨h4, hc, trivial⟩ ?_
        refine a_mask [false, false, false] ?_
        exact hK1  h
def fX0_nextCrossing_L14 (x1 : Int) (x2 : Int) (M : Mm) : Nat → Int → Int → Int → Option (Int)
  | 0, _, _, _ => none
  | n + 1, v2, v3, v4 => if v3 = (-6 : Int) then some v2 else if (M 3 1) ≤ v4 then some v2 else jn (fun (v5 : Int) (v6 : Int) (v7 : Int) => gd ((inR (v7 + (1 : Int)))) (fX0_nextCrossing_L14 x1 x2 M n v5 v6 (v7 + (1 : Int)))) (fun (K8 : Int → Int → Int → Option (Int)) => cal (fX0_leadsFrom M v4 x1) (fun (r10 : Int) => cal (fX0_leastBetween M r10 x2) (fun (r11 : Int) => if r11 = (-6 : Int) then K8 v2 v3 v4 else gd ((0 ≤ v4 ∧ v4 < 20) ∧ (inR ((M 9 v4.toNat) + r11))) (if ((M 9 v4.toNat) + r11) = v3 then jn (fun (v12 : Int) (v13 : Int) (v14 : Int) => K8 v14 v12 v13) (fun (K15 : Int → Int → Int → Option (Int)) => if v2 = (-6 : Int) then K15 v3 v4 r10 else if v2 ≤ r10 then K8 v2 v3 v4 else K15 v3 v4 r10) else K8 v2 v3 v4))))
def fX0_nextCrossing (M : Mm) (x1 : Int) (x2 : Int) : Option (Int) := cal (fX0_leastBetween M x1 x2) (fun (r1 : Int) => fX0_nextCrossing_L14 x1 x2 M 1000 (-6 : Int) r1 (0 : Int))
set_option maxRecDepth 100000 in
theorem mX0_nextCrossing_L14 {z : Zx} (hz : Cx qX0_nextCrossing z) {Q : Option Int → Mm → Prop} (hR : Rt Q z) {x1 : Int} {x2 : Int} {M : Mm} : ∀ (n : Nat) (v2 : Int) (v3 : Int) (v4 : Int), OK (fX0_nextCrossing_L14 x1 x2 M n v2 v3 v4) (fun r2 => Q (some r2) M) → Aw z 14 [some (.inr 3), some (.inl x1), some (.inl x2), some (.inl v2), some (.inl v3), some (.inl v4), none, none] [] M := by
  intro n
  induction n with
  | zero =>
    intro v2 v3 v4 h
    exact (show False from h).elim
  | succ n ih =>
    intro v2 v3 v4 h
    unfold fX0_nextCrossing_L14 at h
    refine ite_elim h (fun hc h => ?_) (fun hc h => ?_)
    · refine a_run (md qX0_nextCrossing_ok) hz 3 [1] (pc' := 91) (lv' := [some (.inr 3), some (.inl x1), some (.inl x2), some (.inl v2), some (.inl v3), some (.inl v4), none, none]) (st' := []) (M' := M) (P := (v3 = (-6 : Int)) ∧ True) rfl ⟨hc, trivial⟩ ?_
      refine a_run (md qX0_nextCrossing_ok) hz 1 [] (pc' := 92) (lv' := [some (.inr 3), some (.inl x1), some (.inl x2), some (.inl v2), some (.inl v3), some (.inl v4), none, none]) (st' := [.inl v2]) (M' := M) (P := True) rfl trivial ?_
      exact a_ri (md qX0_nextCrossing_ok) hz hR rfl (Or.inl rfl) h
    · refine a_run (md qX0_nextCrossing_ok) hz 3 [0] (pc' := 21) (lv' := [some (.inr 3), some (.inl x1), some (.inl x2), some (.inl v2), some (.inl v3), some (.inl v4), none, none]) (st' := []) (M' := M) (P := (¬ (v3 = (-6 : Int))) ∧ True) rfl ⟨hc, trivial⟩ ?_
      refine ite_elim h (fun hc h => ?_) (fun hc h => ?_)
      · refine a_run (md qX0_nextCrossing_ok) hz 4 [1] (pc' := 91) (lv' := [some (.inr 3), some (.inl x1), some (.inl x2), some (.inl v2), some (.inl v3), some (.inl v4), none, none]) (st' := []) (M' := M) (P := ((M 3 1) ≤ v4) ∧ True) rfl ⟨hc, trivial⟩ ?_
        refine a_run (md qX0_nextCrossing_ok) hz 1 [] (pc' := 92) (lv' := [some (.inr 3), some (.inl x1), some (.inl x2), some (.inl v2), some (.inl v3), some (.inl v4), none, none]) (st' := [.inl v2]) (M' := M) (P := True) rfl trivial ?_
        exact a_ri (md qX0_nextCrossing_ok) hz hR rfl (Or.inl rfl) h
      · refine a_run (md qX0_nextCrossing_ok) hz 4 [0] (pc' := 30) (lv' := [some (.inr 3), some (.inl x1), some (.inl x2), some (.inl v2), some (.inl v3), some (.inl v4), none, none]) (st' := []) (M' := M) (P := (¬ ((M 3 1) ≤ v4)) ∧ True) rfl ⟨hc, trivial⟩ ?_
        refine jn_elim h (fun (K8 : Int → Int → Int → Option (Int)) => ∀ (v5 : Int), ∀ (v6 : Int), ∀ (v7 : Int), OK (K8 v5 v6 v7) (fun r2 => Q (some r2) M) → Aw z 85 [some (.inr 3), some (.inl x1), some (.inl x2), some (.inl v5), some (.inl v6), some (.inl v7), none, none] [] M) (fun v5 v6 v7 h => ?_) (fun K8 hK8 h => ?_)
        · obtain ⟨h9, h⟩ := gd_elim h
          refine a_run (md qX0_nextCrossing_ok) hz 2 [] (pc' := 14) (lv' := [some (.inr 3), some (.inl x1), some (.inl x2), some (.inl v5), some (.inl v6), some (.inl (v7 + (1 : Int))), none, none]) (st' := []) (M' := M) (P := (inR (v7 + (1 : Int))) ∧ True) rfl ⟨h9, trivial⟩ ?_
          refine a_mask [true, true, true, true, true, true, false, false] ?_
          exact ih v5 v6 (v7 + (1 : Int)) h
        · refine a_run (md qX0_nextCrossing_ok) hz 3 [] (pc' := 34) (lv' := [some (.inr 3), some (.inl x1), some (.inl x2), some (.inl v2), some (.inl v3), some (.inl v4), none, none]) (st' := [.inl x1, .inl v4, .inr 3]) (M' := M) (P := True) rfl trivial ?_
          obtain ⟨r10, hr, h⟩ := cal_elim h
          refine a_fV (as := [.inl v4, .inl x1]) (a := 3) (st := []) (mX0_leadsFrom z.1 hr) (md qX0_nextCrossing_ok) qX0_leadsFrom_ok hz lkX0_118 rfl 2 0 (by decide +kernel) rfl rfl rfl rfl ?_
          show Aw z 37 [some (.inr 3), some (.inl x1), some (.inl x2), some (.inl v2), some (.inl v3), some (.inl v4), none, none] [.inl r10] M
          refine a_run (md qX0_nextCrossing_ok) hz 4 [] (pc' := 43) (lv' := [some (.inr 3), some (.inl x1), some (.inl x2), some (.inl v2), some (.inl v3), some (.inl v4), some (.inl r10), none]) (st' := [.inl x2, .inl r10, .inr 3]) (M' := M) (P := True) rfl trivial ?_
          obtain ⟨r11, hr, h⟩ := cal_elim h
          refine a_fV (as := [.inl r10, .inl x2]) (a := 3) (st := []) (mX0_leastBetween z.1 hr) (md qX0_nextCrossing_ok) qX0_leastBetween_ok hz lkX0_115 rfl 2 0 (by decide +kernel) rfl rfl rfl rfl ?_
          show Aw z 46 [some (.inr 3), some (.inl x1), some (.inl x2), some (.inl v2), some (.inl v3), some (.inl v4), some (.inl r10), none] [.inl r11] M
          refine ite_elim h (fun hc h => ?_) (fun hc h => ?_)
          · refine a_run (md qX0_nextCrossing_ok) hz 4 [1] (pc' := 85) (lv' := [some (.inr 3), some (.inl x1), some (.inl x2), some (.inl v2), some (.inl v3), some (.inl v4), some (.inl r10), some (.inl r11)]) (st' := []) (M' := M) (P := (r11 = (-6 : Int)) ∧ True) rfl ⟨hc, trivial⟩ ?_
            refine a_mask [true, true, true, true, true, true, false, false] ?_
            exact hK8 v2 v3 v4 h
          · refine a_run (md qX0_nextCrossing_ok) hz 4 [0] (pc' := 55) (lv' := [some (.inr 3), some (.inl x1), some (.inl x2), some (.inl v2), some (.inl v3), some (.inl v4), some (.inl r10), some (.inl r11)]) (st' := []) (M' := M) (P := (¬ (r11 = (-6 : Int))) ∧ True) rfl ⟨hc, trivial⟩ ?_
            obtain ⟨⟨h16, h17⟩, h⟩ := gd_elim h
            refine ite_elim h (fun hc h => ?_) (fun hc h => ?_)
            · refine a_run (md qX0_nextCrossing_ok) hz 8 [0] (pc' := 70) (lv' := [some (.inr 3), some (.inl x1), some (.inl x2), some (.inl v2), some (.inl v3), some (.inl v4), some (.inl r10), some (.inl r11)]) (st' := []) (M' := M) (P := (0 ≤ v4 ∧ v4 < 20) ∧ (inR ((M 9 v4.toNat) + r11)) ∧ (¬ ¬ ((M 9 v4.toNat) + r11) = v3) ∧ True) rfl ⟨h16, h17, fun h9 => h9 hc, trivial⟩ ?_
              refine jn_elim h (fun (K15 : Int → Int → Int → Option (Int)) => ∀ (v12 : Int), ∀ (v13 : Int), ∀ (v14 : Int), OK (K15 v12 v13 v14) (fun r2 => Q (some r2) M) → Aw z 82 [some (.inr 3), some (.inl x1), some (.inl x2), none, some (.inl v12), some (.inl v13), some (.inl v14), none] [] M) (fun v12 v13 v14 h => ?_) (fun K15 hK15 h => ?_)
              · refine a_run (md qX0_nextCrossing_ok) hz 2 [] (pc' := 85) (lv' := [some (.inr 3), some (.inl x1), some (.inl x2), some (.inl v14), some (.inl v12), some (.inl v13), some (.inl v14), none]) (st' := []) (M' := M) (P := True) rfl trivial ?_
                refine a_mask [true, true, true, true, true, true, false, false] ?_
                exact hK8 v14 v12 v13 h
              · refine ite_elim h (fun hc h => ?_) (fun hc h => ?_)
                · refine a_run (md qX0_nextCrossing_ok) hz 3 [1] (pc' := 82) (lv' := [some (.inr 3), some (.inl x1), some (.inl x2), some (.inl v2), some (.inl v3), some (.inl v4), some (.inl r10), some (.inl r11)]) (st' := []) (M' := M) (P := (v2 = (-6 : Int)) ∧ True) rfl ⟨hc, trivial⟩ ?_
                  refine a_mask [true, true, true, false, true, true, true, false] ?_
                  exact hK15 v3 v4 r10 h
                · refine a_run (md qX0_nextCrossing_ok) hz 3 [0] (pc' := 76) (lv' := [some (.inr 3), some (.inl x1), some (.inl x2), some (.inl v2), some (.inl v3), some (.inl v4), some (.inl r10), some (.inl r11)]) (st' := []) (M' := M) (P := (¬ (v2 = (-6 : Int))) ∧ True) rfl ⟨hc, trivial⟩ ?_
                  refine ite_elim h (fun hc h => ?_) (fun hc h => ?_)
                  · refine a_run (md qX0_nextCrossing_ok) hz 3 [1] (pc' := 85) (lv' := [some (.inr 3), some (.inl x1), some (.inl x2), some (.inl v2), some (.inl v3), some (.inl v4), some (.inl r10), some (.inl r11)]) (st' := []) (M' := M) (P := (v2 ≤ r10) ∧ True) rfl ⟨hc, trivial⟩ ?_
                    refine a_mask [true, true, true, true, true, true, false, false] ?_
                    exact hK8 v2 v3 v4 h
                  · refine a_run (md qX0_nextCrossing_ok) hz 3 [0] (pc' := 82) (lv' := [some (.inr 3), some (.inl x1), some (.inl x2), some (.inl v2), some (.inl v3), some (.inl v4), some (.inl r10), some (.inl r11)]) (st' := []) (M' := M) (P := (¬ (v2 ≤ r10)) ∧ True) rfl ⟨hc, trivial⟩ ?_
                    refine a_mask [true, true, true, false, true, true, true, false] ?_
                    exact hK15 v3 v4 r10 h
            · refine a_run (md qX0_nextCrossing_ok) hz 8 [1] (pc' := 85) (lv' := [some (.inr 3), some (.inl x1), some (.inl x2), some (.inl v2), some (.inl v3), some (.inl v4), some (.inl r10), some (.inl r11)]) (st' := []) (M' := M) (P := (0 ≤ v4 ∧ v4 < 20) ∧ (inR ((M 9 v4.toNat) + r11)) ∧ (¬ ((M 9 v4.toNat) + r11) = v3) ∧ True) rfl ⟨h16, h17, hc, trivial⟩ ?_
              refine a_mask [true, true, true, true, true, true, false, false] ?_
              exact hK8 v2 v3 v4 h
set_option maxRecDepth 100000 in
theorem mX0_nextCrossing (g : Gx) {M : Mm} {x1 : Int} {x2 : Int} {r : Int} (h : fX0_nextCrossing M x1 x2 = some r) : Ct g qX0_nextCrossing [.inr 3, .inl x1, .inl x2] M (fun r' M' => r' = some r ∧ M' = M) := by
  refine c_ofP h qX0_nextCrossing_ok (Nat.le_of_ble_eq_true rfl) (fun z hz Q hR h => ?_)
  unfold fX0_nextCrossing at h
  show Aw z 0 [some (.inr 3), some (.inl x1), some (.inl x2), none, none, none, none, none] [] M
  refine a_run (md qX0_nextCrossing_ok) hz 5 [] (pc' := 6) (lv' := [some (.inr 3), some (.inl x1), some (.inl x2), some (.inl (-6 : Int)), none, none, none, none]) (st' := [.inl x2, .inl x1, .inr 3]) (M' := M) (P := True) rfl trivial ?_
  obtain ⟨r1, hr, h⟩ := cal_elim h
  refine a_fV (as := [.inl x1, .inl x2]) (a := 3) (st := []) (mX0_leastBetween z.1 hr) (md qX0_nextCrossing_ok) qX0_leastBetween_ok hz lkX0_115 rfl 2 0 (by decide +kernel) rfl rfl rfl rfl ?_
  show Aw z 9 [some (.inr 3), some (.inl x1), some (.inl x2), some (.inl (-6 : Int)), none, none, none, none] [.inl r1] M
  refine a_run (md qX0_nextCrossing_ok) hz 3 [] (pc' := 14) (lv' := [some (.inr 3), some (.inl x1), some (.inl x2), some (.inl (-6 : Int)), some (.inl r1), some (.inl (0 : Int)), none, none]) (st' := []) (M' := M) (P := True) rfl trivial ?_
  refine a_mask [true, true, true, true, true, true, false, false] ?_
  refine mX0_nextCrossing_L14 hz hR  1000 (-6 : Int) r1 (0 : Int) h
def fX0_crossingOnWay_L54 (x1 : Int) (x2 : Int) (x3 : Int) (M : Mm) : Nat → Int → Int → Int → Option (Int)
  | 0, _, _, _ => none
  | n + 1, v6, v7, v8 => if x3 ≤ v8 then some v6 else if (12 : Int) ≤ v8 then some v6 else if v6 = v7 then some (-6 : Int) else cal (fX0_nextCrossing M v6 v7) (fun (r9 : Int) => gd ((inR (v8 + (1 : Int)))) (fX0_crossingOnWay_L54 x1 x2 x3 M n r9 v7 (v8 + (1 : Int))))
def fX0_crossingOnWay (M : Mm) (x1 : Int) (x2 : Int) (x3 : Int) : Option (Int) := cal (fX0_wayOut M x1 x2) (fun (r1 : Int) => if r1 = (-6 : Int) then some (-6 : Int) else if r1 = 0 then some (-6 : Int) else if 0 ≤ x3 then cal (fX0_leavesByLast M r1) (fun (r2 : Int) => cal (fX0_endOf M x1 r2) (fun (r3 : Int) => cal (fX0_comesByLast M r1) (fun (r4 : Int) => cal (fX0_endOf M x2 r4) (fun (r5 : Int) => fX0_crossingOnWay_L54 x1 x2 x3 M 1000 r3 r5 (0 : Int))))) else some (-6 : Int))
set_option maxRecDepth 100000 in
theorem mX0_crossingOnWay_L54 {z : Zx} (hz : Cx qX0_crossingOnWay z) {Q : Option Int → Mm → Prop} (hR : Rt Q z) {x1 : Int} {x2 : Int} {x3 : Int} {M : Mm} : ∀ (n : Nat) (v6 : Int) (v7 : Int) (v8 : Int), OK (fX0_crossingOnWay_L54 x1 x2 x3 M n v6 v7 v8) (fun r2 => Q (some r2) M) → Aw z 54 [some (.inr 3), none, none, some (.inl x3), none, some (.inl v6), some (.inl v7), some (.inl v8)] [] M := by
  intro n
  induction n with
  | zero =>
    intro v6 v7 v8 h
    exact (show False from h).elim
  | succ n ih =>
    intro v6 v7 v8 h
    unfold fX0_crossingOnWay_L54 at h
    refine ite_elim h (fun hc h => ?_) (fun hc h => ?_)
    · refine a_run (md qX0_crossingOnWay_ok) hz 3 [1] (pc' := 93) (lv' := [some (.inr 3), none, none, some (.inl x3), none, some (.inl v6), some (.inl v7), some (.inl v8)]) (st' := []) (M' := M) (P := (x3 ≤ v8) ∧ True) rfl ⟨hc, trivial⟩ ?_
      refine a_run (md qX0_crossingOnWay_ok) hz 1 [] (pc' := 95) (lv' := [some (.inr 3), none, none, some (.inl x3), none, some (.inl v6), some (.inl v7), some (.inl v8)]) (st' := [.inl v6]) (M' := M) (P := True) rfl trivial ?_
      exact a_ri (md qX0_crossingOnWay_ok) hz hR rfl (Or.inl rfl) h
    · refine a_run (md qX0_crossingOnWay_ok) hz 3 [0] (pc' := 60) (lv' := [some (.inr 3), none, none, some (.inl x3), none, some (.inl v6), some (.inl v7), some (.inl v8)]) (st' := []) (M' := M) (P := (¬ (x3 ≤ v8)) ∧ True) rfl ⟨hc, trivial⟩ ?_
      refine ite_elim h (fun hc h => ?_) (fun hc h => ?_)
      · refine a_run (md qX0_crossingOnWay_ok) hz 3 [1] (pc' := 93) (lv' := [some (.inr 3), none, none, some (.inl x3), none, some (.inl v6), some (.inl v7), some (.inl v8)]) (st' := []) (M' := M) (P := ((12 : Int) ≤ v8) ∧ True) rfl ⟨hc, trivial⟩ ?_
        refine a_run (md qX0_crossingOnWay_ok) hz 1 [] (pc' := 95) (lv' := [some (.inr 3), none, none, some (.inl x3), none, some (.inl v6), some (.inl v7), some (.inl v8)]) (st' := [.inl v6]) (M' := M) (P := True) rfl trivial ?_
        exact a_ri (md qX0_crossingOnWay_ok) hz hR rfl (Or.inl rfl) h
      · refine a_run (md qX0_crossingOnWay_ok) hz 3 [0] (pc' := 67) (lv' := [some (.inr 3), none, none, some (.inl x3), none, some (.inl v6), some (.inl v7), some (.inl v8)]) (st' := []) (M' := M) (P := (¬ ((12 : Int) ≤ v8)) ∧ True) rfl ⟨hc, trivial⟩ ?_
        refine ite_elim h (fun hc h => ?_) (fun hc h => ?_)
        · refine a_run (md qX0_crossingOnWay_ok) hz 3 [0] (pc' := 74) (lv' := [some (.inr 3), none, none, some (.inl x3), none, some (.inl v6), some (.inl v7), some (.inl v8)]) (st' := []) (M' := M) (P := (¬ ¬ v6 = v7) ∧ True) rfl ⟨fun h9 => h9 hc, trivial⟩ ?_
          refine a_run (md qX0_crossingOnWay_ok) hz 1 [] (pc' := 76) (lv' := [some (.inr 3), none, none, some (.inl x3), none, some (.inl v6), some (.inl v7), some (.inl v8)]) (st' := [.inl (-6 : Int)]) (M' := M) (P := True) rfl trivial ?_
          exact a_ri (md qX0_crossingOnWay_ok) hz hR rfl (Or.inl rfl) h
        · refine a_run (md qX0_crossingOnWay_ok) hz 3 [1] (pc' := 77) (lv' := [some (.inr 3), none, none, some (.inl x3), none, some (.inl v6), some (.inl v7), some (.inl v8)]) (st' := []) (M' := M) (P := (¬ v6 = v7) ∧ True) rfl ⟨hc, trivial⟩ ?_
          refine a_run (md qX0_crossingOnWay_ok) hz 3 [] (pc' := 82) (lv' := [some (.inr 3), none, none, some (.inl x3), none, some (.inl v6), some (.inl v7), some (.inl v8)]) (st' := [.inl v7, .inl v6, .inr 3]) (M' := M) (P := True) rfl trivial ?_
          obtain ⟨r9, hr, h⟩ := cal_elim h
          refine a_fV (as := [.inl v6, .inl v7]) (a := 3) (st := []) (mX0_nextCrossing z.1 hr) (md qX0_crossingOnWay_ok) qX0_nextCrossing_ok hz lkX0_112 rfl 2 0 (by decide +kernel) rfl rfl rfl rfl ?_
          show Aw z 85 [some (.inr 3), none, none, some (.inl x3), none, some (.inl v6), some (.inl v7), some (.inl v8)] [.inl r9] M
          obtain ⟨h10, h⟩ := gd_elim h
          refine a_run (md qX0_crossingOnWay_ok) hz 3 [] (pc' := 54) (lv' := [some (.inr 3), none, none, some (.inl x3), none, some (.inl r9), some (.inl v7), some (.inl (v8 + (1 : Int)))]) (st' := []) (M' := M) (P := (inR (v8 + (1 : Int))) ∧ True) rfl ⟨h10, trivial⟩ ?_
          refine a_mask [true, false, false, true, false, true, true, true] ?_
          exact ih r9 v7 (v8 + (1 : Int)) h
set_option maxRecDepth 100000 in
theorem mX0_crossingOnWay (g : Gx) {M : Mm} {x1 : Int} {x2 : Int} {x3 : Int} {r : Int} (h : fX0_crossingOnWay M x1 x2 x3 = some r) : Ct g qX0_crossingOnWay [.inr 3, .inl x1, .inl x2, .inl x3] M (fun r' M' => r' = some r ∧ M' = M) := by
  refine c_ofP h qX0_crossingOnWay_ok (Nat.le_of_ble_eq_true rfl) (fun z hz Q hR h => ?_)
  unfold fX0_crossingOnWay at h
  show Aw z 0 [some (.inr 3), some (.inl x1), some (.inl x2), some (.inl x3), none, none, none, none] [] M
  refine a_run (md qX0_crossingOnWay_ok) hz 3 [] (pc' := 3) (lv' := [some (.inr 3), some (.inl x1), some (.inl x2), some (.inl x3), none, none, none, none]) (st' := [.inl x2, .inl x1, .inr 3]) (M' := M) (P := True) rfl trivial ?_
  obtain ⟨r1, hr, h⟩ := cal_elim h
  refine a_fV (as := [.inl x1, .inl x2]) (a := 3) (st := []) (mX0_wayOut z.1 hr) (md qX0_crossingOnWay_ok) qX0_wayOut_ok hz lkX0_109 rfl 2 0 (by decide +kernel) rfl rfl rfl rfl ?_
  show Aw z 6 [some (.inr 3), some (.inl x1), some (.inl x2), some (.inl x3), none, none, none, none] [.inl r1] M
  refine ite_elim h (fun hc h => ?_) (fun hc h => ?_)
  · refine a_run (md qX0_crossingOnWay_ok) hz 4 [1] (pc' := 24) (lv' := [some (.inr 3), some (.inl x1), some (.inl x2), some (.inl x3), some (.inl r1), none, none, none]) (st' := []) (M' := M) (P := (r1 = (-6 : Int)) ∧ True) rfl ⟨hc, trivial⟩ ?_
    refine a_run (md qX0_crossingOnWay_ok) hz 1 [] (pc' := 26) (lv' := [some (.inr 3), some (.inl x1), some (.inl x2), some (.inl x3), some (.inl r1), none, none, none]) (st' := [.inl (-6 : Int)]) (M' := M) (P := True) rfl trivial ?_
    exact a_ri (md qX0_crossingOnWay_ok) hz hR rfl (Or.inl rfl) h
  · refine a_run (md qX0_crossingOnWay_ok) hz 4 [0] (pc' := 15) (lv' := [some (.inr 3), some (.inl x1), some (.inl x2), some (.inl x3), some (.inl r1), none, none, none]) (st' := []) (M' := M) (P := (¬ (r1 = (-6 : Int))) ∧ True) rfl ⟨hc, trivial⟩ ?_
    refine ite_elim h (fun hc h => ?_) (fun hc h => ?_)
    · refine a_run (md qX0_crossingOnWay_ok) hz 2 [1] (pc' := 24) (lv' := [some (.inr 3), some (.inl x1), some (.inl x2), some (.inl x3), some (.inl r1), none, none, none]) (st' := []) (M' := M) (P := (r1 = 0) ∧ True) rfl ⟨hc, trivial⟩ ?_
      refine a_run (md qX0_crossingOnWay_ok) hz 1 [] (pc' := 26) (lv' := [some (.inr 3), some (.inl x1), some (.inl x2), some (.inl x3), some (.inl r1), none, none, none]) (st' := [.inl (-6 : Int)]) (M' := M) (P := True) rfl trivial ?_
      exact a_ri (md qX0_crossingOnWay_ok) hz hR rfl (Or.inl rfl) h
    · refine a_run (md qX0_crossingOnWay_ok) hz 2 [0] (pc' := 20) (lv' := [some (.inr 3), some (.inl x1), some (.inl x2), some (.inl x3), some (.inl r1), none, none, none]) (st' := []) (M' := M) (P := (¬ (r1 = 0)) ∧ True) rfl ⟨hc, trivial⟩ ?_
      refine ite_elim h (fun hc h => ?_) (fun hc h => ?_)
      · refine a_run (md qX0_crossingOnWay_ok) hz 2 [1] (pc' := 27) (lv' := [some (.inr 3), some (.inl x1), some (.inl x2), some (.inl x3), some (.inl r1), none, none, none]) (st' := []) (M' := M) (P := (0 ≤ x3) ∧ True) rfl ⟨hc, trivial⟩ ?_
        refine a_run (md qX0_crossingOnWay_ok) hz 3 [] (pc' := 31) (lv' := [some (.inr 3), some (.inl x1), some (.inl x2), some (.inl x3), some (.inl r1), none, none, none]) (st' := [.inl r1, .inl x1, .inr 3]) (M' := M) (P := True) rfl trivial ?_
        obtain ⟨r2, hr, h⟩ := cal_elim h
        refine a_fS (as := [.inl r1]) (st := [.inl x1, .inr 3]) (mX0_leavesByLast z.1 hr) (md qX0_crossingOnWay_ok) qX0_leavesByLast_ok hz lkX0_93 rfl 1 2 (by decide +kernel) rfl rfl ?_
        show Aw z 34 [some (.inr 3), some (.inl x1), some (.inl x2), some (.inl x3), some (.inl r1), none, none, none] [.inl r2, .inl x1, .inr 3] M
        obtain ⟨r3, hr, h⟩ := cal_elim h
        refine a_fV (as := [.inl x1, .inl r2]) (a := 3) (st := []) (mX0_endOf z.1 hr) (md qX0_crossingOnWay_ok) qX0_endOf_ok hz lkX0_100 rfl 2 0 (by decide +kernel) rfl rfl rfl rfl ?_
        show Aw z 37 [some (.inr 3), some (.inl x1), some (.inl x2), some (.inl x3), some (.inl r1), none, none, none] [.inl r3] M
        refine a_run (md qX0_crossingOnWay_ok) hz 4 [] (pc' := 43) (lv' := [some (.inr 3), some (.inl x1), some (.inl x2), some (.inl x3), some (.inl r1), some (.inl r3), none, none]) (st' := [.inl r1, .inl x2, .inr 3]) (M' := M) (P := True) rfl trivial ?_
        obtain ⟨r4, hr, h⟩ := cal_elim h
        refine a_fS (as := [.inl r1]) (st := [.inl x2, .inr 3]) (mX0_comesByLast z.1 hr) (md qX0_crossingOnWay_ok) qX0_comesByLast_ok hz lkX0_103 rfl 1 2 (by decide +kernel) rfl rfl ?_
        show Aw z 46 [some (.inr 3), some (.inl x1), some (.inl x2), some (.inl x3), some (.inl r1), some (.inl r3), none, none] [.inl r4, .inl x2, .inr 3] M
        obtain ⟨r5, hr, h⟩ := cal_elim h
        refine a_fV (as := [.inl x2, .inl r4]) (a := 3) (st := []) (mX0_endOf z.1 hr) (md qX0_crossingOnWay_ok) qX0_endOf_ok hz lkX0_100 rfl 2 0 (by decide +kernel) rfl rfl rfl rfl ?_
        show Aw z 49 [some (.inr 3), some (.inl x1), some (.inl x2), some (.inl x3), some (.inl r1), some (.inl r3), none, none] [.inl r5] M
        refine a_run (md qX0_crossingOnWay_ok) hz 3 [] (pc' := 54) (lv' := [some (.inr 3), some (.inl x1), some (.inl x2), some (.inl x3), some (.inl r1), some (.inl r3), some (.inl r5), some (.inl (0 : Int))]) (st' := []) (M' := M) (P := True) rfl trivial ?_
        refine a_mask [true, false, false, true, false, true, true, true] ?_
        refine mX0_crossingOnWay_L54 hz hR  1000 r3 r5 (0 : Int) h
      · refine a_run (md qX0_crossingOnWay_ok) hz 2 [0] (pc' := 24) (lv' := [some (.inr 3), some (.inl x1), some (.inl x2), some (.inl x3), some (.inl r1), none, none, none]) (st' := []) (M' := M) (P := (¬ (0 ≤ x3)) ∧ True) rfl ⟨hc, trivial⟩ ?_
        refine a_run (md qX0_crossingOnWay_ok) hz 1 [] (pc' := 26) (lv' := [some (.inr 3), some (.inl x1), some (.inl x2), some (.inl x3), some (.inl r1), none, none, none]) (st' := [.inl (-6 : Int)]) (M' := M) (P := True) rfl trivial ?_
        exact a_ri (md qX0_crossingOnWay_ok) hz hR rfl (Or.inl rfl) h
def fX0_tellCrossing (M : Mm) (x1 : Int) : Option (Int) := cal (fX0_hasCrossing M x1) (fun (r1 : Int) => if r1 = 0 then some (-2 : Int) else gd ((0 ≤ x1 ∧ x1 < 12) ∧ (inR ((100 : Int) * (M 4 x1.toNat))) ∧ (0 ≤ x1 ∧ x1 < 12) ∧ (inR (((100 : Int) * (M 4 x1.toNat)) + (M 5 x1.toNat)))) (some (((100 : Int) * (M 4 x1.toNat)) + (M 5 x1.toNat))))
set_option maxRecDepth 100000 in
theorem mX0_tellCrossing (g : Gx) {M : Mm} {x1 : Int} {r : Int} (h : fX0_tellCrossing M x1 = some r) : Ct g qX0_tellCrossing [.inr 3, .inl x1] M (fun r' M' => r' = some r ∧ M' = M) := by
  refine c_ofP h qX0_tellCrossing_ok (Nat.le_of_ble_eq_true rfl) (fun z hz Q hR h => ?_)
  unfold fX0_tellCrossing at h
  show Aw z 0 [some (.inr 3), some (.inl x1)] [] M
  refine a_run (md qX0_tellCrossing_ok) hz 2 [] (pc' := 2) (lv' := [some (.inr 3), some (.inl x1)]) (st' := [.inl x1, .inr 3]) (M' := M) (P := True) rfl trivial ?_
  obtain ⟨r1, hr, h⟩ := cal_elim h
  refine a_fV (as := [.inl x1]) (a := 3) (st := []) (mX0_hasCrossing z.1 hr) (md qX0_tellCrossing_ok) qX0_hasCrossing_ok hz lkX0_40 rfl 1 0 (by decide +kernel) rfl rfl rfl rfl ?_
  show Aw z 5 [some (.inr 3), some (.inl x1)] [.inl r1] M
  refine ite_elim h (fun hc h => ?_) (fun hc h => ?_)
  · refine a_run (md qX0_tellCrossing_ok) hz 1 [1] (pc' := 27) (lv' := [some (.inr 3), some (.inl x1)]) (st' := []) (M' := M) (P := (r1 = 0) ∧ True) rfl ⟨hc, trivial⟩ ?_
    refine a_run (md qX0_tellCrossing_ok) hz 1 [] (pc' := 29) (lv' := [some (.inr 3), some (.inl x1)]) (st' := [.inl (-2 : Int)]) (M' := M) (P := True) rfl trivial ?_
    exact a_ri (md qX0_tellCrossing_ok) hz hR rfl (Or.inl rfl) h
  · refine a_run (md qX0_tellCrossing_ok) hz 1 [0] (pc' := 8) (lv' := [some (.inr 3), some (.inl x1)]) (st' := []) (M' := M) (P := (¬ (r1 = 0)) ∧ True) rfl ⟨hc, trivial⟩ ?_
    obtain ⟨⟨h2, h3, h4, h5⟩, h⟩ := gd_elim h
    refine a_run (md qX0_tellCrossing_ok) hz 12 [] (pc' := 29) (lv' := [some (.inr 3), some (.inl x1)]) (st' := [.inl (((100 : Int) * (M 4 x1.toNat)) + (M 5 x1.toNat))]) (M' := M) (P := (0 ≤ x1 ∧ x1 < 12) ∧ (inR ((100 : Int) * (M 4 x1.toNat))) ∧ (0 ≤ x1 ∧ x1 < 12) ∧ (inR (((100 : Int) * (M 4 x1.toNat)) + (M 5 x1.toNat))) ∧ True) rfl ⟨h2, h3, h4, h5, trivial⟩ ?_
    exact a_ri (md qX0_tellCrossing_ok) hz hR rfl (Or.inl rfl) h
def fX0_tellRoad (M : Mm) (x1 : Int) : Option (Int) := cal (fX0_hasRoad M x1) (fun (r1 : Int) => if r1 = 0 then some (-2 : Int) else gd ((0 ≤ x1 ∧ x1 < 20) ∧ (inR ((1000 : Int) * (M 6 x1.toNat))) ∧ (0 ≤ x1 ∧ x1 < 20) ∧ (inR ((10 : Int) * (M 7 x1.toNat))) ∧ (inR (((1000 : Int) * (M 6 x1.toNat)) + ((10 : Int) * (M 7 x1.toNat)))) ∧ (0 ≤ x1 ∧ x1 < 20) ∧ (inR ((((1000 : Int) * (M 6 x1.toNat)) + ((10 : Int) * (M 7 x1.toNat))) + (M 8 x1.toNat)))) (some ((((1000 : Int) * (M 6 x1.toNat)) + ((10 : Int) * (M 7 x1.toNat))) + (M 8 x1.toNat))))
set_option maxRecDepth 100000 in
theorem mX0_tellRoad (g : Gx) {M : Mm} {x1 : Int} {r : Int} (h : fX0_tellRoad M x1 = some r) : Ct g qX0_tellRoad [.inr 3, .inl x1] M (fun r' M' => r' = some r ∧ M' = M) := by
  refine c_ofP h qX0_tellRoad_ok (Nat.le_of_ble_eq_true rfl) (fun z hz Q hR h => ?_)
  unfold fX0_tellRoad at h
  show Aw z 0 [some (.inr 3), some (.inl x1)] [] M
  refine a_run (md qX0_tellRoad_ok) hz 2 [] (pc' := 2) (lv' := [some (.inr 3), some (.inl x1)]) (st' := [.inl x1, .inr 3]) (M' := M) (P := True) rfl trivial ?_
  obtain ⟨r1, hr, h⟩ := cal_elim h
  refine a_fV (as := [.inl x1]) (a := 3) (st := []) (mX0_hasRoad z.1 hr) (md qX0_tellRoad_ok) qX0_hasRoad_ok hz lkX0_68 rfl 1 0 (by decide +kernel) rfl rfl rfl rfl ?_
  show Aw z 5 [some (.inr 3), some (.inl x1)] [.inl r1] M
  refine ite_elim h (fun hc h => ?_) (fun hc h => ?_)
  · refine a_run (md qX0_tellRoad_ok) hz 1 [1] (pc' := 38) (lv' := [some (.inr 3), some (.inl x1)]) (st' := []) (M' := M) (P := (r1 = 0) ∧ True) rfl ⟨hc, trivial⟩ ?_
    refine a_run (md qX0_tellRoad_ok) hz 1 [] (pc' := 40) (lv' := [some (.inr 3), some (.inl x1)]) (st' := [.inl (-2 : Int)]) (M' := M) (P := True) rfl trivial ?_
    exact a_ri (md qX0_tellRoad_ok) hz hR rfl (Or.inl rfl) h
  · refine a_run (md qX0_tellRoad_ok) hz 1 [0] (pc' := 8) (lv' := [some (.inr 3), some (.inl x1)]) (st' := []) (M' := M) (P := (¬ (r1 = 0)) ∧ True) rfl ⟨hc, trivial⟩ ?_
    obtain ⟨⟨h2, h3, h4, h5, h6, h7, h8⟩, h⟩ := gd_elim h
    refine a_run (md qX0_tellRoad_ok) hz 19 [] (pc' := 40) (lv' := [some (.inr 3), some (.inl x1)]) (st' := [.inl ((((1000 : Int) * (M 6 x1.toNat)) + ((10 : Int) * (M 7 x1.toNat))) + (M 8 x1.toNat))]) (M' := M) (P := (0 ≤ x1 ∧ x1 < 20) ∧ (inR ((1000 : Int) * (M 6 x1.toNat))) ∧ (0 ≤ x1 ∧ x1 < 20) ∧ (inR ((10 : Int) * (M 7 x1.toNat))) ∧ (inR (((1000 : Int) * (M 6 x1.toNat)) + ((10 : Int) * (M 7 x1.toNat)))) ∧ (0 ≤ x1 ∧ x1 < 20) ∧ (inR ((((1000 : Int) * (M 6 x1.toNat)) + ((10 : Int) * (M 7 x1.toNat))) + (M 8 x1.toNat))) ∧ True) rfl ⟨h2, h3, h4, h5, h6, h7, h8, trivial⟩ ?_
    exact a_ri (md qX0_tellRoad_ok) hz hR rfl (Or.inl rfl) h
def fX0_copyFrom (b : Nat) (b2 : Nat) (M : Mm) : Option (Mm) := bnd (up M (b + 1) 0 (M (b2 + 1) 0)) (fun (M1 : Mm) => bnd (up M1 (b + 1) 1 (M1 (b2 + 1) 1)) (fun (M2 : Mm) => bnd (cpM M2 (b + 2) (b2 + 2) (12 : Int)) (fun (M3 : Mm) => bnd (cpM M3 (b + 3) (b2 + 3) (12 : Int)) (fun (M4 : Mm) => bnd (cpM M4 (b + 4) (b2 + 4) (20 : Int)) (fun (M5 : Mm) => bnd (cpM M5 (b + 5) (b2 + 5) (20 : Int)) (fun (M6 : Mm) => bnd (cpM M6 (b + 6) (b2 + 6) (20 : Int)) (fun (M7 : Mm) => bnd (cpM M7 (b + 7) (b2 + 7) (20 : Int)) (fun (M8 : Mm) => bnd (cpM M8 (b + 8) (b2 + 8) (144 : Int)) (fun (M9 : Mm) => some M9)))))))))
set_option maxRecDepth 100000 in
theorem mX0_copyFrom_25_2 (g : Gx) {M : Mm} {M2 : Mm} (h : fX0_copyFrom 25 2 M = some M2) : Ct g qX0_copyFrom [.inr 26, .inr 3] M (fun r' M' => r' = none ∧ M' = M2) := by
  refine c_ofV h qX0_copyFrom_ok (Nat.le_of_ble_eq_true rfl) (fun z hz Q hR h => ?_)
  unfold fX0_copyFrom at h
  show Aw z 0 [some (.inr 26), some (.inr 3)] [] M
  refine a_run (md qX0_copyFrom_ok) hz 4 [] (pc' := 8) (lv' := [some (.inr 26), some (.inr 3)]) (st' := []) (M' := (up M 26 0 (M 3 0))) (P := True) rfl trivial ?_
  refine bnd_elim (G := fun (M1 : Mm) => Aw z 8 [some (.inr 26), some (.inr 3)] [] M1) h (fun M1 h => ?_)
  refine a_run (md qX0_copyFrom_ok) hz 4 [] (pc' := 16) (lv' := [some (.inr 26), some (.inr 3)]) (st' := []) (M' := (up M1 26 1 (M1 3 1))) (P := True) rfl trivial ?_
  refine bnd_elim (G := fun (M2 : Mm) => Aw z 16 [some (.inr 26), some (.inr 3)] [] M2) h (fun M2 h => ?_)
  refine a_run (md qX0_copyFrom_ok) hz 7 [] (pc' := 28) (lv' := [some (.inr 26), some (.inr 3)]) (st' := [.inl (12 : Int), .inl (0 : Int), .inr 27, .inl (0 : Int), .inr 4]) (M' := M2) (P := True) rfl trivial ?_
  refine a_cpy (md qX0_copyFrom_ok) hz lkX0_121 rfl rfl 0 (by decide) rfl rfl ?_
  refine bnd_elim (G := fun (M3 : Mm) => Aw z 31 [some (.inr 26), some (.inr 3)] [] M3) h (fun M3 h => ?_)
  refine a_run (md qX0_copyFrom_ok) hz 7 [] (pc' := 43) (lv' := [some (.inr 26), some (.inr 3)]) (st' := [.inl (12 : Int), .inl (0 : Int), .inr 28, .inl (0 : Int), .inr 5]) (M' := M3) (P := True) rfl trivial ?_
  refine a_cpy (md qX0_copyFrom_ok) hz lkX0_121 rfl rfl 0 (by decide) rfl rfl ?_
  refine bnd_elim (G := fun (M4 : Mm) => Aw z 46 [some (.inr 26), some (.inr 3)] [] M4) h (fun M4 h => ?_)
  refine a_run (md qX0_copyFrom_ok) hz 7 [] (pc' := 58) (lv' := [some (.inr 26), some (.inr 3)]) (st' := [.inl (20 : Int), .inl (0 : Int), .inr 29, .inl (0 : Int), .inr 6]) (M' := M4) (P := True) rfl trivial ?_
  refine a_cpy (md qX0_copyFrom_ok) hz lkX0_121 rfl rfl 0 (by decide) rfl rfl ?_
  refine bnd_elim (G := fun (M5 : Mm) => Aw z 61 [some (.inr 26), some (.inr 3)] [] M5) h (fun M5 h => ?_)
  refine a_run (md qX0_copyFrom_ok) hz 7 [] (pc' := 73) (lv' := [some (.inr 26), some (.inr 3)]) (st' := [.inl (20 : Int), .inl (0 : Int), .inr 30, .inl (0 : Int), .inr 7]) (M' := M5) (P := True) rfl trivial ?_
  refine a_cpy (md qX0_copyFrom_ok) hz lkX0_121 rfl rfl 0 (by decide) rfl rfl ?_
  refine bnd_elim (G := fun (M6 : Mm) => Aw z 76 [some (.inr 26), some (.inr 3)] [] M6) h (fun M6 h => ?_)
  refine a_run (md qX0_copyFrom_ok) hz 7 [] (pc' := 88) (lv' := [some (.inr 26), some (.inr 3)]) (st' := [.inl (20 : Int), .inl (0 : Int), .inr 31, .inl (0 : Int), .inr 8]) (M' := M6) (P := True) rfl trivial ?_
  refine a_cpy (md qX0_copyFrom_ok) hz lkX0_121 rfl rfl 0 (by decide) rfl rfl ?_
  refine bnd_elim (G := fun (M7 : Mm) => Aw z 91 [some (.inr 26), some (.inr 3)] [] M7) h (fun M7 h => ?_)
  refine a_run (md qX0_copyFrom_ok) hz 7 [] (pc' := 103) (lv' := [some (.inr 26), some (.inr 3)]) (st' := [.inl (20 : Int), .inl (0 : Int), .inr 32, .inl (0 : Int), .inr 9]) (M' := M7) (P := True) rfl trivial ?_
  refine a_cpy (md qX0_copyFrom_ok) hz lkX0_121 rfl rfl 0 (by decide) rfl rfl ?_
  refine bnd_elim (G := fun (M8 : Mm) => Aw z 106 [some (.inr 26), some (.inr 3)] [] M8) h (fun M8 h => ?_)
  refine a_run (md qX0_copyFrom_ok) hz 7 [] (pc' := 119) (lv' := [some (.inr 26), some (.inr 3)]) (st' := [.inl (144 : Int), .inl (0 : Int), .inr 33, .inl (0 : Int), .inr 10]) (M' := M8) (P := True) rfl trivial ?_
  refine a_cpy (md qX0_copyFrom_ok) hz lkX0_121 rfl rfl 0 (by decide) rfl rfl ?_
  refine bnd_elim (G := fun (M9 : Mm) => Aw z 122 [some (.inr 26), some (.inr 3)] [] M9) h (fun M9 h => ?_)
  exact a_rv (md qX0_copyFrom_ok) hz hR rfl rfl h
set_option maxRecDepth 100000 in
theorem mX0_copyFrom_48_2 (g : Gx) {M : Mm} {M2 : Mm} (h : fX0_copyFrom 48 2 M = some M2) : Ct g qX0_copyFrom [.inr 49, .inr 3] M (fun r' M' => r' = none ∧ M' = M2) := by
  refine c_ofV h qX0_copyFrom_ok (Nat.le_of_ble_eq_true rfl) (fun z hz Q hR h => ?_)
  unfold fX0_copyFrom at h
  show Aw z 0 [some (.inr 49), some (.inr 3)] [] M
  refine a_run (md qX0_copyFrom_ok) hz 4 [] (pc' := 8) (lv' := [some (.inr 49), some (.inr 3)]) (st' := []) (M' := (up M 49 0 (M 3 0))) (P := True) rfl trivial ?_
  refine bnd_elim (G := fun (M1 : Mm) => Aw z 8 [some (.inr 49), some (.inr 3)] [] M1) h (fun M1 h => ?_)
  refine a_run (md qX0_copyFrom_ok) hz 4 [] (pc' := 16) (lv' := [some (.inr 49), some (.inr 3)]) (st' := []) (M' := (up M1 49 1 (M1 3 1))) (P := True) rfl trivial ?_
  refine bnd_elim (G := fun (M2 : Mm) => Aw z 16 [some (.inr 49), some (.inr 3)] [] M2) h (fun M2 h => ?_)
  refine a_run (md qX0_copyFrom_ok) hz 7 [] (pc' := 28) (lv' := [some (.inr 49), some (.inr 3)]) (st' := [.inl (12 : Int), .inl (0 : Int), .inr 50, .inl (0 : Int), .inr 4]) (M' := M2) (P := True) rfl trivial ?_
  refine a_cpy (md qX0_copyFrom_ok) hz lkX0_121 rfl rfl 0 (by decide) rfl rfl ?_
  refine bnd_elim (G := fun (M3 : Mm) => Aw z 31 [some (.inr 49), some (.inr 3)] [] M3) h (fun M3 h => ?_)
  refine a_run (md qX0_copyFrom_ok) hz 7 [] (pc' := 43) (lv' := [some (.inr 49), some (.inr 3)]) (st' := [.inl (12 : Int), .inl (0 : Int), .inr 51, .inl (0 : Int), .inr 5]) (M' := M3) (P := True) rfl trivial ?_
  refine a_cpy (md qX0_copyFrom_ok) hz lkX0_121 rfl rfl 0 (by decide) rfl rfl ?_
  refine bnd_elim (G := fun (M4 : Mm) => Aw z 46 [some (.inr 49), some (.inr 3)] [] M4) h (fun M4 h => ?_)
  refine a_run (md qX0_copyFrom_ok) hz 7 [] (pc' := 58) (lv' := [some (.inr 49), some (.inr 3)]) (st' := [.inl (20 : Int), .inl (0 : Int), .inr 52, .inl (0 : Int), .inr 6]) (M' := M4) (P := True) rfl trivial ?_
  refine a_cpy (md qX0_copyFrom_ok) hz lkX0_121 rfl rfl 0 (by decide) rfl rfl ?_
  refine bnd_elim (G := fun (M5 : Mm) => Aw z 61 [some (.inr 49), some (.inr 3)] [] M5) h (fun M5 h => ?_)
  refine a_run (md qX0_copyFrom_ok) hz 7 [] (pc' := 73) (lv' := [some (.inr 49), some (.inr 3)]) (st' := [.inl (20 : Int), .inl (0 : Int), .inr 53, .inl (0 : Int), .inr 7]) (M' := M5) (P := True) rfl trivial ?_
  refine a_cpy (md qX0_copyFrom_ok) hz lkX0_121 rfl rfl 0 (by decide) rfl rfl ?_
  refine bnd_elim (G := fun (M6 : Mm) => Aw z 76 [some (.inr 49), some (.inr 3)] [] M6) h (fun M6 h => ?_)
  refine a_run (md qX0_copyFrom_ok) hz 7 [] (pc' := 88) (lv' := [some (.inr 49), some (.inr 3)]) (st' := [.inl (20 : Int), .inl (0 : Int), .inr 54, .inl (0 : Int), .inr 8]) (M' := M6) (P := True) rfl trivial ?_
  refine a_cpy (md qX0_copyFrom_ok) hz lkX0_121 rfl rfl 0 (by decide) rfl rfl ?_
  refine bnd_elim (G := fun (M7 : Mm) => Aw z 91 [some (.inr 49), some (.inr 3)] [] M7) h (fun M7 h => ?_)
  refine a_run (md qX0_copyFrom_ok) hz 7 [] (pc' := 103) (lv' := [some (.inr 49), some (.inr 3)]) (st' := [.inl (20 : Int), .inl (0 : Int), .inr 55, .inl (0 : Int), .inr 9]) (M' := M7) (P := True) rfl trivial ?_
  refine a_cpy (md qX0_copyFrom_ok) hz lkX0_121 rfl rfl 0 (by decide) rfl rfl ?_
  refine bnd_elim (G := fun (M8 : Mm) => Aw z 106 [some (.inr 49), some (.inr 3)] [] M8) h (fun M8 h => ?_)
  refine a_run (md qX0_copyFrom_ok) hz 7 [] (pc' := 119) (lv' := [some (.inr 49), some (.inr 3)]) (st' := [.inl (144 : Int), .inl (0 : Int), .inr 56, .inl (0 : Int), .inr 10]) (M' := M8) (P := True) rfl trivial ?_
  refine a_cpy (md qX0_copyFrom_ok) hz lkX0_121 rfl rfl 0 (by decide) rfl rfl ?_
  refine bnd_elim (G := fun (M9 : Mm) => Aw z 122 [some (.inr 49), some (.inr 3)] [] M9) h (fun M9 h => ?_)
  exact a_rv (md qX0_copyFrom_ok) hz hR rfl rfl h
set_option maxRecDepth 100000 in
theorem mX0_copyFrom_2_25 (g : Gx) {M : Mm} {M2 : Mm} (h : fX0_copyFrom 2 25 M = some M2) : Ct g qX0_copyFrom [.inr 3, .inr 26] M (fun r' M' => r' = none ∧ M' = M2) := by
  refine c_ofV h qX0_copyFrom_ok (Nat.le_of_ble_eq_true rfl) (fun z hz Q hR h => ?_)
  unfold fX0_copyFrom at h
  show Aw z 0 [some (.inr 3), some (.inr 26)] [] M
  refine a_run (md qX0_copyFrom_ok) hz 4 [] (pc' := 8) (lv' := [some (.inr 3), some (.inr 26)]) (st' := []) (M' := (up M 3 0 (M 26 0))) (P := True) rfl trivial ?_
  refine bnd_elim (G := fun (M1 : Mm) => Aw z 8 [some (.inr 3), some (.inr 26)] [] M1) h (fun M1 h => ?_)
  refine a_run (md qX0_copyFrom_ok) hz 4 [] (pc' := 16) (lv' := [some (.inr 3), some (.inr 26)]) (st' := []) (M' := (up M1 3 1 (M1 26 1))) (P := True) rfl trivial ?_
  refine bnd_elim (G := fun (M2 : Mm) => Aw z 16 [some (.inr 3), some (.inr 26)] [] M2) h (fun M2 h => ?_)
  refine a_run (md qX0_copyFrom_ok) hz 7 [] (pc' := 28) (lv' := [some (.inr 3), some (.inr 26)]) (st' := [.inl (12 : Int), .inl (0 : Int), .inr 4, .inl (0 : Int), .inr 27]) (M' := M2) (P := True) rfl trivial ?_
  refine a_cpy (md qX0_copyFrom_ok) hz lkX0_121 rfl rfl 0 (by decide) rfl rfl ?_
  refine bnd_elim (G := fun (M3 : Mm) => Aw z 31 [some (.inr 3), some (.inr 26)] [] M3) h (fun M3 h => ?_)
  refine a_run (md qX0_copyFrom_ok) hz 7 [] (pc' := 43) (lv' := [some (.inr 3), some (.inr 26)]) (st' := [.inl (12 : Int), .inl (0 : Int), .inr 5, .inl (0 : Int), .inr 28]) (M' := M3) (P := True) rfl trivial ?_
  refine a_cpy (md qX0_copyFrom_ok) hz lkX0_121 rfl rfl 0 (by decide) rfl rfl ?_
  refine bnd_elim (G := fun (M4 : Mm) => Aw z 46 [some (.inr 3), some (.inr 26)] [] M4) h (fun M4 h => ?_)
  refine a_run (md qX0_copyFrom_ok) hz 7 [] (pc' := 58) (lv' := [some (.inr 3), some (.inr 26)]) (st' := [.inl (20 : Int), .inl (0 : Int), .inr 6, .inl (0 : Int), .inr 29]) (M' := M4) (P := True) rfl trivial ?_
  refine a_cpy (md qX0_copyFrom_ok) hz lkX0_121 rfl rfl 0 (by decide) rfl rfl ?_
  refine bnd_elim (G := fun (M5 : Mm) => Aw z 61 [some (.inr 3), some (.inr 26)] [] M5) h (fun M5 h => ?_)
  refine a_run (md qX0_copyFrom_ok) hz 7 [] (pc' := 73) (lv' := [some (.inr 3), some (.inr 26)]) (st' := [.inl (20 : Int), .inl (0 : Int), .inr 7, .inl (0 : Int), .inr 30]) (M' := M5) (P := True) rfl trivial ?_
  refine a_cpy (md qX0_copyFrom_ok) hz lkX0_121 rfl rfl 0 (by decide) rfl rfl ?_
  refine bnd_elim (G := fun (M6 : Mm) => Aw z 76 [some (.inr 3), some (.inr 26)] [] M6) h (fun M6 h => ?_)
  refine a_run (md qX0_copyFrom_ok) hz 7 [] (pc' := 88) (lv' := [some (.inr 3), some (.inr 26)]) (st' := [.inl (20 : Int), .inl (0 : Int), .inr 8, .inl (0 : Int), .inr 31]) (M' := M6) (P := True) rfl trivial ?_
  refine a_cpy (md qX0_copyFrom_ok) hz lkX0_121 rfl rfl 0 (by decide) rfl rfl ?_
  refine bnd_elim (G := fun (M7 : Mm) => Aw z 91 [some (.inr 3), some (.inr 26)] [] M7) h (fun M7 h => ?_)
  refine a_run (md qX0_copyFrom_ok) hz 7 [] (pc' := 103) (lv' := [some (.inr 3), some (.inr 26)]) (st' := [.inl (20 : Int), .inl (0 : Int), .inr 9, .inl (0 : Int), .inr 32]) (M' := M7) (P := True) rfl trivial ?_
  refine a_cpy (md qX0_copyFrom_ok) hz lkX0_121 rfl rfl 0 (by decide) rfl rfl ?_
  refine bnd_elim (G := fun (M8 : Mm) => Aw z 106 [some (.inr 3), some (.inr 26)] [] M8) h (fun M8 h => ?_)
  refine a_run (md qX0_copyFrom_ok) hz 7 [] (pc' := 119) (lv' := [some (.inr 3), some (.inr 26)]) (st' := [.inl (144 : Int), .inl (0 : Int), .inr 10, .inl (0 : Int), .inr 33]) (M' := M8) (P := True) rfl trivial ?_
  refine a_cpy (md qX0_copyFrom_ok) hz lkX0_121 rfl rfl 0 (by decide) rfl rfl ?_
  refine bnd_elim (G := fun (M9 : Mm) => Aw z 122 [some (.inr 3), some (.inr 26)] [] M9) h (fun M9 h => ?_)
  exact a_rv (md qX0_copyFrom_ok) hz hR rfl rfl h
set_option maxRecDepth 100000 in
theorem mX0_copyFrom_2_48 (g : Gx) {M : Mm} {M2 : Mm} (h : fX0_copyFrom 2 48 M = some M2) : Ct g qX0_copyFrom [.inr 3, .inr 49] M (fun r' M' => r' = none ∧ M' = M2) := by
  refine c_ofV h qX0_copyFrom_ok (Nat.le_of_ble_eq_true rfl) (fun z hz Q hR h => ?_)
  unfold fX0_copyFrom at h
  show Aw z 0 [some (.inr 3), some (.inr 49)] [] M
  refine a_run (md qX0_copyFrom_ok) hz 4 [] (pc' := 8) (lv' := [some (.inr 3), some (.inr 49)]) (st' := []) (M' := (up M 3 0 (M 49 0))) (P := True) rfl trivial ?_
  refine bnd_elim (G := fun (M1 : Mm) => Aw z 8 [some (.inr 3), some (.inr 49)] [] M1) h (fun M1 h => ?_)
  refine a_run (md qX0_copyFrom_ok) hz 4 [] (pc' := 16) (lv' := [some (.inr 3), some (.inr 49)]) (st' := []) (M' := (up M1 3 1 (M1 49 1))) (P := True) rfl trivial ?_
  refine bnd_elim (G := fun (M2 : Mm) => Aw z 16 [some (.inr 3), some (.inr 49)] [] M2) h (fun M2 h => ?_)
  refine a_run (md qX0_copyFrom_ok) hz 7 [] (pc' := 28) (lv' := [some (.inr 3), some (.inr 49)]) (st' := [.inl (12 : Int), .inl (0 : Int), .inr 4, .inl (0 : Int), .inr 50]) (M' := M2) (P := True) rfl trivial ?_
  refine a_cpy (md qX0_copyFrom_ok) hz lkX0_121 rfl rfl 0 (by decide) rfl rfl ?_
  refine bnd_elim (G := fun (M3 : Mm) => Aw z 31 [some (.inr 3), some (.inr 49)] [] M3) h (fun M3 h => ?_)
  refine a_run (md qX0_copyFrom_ok) hz 7 [] (pc' := 43) (lv' := [some (.inr 3), some (.inr 49)]) (st' := [.inl (12 : Int), .inl (0 : Int), .inr 5, .inl (0 : Int), .inr 51]) (M' := M3) (P := True) rfl trivial ?_
  refine a_cpy (md qX0_copyFrom_ok) hz lkX0_121 rfl rfl 0 (by decide) rfl rfl ?_
  refine bnd_elim (G := fun (M4 : Mm) => Aw z 46 [some (.inr 3), some (.inr 49)] [] M4) h (fun M4 h => ?_)
  refine a_run (md qX0_copyFrom_ok) hz 7 [] (pc' := 58) (lv' := [some (.inr 3), some (.inr 49)]) (st' := [.inl (20 : Int), .inl (0 : Int), .inr 6, .inl (0 : Int), .inr 52]) (M' := M4) (P := True) rfl trivial ?_
  refine a_cpy (md qX0_copyFrom_ok) hz lkX0_121 rfl rfl 0 (by decide) rfl rfl ?_
  refine bnd_elim (G := fun (M5 : Mm) => Aw z 61 [some (.inr 3), some (.inr 49)] [] M5) h (fun M5 h => ?_)
  refine a_run (md qX0_copyFrom_ok) hz 7 [] (pc' := 73) (lv' := [some (.inr 3), some (.inr 49)]) (st' := [.inl (20 : Int), .inl (0 : Int), .inr 7, .inl (0 : Int), .inr 53]) (M' := M5) (P := True) rfl trivial ?_
  refine a_cpy (md qX0_copyFrom_ok) hz lkX0_121 rfl rfl 0 (by decide) rfl rfl ?_
  refine bnd_elim (G := fun (M6 : Mm) => Aw z 76 [some (.inr 3), some (.inr 49)] [] M6) h (fun M6 h => ?_)
  refine a_run (md qX0_copyFrom_ok) hz 7 [] (pc' := 88) (lv' := [some (.inr 3), some (.inr 49)]) (st' := [.inl (20 : Int), .inl (0 : Int), .inr 8, .inl (0 : Int), .inr 54]) (M' := M6) (P := True) rfl trivial ?_
  refine a_cpy (md qX0_copyFrom_ok) hz lkX0_121 rfl rfl 0 (by decide) rfl rfl ?_
  refine bnd_elim (G := fun (M7 : Mm) => Aw z 91 [some (.inr 3), some (.inr 49)] [] M7) h (fun M7 h => ?_)
  refine a_run (md qX0_copyFrom_ok) hz 7 [] (pc' := 103) (lv' := [some (.inr 3), some (.inr 49)]) (st' := [.inl (20 : Int), .inl (0 : Int), .inr 9, .inl (0 : Int), .inr 55]) (M' := M7) (P := True) rfl trivial ?_
  refine a_cpy (md qX0_copyFrom_ok) hz lkX0_121 rfl rfl 0 (by decide) rfl rfl ?_
  refine bnd_elim (G := fun (M8 : Mm) => Aw z 106 [some (.inr 3), some (.inr 49)] [] M8) h (fun M8 h => ?_)
  refine a_run (md qX0_copyFrom_ok) hz 7 [] (pc' := 119) (lv' := [some (.inr 3), some (.inr 49)]) (st' := [.inl (144 : Int), .inl (0 : Int), .inr 10, .inl (0 : Int), .inr 56]) (M' := M8) (P := True) rfl trivial ?_
  refine a_cpy (md qX0_copyFrom_ok) hz lkX0_121 rfl rfl 0 (by decide) rfl rfl ?_
  refine bnd_elim (G := fun (M9 : Mm) => Aw z 122 [some (.inr 3), some (.inr 49)] [] M9) h (fun M9 h => ?_)
  exact a_rv (md qX0_copyFrom_ok) hz hR rfl rfl h
def fX1_allows (M : Mm) (x1 : Int) (x2 : Int) : Option (Int) := jn (some (0 : Int)) (fun (K1 : Option (Int)) => if x1 < 0 then K1 else if (4 : Int) ≤ x1 then K1 else if x2 < 0 then K1 else gd ((0 ≤ x1 ∧ x1 < 4)) (if (M 999 x1.toNat) < x2 then K1 else some (1 : Int)))
set_option maxRecDepth 100000 in
theorem mX1_allows (g : Gx) {M : Mm} {x1 : Int} {x2 : Int} {r : Int} (h : fX1_allows M x1 x2 = some r) : Ct g qX1_allows [.inr 11, .inl x1, .inl x2] M (fun r' M' => r' = some r ∧ M' = M) := by
  refine c_ofP h qX1_allows_ok (Nat.le_of_ble_eq_true rfl) (fun z hz Q hR h => ?_)
  unfold fX1_allows at h
  show Aw z 0 [some (.inr 11), some (.inl x1), some (.inl x2)] [] M
  refine jn_elim h (fun (K1 : Option (Int)) => OK (K1) (fun r2 => Q (some r2) M) → Aw z 26 [none, none, none] [] M) (fun h => ?_) (fun K1 hK1 h => ?_)
  · refine a_run (md qX1_allows_ok) hz 1 [] (pc' := 27) (lv' := [none, none, none]) (st' := [.inl (0 : Int)]) (M' := M) (P := True) rfl trivial ?_
    exact a_ri (md qX1_allows_ok) hz hR rfl (Or.inr ⟨rfl, by decide⟩) h
  · refine ite_elim h (fun hc h => ?_) (fun hc h => ?_)
    · refine a_run (md qX1_allows_ok) hz 2 [1] (pc' := 26) (lv' := [some (.inr 11), some (.inl x1), some (.inl x2)]) (st' := []) (M' := M) (P := (x1 < 0) ∧ True) rfl ⟨hc, trivial⟩ ?_
      refine a_mask [false, false, false] ?_
      exact hK1  h
    · refine a_run (md qX1_allows_ok) hz 2 [0] (pc' := 4) (lv' := [some (.inr 11), some (.inl x1), some (.inl x2)]) (st' := []) (M' := M) (P := (¬ (x1 < 0)) ∧ True) rfl ⟨hc, trivial⟩ ?_
      refine ite_elim h (fun hc h => ?_) (fun hc h => ?_)
      · refine a_run (md qX1_allows_ok) hz 3 [1] (pc' := 26) (lv' := [some (.inr 11), some (.inl x1), some (.inl x2)]) (st' := []) (M' := M) (P := ((4 : Int) ≤ x1) ∧ True) rfl ⟨hc, trivial⟩ ?_
        refine a_mask [false, false, false] ?_
        exact hK1  h
      · refine a_run (md qX1_allows_ok) hz 3 [0] (pc' := 9) (lv' := [some (.inr 11), some (.inl x1), some (.inl x2)]) (st' := []) (M' := M) (P := (¬ ((4 : Int) ≤ x1)) ∧ True) rfl ⟨hc, trivial⟩ ?_
        refine ite_elim h (fun hc h => ?_) (fun hc h => ?_)
        · refine a_run (md qX1_allows_ok) hz 2 [1] (pc' := 26) (lv' := [some (.inr 11), some (.inl x1), some (.inl x2)]) (st' := []) (M' := M) (P := (x2 < 0) ∧ True) rfl ⟨hc, trivial⟩ ?_
          refine a_mask [false, false, false] ?_
          exact hK1  h
        · refine a_run (md qX1_allows_ok) hz 2 [0] (pc' := 13) (lv' := [some (.inr 11), some (.inl x1), some (.inl x2)]) (st' := []) (M' := M) (P := (¬ (x2 < 0)) ∧ True) rfl ⟨hc, trivial⟩ ?_
          refine a_run (md qX1_allows_ok) hz 1 [] (pc' := 14) (lv' := [some (.inr 11), some (.inl x1), some (.inl x2)]) (st' := [.inl x2]) (M' := M) (P := True) rfl trivial ?_
          refine a_most hz lkMOST (d_at (md qX1_allows_ok) rfl) ?_
          show Aw z 17 [some (.inr 11), some (.inl x1), some (.inl x2)] [.inr 999, .inl x2] M
          obtain ⟨h2, h⟩ := gd_elim h
          refine ite_elim h (fun hc h => ?_) (fun hc h => ?_)
          · refine a_run (md qX1_allows_ok) hz 3 [1] (pc' := 26) (lv' := [some (.inr 11), some (.inl x1), some (.inl x2)]) (st' := []) (M' := M) (P := (0 ≤ x1 ∧ x1 < 4) ∧ ((M 999 x1.toNat) < x2) ∧ True) rfl ⟨h2, hc, trivial⟩ ?_
            refine a_mask [false, false, false] ?_
            exact hK1  h
          · refine a_run (md qX1_allows_ok) hz 3 [0] (pc' := 22) (lv' := [some (.inr 11), some (.inl x1), some (.inl x2)]) (st' := []) (M' := M) (P := (0 ≤ x1 ∧ x1 < 4) ∧ (¬ ((M 999 x1.toNat) < x2)) ∧ True) rfl ⟨h2, hc, trivial⟩ ?_
            refine a_run (md qX1_allows_ok) hz 2 [] (pc' := 27) (lv' := [some (.inr 11), some (.inl x1), some (.inl x2)]) (st' := [.inl (1 : Int)]) (M' := M) (P := True) rfl trivial ?_
            exact a_ri (md qX1_allows_ok) hz hR rfl (Or.inr ⟨rfl, by decide⟩) h
def fX1_change (M : Mm) (x1 : Int) (x2 : Int) : Option (Int × Mm) := if x1 < 0 then some ((-2 : Int), M) else if x1 < (4 : Int) then gd ((0 ≤ x1 ∧ x1 < 4) ∧ (0 ≤ x1 ∧ x1 < 4)) (bnd (up M 12 x1.toNat x2) (fun (M1 : Mm) => some ((M 12 x1.toNat), M1))) else some ((-2 : Int), M)
set_option maxRecDepth 100000 in
theorem mX1_change (g : Gx) {M : Mm} {x1 : Int} {x2 : Int} {r : Int} {M2 : Mm} (h : fX1_change M x1 x2 = some (r, M2)) : Ct g qX1_change [.inr 11, .inl x1, .inl x2] M (fun r' M' => r' = some r ∧ M' = M2) := by
  refine c_ofI h qX1_change_ok (Nat.le_of_ble_eq_true rfl) (fun z hz Q hR h => ?_)
  unfold fX1_change at h
  show Aw z 0 [some (.inr 11), some (.inl x1), some (.inl x2), none] [] M
  refine ite_elim h (fun hc h => ?_) (fun hc h => ?_)
  · refine a_run (md qX1_change_ok) hz 2 [1] (pc' := 9) (lv' := [some (.inr 11), some (.inl x1), some (.inl x2), none]) (st' := []) (M' := M) (P := (x1 < 0) ∧ True) rfl ⟨hc, trivial⟩ ?_
    refine a_run (md qX1_change_ok) hz 1 [] (pc' := 11) (lv' := [some (.inr 11), some (.inl x1), some (.inl x2), none]) (st' := [.inl (-2 : Int)]) (M' := M) (P := True) rfl trivial ?_
    exact a_ri (md qX1_change_ok) hz hR rfl (Or.inl rfl) h
  · refine a_run (md qX1_change_ok) hz 2 [0] (pc' := 4) (lv' := [some (.inr 11), some (.inl x1), some (.inl x2), none]) (st' := []) (M' := M) (P := (¬ (x1 < 0)) ∧ True) rfl ⟨hc, trivial⟩ ?_
    refine ite_elim h (fun hc h => ?_) (fun hc h => ?_)
    · refine a_run (md qX1_change_ok) hz 3 [1] (pc' := 12) (lv' := [some (.inr 11), some (.inl x1), some (.inl x2), none]) (st' := []) (M' := M) (P := (x1 < (4 : Int)) ∧ True) rfl ⟨hc, trivial⟩ ?_
      obtain ⟨⟨h2, h3⟩, h⟩ := gd_elim h
      refine a_run (md qX1_change_ok) hz 10 [] (pc' := 26) (lv' := [some (.inr 11), some (.inl x1), some (.inl x2), some (.inl (M 12 x1.toNat))]) (st' := []) (M' := (up M 12 x1.toNat x2)) (P := (0 ≤ x1 ∧ x1 < 4) ∧ (0 ≤ x1 ∧ x1 < 4) ∧ True) rfl ⟨h2, h3, trivial⟩ ?_
      refine bnd_elim (G := fun (M1 : Mm) => Aw z 26 [some (.inr 11), some (.inl x1), some (.inl x2), some (.inl (M 12 x1.toNat))] [] M1) h (fun M1 h => ?_)
      refine a_run (md qX1_change_ok) hz 1 [] (pc' := 27) (lv' := [some (.inr 11), some (.inl x1), some (.inl x2), some (.inl (M 12 x1.toNat))]) (st' := [.inl (M 12 x1.toNat)]) (M' := M1) (P := True) rfl trivial ?_
      exact a_ri (md qX1_change_ok) hz hR rfl (Or.inl rfl) h
    · refine a_run (md qX1_change_ok) hz 3 [0] (pc' := 9) (lv' := [some (.inr 11), some (.inl x1), some (.inl x2), none]) (st' := []) (M' := M) (P := (¬ (x1 < (4 : Int))) ∧ True) rfl ⟨hc, trivial⟩ ?_
      refine a_run (md qX1_change_ok) hz 1 [] (pc' := 11) (lv' := [some (.inr 11), some (.inl x1), some (.inl x2), none]) (st' := [.inl (-2 : Int)]) (M' := M) (P := True) rfl trivial ?_
      exact a_ri (md qX1_change_ok) hz hR rfl (Or.inl rfl) h
def fX1_tellRule (M : Mm) (x1 : Int) : Option (Int) := jn (some (-2 : Int)) (fun (K1 : Option (Int)) => if x1 < 0 then K1 else if (4 : Int) ≤ x1 then K1 else gd ((0 ≤ x1 ∧ x1 < 4)) (some (M 12 x1.toNat)))
set_option maxRecDepth 100000 in
theorem mX1_tellRule (g : Gx) {M : Mm} {x1 : Int} {r : Int} (h : fX1_tellRule M x1 = some r) : Ct g qX1_tellRule [.inr 11, .inl x1] M (fun r' M' => r' = some r ∧ M' = M) := by
  refine c_ofP h qX1_tellRule_ok (Nat.le_of_ble_eq_true rfl) (fun z hz Q hR h => ?_)
  unfold fX1_tellRule at h
  show Aw z 0 [some (.inr 11), some (.inl x1)] [] M
  refine jn_elim h (fun (K1 : Option (Int)) => OK (K1) (fun r2 => Q (some r2) M) → Aw z 18 [none, none] [] M) (fun h => ?_) (fun K1 hK1 h => ?_)
  · refine a_run (md qX1_tellRule_ok) hz 1 [] (pc' := 20) (lv' := [none, none]) (st' := [.inl (-2 : Int)]) (M' := M) (P := True) rfl trivial ?_
    exact a_ri (md qX1_tellRule_ok) hz hR rfl (Or.inl rfl) h
  · refine ite_elim h (fun hc h => ?_) (fun hc h => ?_)
    · refine a_run (md qX1_tellRule_ok) hz 2 [1] (pc' := 18) (lv' := [some (.inr 11), some (.inl x1)]) (st' := []) (M' := M) (P := (x1 < 0) ∧ True) rfl ⟨hc, trivial⟩ ?_
      refine a_mask [false, false] ?_
      exact hK1  h
    · refine a_run (md qX1_tellRule_ok) hz 2 [0] (pc' := 4) (lv' := [some (.inr 11), some (.inl x1)]) (st' := []) (M' := M) (P := (¬ (x1 < 0)) ∧ True) rfl ⟨hc, trivial⟩ ?_
      refine ite_elim h (fun hc h => ?_) (fun hc h => ?_)
      · refine a_run (md qX1_tellRule_ok) hz 3 [1] (pc' := 18) (lv' := [some (.inr 11), some (.inl x1)]) (st' := []) (M' := M) (P := ((4 : Int) ≤ x1) ∧ True) rfl ⟨hc, trivial⟩ ?_
        refine a_mask [false, false] ?_
        exact hK1  h
      · refine a_run (md qX1_tellRule_ok) hz 3 [0] (pc' := 9) (lv' := [some (.inr 11), some (.inl x1)]) (st' := []) (M' := M) (P := (¬ ((4 : Int) ≤ x1)) ∧ True) rfl ⟨hc, trivial⟩ ?_
        obtain ⟨h2, h⟩ := gd_elim h
        refine a_run (md qX1_tellRule_ok) hz 5 [] (pc' := 20) (lv' := [some (.inr 11), some (.inl x1)]) (st' := [.inl (M 12 x1.toNat)]) (M' := M) (P := (0 ≤ x1 ∧ x1 < 4) ∧ True) rfl ⟨h2, trivial⟩ ?_
        exact a_ri (md qX1_tellRule_ok) hz hR rfl (Or.inl rfl) h
def fX1_copyFrom (b : Nat) (b2 : Nat) (M : Mm) : Option (Mm) := bnd (cpM M (b + 10) (b2 + 10) (4 : Int)) (fun (M1 : Mm) => some M1)
set_option maxRecDepth 100000 in
theorem mX1_copyFrom_25_2 (g : Gx) {M : Mm} {M2 : Mm} (h : fX1_copyFrom 25 2 M = some M2) : Ct g qX1_copyFrom [.inr 34, .inr 11] M (fun r' M' => r' = none ∧ M' = M2) := by
  refine c_ofV h qX1_copyFrom_ok (Nat.le_of_ble_eq_true rfl) (fun z hz Q hR h => ?_)
  unfold fX1_copyFrom at h
  show Aw z 0 [some (.inr 34), some (.inr 11)] [] M
  refine a_run (md qX1_copyFrom_ok) hz 7 [] (pc' := 11) (lv' := [some (.inr 34), some (.inr 11)]) (st' := [.inl (4 : Int), .inl (0 : Int), .inr 35, .inl (0 : Int), .inr 12]) (M' := M) (P := True) rfl trivial ?_
  refine a_cpy (md qX1_copyFrom_ok) hz lkX1_18 rfl rfl 0 (by decide) rfl rfl ?_
  refine bnd_elim (G := fun (M1 : Mm) => Aw z 14 [some (.inr 34), some (.inr 11)] [] M1) h (fun M1 h => ?_)
  exact a_rv (md qX1_copyFrom_ok) hz hR rfl rfl h
set_option maxRecDepth 100000 in
theorem mX1_copyFrom_48_2 (g : Gx) {M : Mm} {M2 : Mm} (h : fX1_copyFrom 48 2 M = some M2) : Ct g qX1_copyFrom [.inr 57, .inr 11] M (fun r' M' => r' = none ∧ M' = M2) := by
  refine c_ofV h qX1_copyFrom_ok (Nat.le_of_ble_eq_true rfl) (fun z hz Q hR h => ?_)
  unfold fX1_copyFrom at h
  show Aw z 0 [some (.inr 57), some (.inr 11)] [] M
  refine a_run (md qX1_copyFrom_ok) hz 7 [] (pc' := 11) (lv' := [some (.inr 57), some (.inr 11)]) (st' := [.inl (4 : Int), .inl (0 : Int), .inr 58, .inl (0 : Int), .inr 12]) (M' := M) (P := True) rfl trivial ?_
  refine a_cpy (md qX1_copyFrom_ok) hz lkX1_18 rfl rfl 0 (by decide) rfl rfl ?_
  refine bnd_elim (G := fun (M1 : Mm) => Aw z 14 [some (.inr 57), some (.inr 11)] [] M1) h (fun M1 h => ?_)
  exact a_rv (md qX1_copyFrom_ok) hz hR rfl rfl h
set_option maxRecDepth 100000 in
theorem mX1_copyFrom_2_25 (g : Gx) {M : Mm} {M2 : Mm} (h : fX1_copyFrom 2 25 M = some M2) : Ct g qX1_copyFrom [.inr 11, .inr 34] M (fun r' M' => r' = none ∧ M' = M2) := by
  refine c_ofV h qX1_copyFrom_ok (Nat.le_of_ble_eq_true rfl) (fun z hz Q hR h => ?_)
  unfold fX1_copyFrom at h
  show Aw z 0 [some (.inr 11), some (.inr 34)] [] M
  refine a_run (md qX1_copyFrom_ok) hz 7 [] (pc' := 11) (lv' := [some (.inr 11), some (.inr 34)]) (st' := [.inl (4 : Int), .inl (0 : Int), .inr 12, .inl (0 : Int), .inr 35]) (M' := M) (P := True) rfl trivial ?_
  refine a_cpy (md qX1_copyFrom_ok) hz lkX1_18 rfl rfl 0 (by decide) rfl rfl ?_
  refine bnd_elim (G := fun (M1 : Mm) => Aw z 14 [some (.inr 11), some (.inr 34)] [] M1) h (fun M1 h => ?_)
  exact a_rv (md qX1_copyFrom_ok) hz hR rfl rfl h
set_option maxRecDepth 100000 in
theorem mX1_copyFrom_2_48 (g : Gx) {M : Mm} {M2 : Mm} (h : fX1_copyFrom 2 48 M = some M2) : Ct g qX1_copyFrom [.inr 11, .inr 57] M (fun r' M' => r' = none ∧ M' = M2) := by
  refine c_ofV h qX1_copyFrom_ok (Nat.le_of_ble_eq_true rfl) (fun z hz Q hR h => ?_)
  unfold fX1_copyFrom at h
  show Aw z 0 [some (.inr 11), some (.inr 57)] [] M
  refine a_run (md qX1_copyFrom_ok) hz 7 [] (pc' := 11) (lv' := [some (.inr 11), some (.inr 57)]) (st' := [.inl (4 : Int), .inl (0 : Int), .inr 12, .inl (0 : Int), .inr 58]) (M' := M) (P := True) rfl trivial ?_
  refine a_cpy (md qX1_copyFrom_ok) hz lkX1_18 rfl rfl 0 (by decide) rfl rfl ?_
  refine bnd_elim (G := fun (M1 : Mm) => Aw z 14 [some (.inr 11), some (.inr 57)] [] M1) h (fun M1 h => ?_)
  exact a_rv (md qX1_copyFrom_ok) hz hR rfl rfl h
def fJ6_bitCount (M : Mm) (x0 : Int) : Option (Int) := gd ((inR (x0 - (iandI (iushrI x0 (1 : Int)) (1431655765 : Int))))) (bnd (x0 - (iandI (iushrI x0 (1 : Int)) (1431655765 : Int))) (fun (t1 : Int) => gd ((inR ((iandI t1 (858993459 : Int)) + (iandI (iushrI t1 (2 : Int)) (858993459 : Int))))) (bnd ((iandI t1 (858993459 : Int)) + (iandI (iushrI t1 (2 : Int)) (858993459 : Int))) (fun (t2 : Int) => gd ((inR (t2 + (iushrI t2 (4 : Int))))) (bnd (iandI (t2 + (iushrI t2 (4 : Int))) (252645135 : Int)) (fun (t3 : Int) => gd ((inR (t3 + (iushrI t3 (8 : Int))))) (bnd (t3 + (iushrI t3 (8 : Int))) (fun (t4 : Int) => gd ((inR (t4 + (iushrI t4 (16 : Int))))) (bnd (t4 + (iushrI t4 (16 : Int))) (fun (t5 : Int) => some (iandI t5 (63 : Int))))))))))))
set_option maxRecDepth 100000 in
theorem mJ6_bitCount (g : Gx) {M : Mm} {x0 : Int} {r : Int} (h : fJ6_bitCount M x0 = some r) : Ct g qJ6_bitCount [.inl x0] M (fun r' M' => r' = some r ∧ M' = M) := by
  refine c_ofP h qJ6_bitCount_ok (Nat.le_of_ble_eq_true rfl) (fun z hz Q hR h => ?_)
  unfold fJ6_bitCount at h
  show Aw z 0 [some (.inl x0)] [] M
  obtain ⟨h10, h⟩ := gd_elim h
  refine a_run (md qJ6_bitCount_ok) hz 8 [] (pc' := 10) (lv' := [some (.inl (x0 - (iandI (iushrI x0 (1 : Int)) (1431655765 : Int))))]) (st' := []) (M' := M) (P := (inR (x0 - (iandI (iushrI x0 (1 : Int)) (1431655765 : Int)))) ∧ True) rfl ⟨h10, trivial⟩ ?_
  refine bnd_elim (G := fun (t1 : Int) => Aw z 10 [some (.inl t1)] [] M) h (fun t1 h => ?_)
  obtain ⟨h9, h⟩ := gd_elim h
  refine a_run (md qJ6_bitCount_ok) hz 10 [] (pc' := 24) (lv' := [some (.inl ((iandI t1 (858993459 : Int)) + (iandI (iushrI t1 (2 : Int)) (858993459 : Int))))]) (st' := []) (M' := M) (P := (inR ((iandI t1 (858993459 : Int)) + (iandI (iushrI t1 (2 : Int)) (858993459 : Int)))) ∧ True) rfl ⟨h9, trivial⟩ ?_
  refine bnd_elim (G := fun (t2 : Int) => Aw z 24 [some (.inl t2)] [] M) h (fun t2 h => ?_)
  obtain ⟨h8, h⟩ := gd_elim h
  refine a_run (md qJ6_bitCount_ok) hz 8 [] (pc' := 34) (lv' := [some (.inl (iandI (t2 + (iushrI t2 (4 : Int))) (252645135 : Int)))]) (st' := []) (M' := M) (P := (inR (t2 + (iushrI t2 (4 : Int)))) ∧ True) rfl ⟨h8, trivial⟩ ?_
  refine bnd_elim (G := fun (t3 : Int) => Aw z 34 [some (.inl t3)] [] M) h (fun t3 h => ?_)
  obtain ⟨h7, h⟩ := gd_elim h
  refine a_run (md qJ6_bitCount_ok) hz 6 [] (pc' := 41) (lv' := [some (.inl (t3 + (iushrI t3 (8 : Int))))]) (st' := []) (M' := M) (P := (inR (t3 + (iushrI t3 (8 : Int)))) ∧ True) rfl ⟨h7, trivial⟩ ?_
  refine bnd_elim (G := fun (t4 : Int) => Aw z 41 [some (.inl t4)] [] M) h (fun t4 h => ?_)
  obtain ⟨h6, h⟩ := gd_elim h
  refine a_run (md qJ6_bitCount_ok) hz 6 [] (pc' := 48) (lv' := [some (.inl (t4 + (iushrI t4 (16 : Int))))]) (st' := []) (M' := M) (P := (inR (t4 + (iushrI t4 (16 : Int)))) ∧ True) rfl ⟨h6, trivial⟩ ?_
  refine bnd_elim (G := fun (t5 : Int) => Aw z 48 [some (.inl t5)] [] M) h (fun t5 h => ?_)
  refine a_run (md qJ6_bitCount_ok) hz 3 [] (pc' := 52) (lv' := [some (.inl t5)]) (st' := [.inl (iandI t5 (63 : Int))]) (M' := M) (P := True) rfl trivial ?_
  exact a_ri (md qJ6_bitCount_ok) hz hR rfl (Or.inl rfl) h
