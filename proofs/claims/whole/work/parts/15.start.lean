theorem ts1 : (Jvm.Cond.initialized "RoadTrace") ∈ gw_tbl := mg (i := 48) (by decide +kernel) (by decide +kernel)
theorem ts6 : (Jvm.Cond.initialized "RoadTraceModel") ∈ gw_tbl := mg (i := 53) (by decide +kernel) (by decide +kernel)
theorem ts10 : (Jvm.Cond.classLink "RoadTraceLaw" (7 : Nat) "RoadTrace") ∈ gw_tbl := mg (i := 57) (by decide +kernel) (by decide +kernel)
theorem ts11 : (Jvm.Cond.instantiable "RoadTrace" (2 : Nat)) ∈ gw_tbl := mg (i := 58) (by decide +kernel) (by decide +kernel)
theorem ts12 : (Jvm.Cond.methodLink "RoadTraceLaw" (9 : Nat) ({ cls := "RoadTrace", name := "<init>", desc := "()V" } : Jvm.MethodName)) ∈ gw_tbl := mg (i := 59) (by decide +kernel) (by decide +kernel)
theorem ts13 : (Jvm.Cond.instanceMethod ({ cls := "RoadTrace", name := "<init>", desc := "()V" } : Jvm.MethodName)) ∈ gw_tbl := mg (i := 60) (by decide +kernel) (by decide +kernel)
theorem ts14 : (Jvm.Cond.code ({ cls := "RoadTrace", name := "<init>", desc := "()V" } : Jvm.MethodName) prog_1_method_1_code (2 : Nat) (Option.none : Option Jvm.ClassFile.FieldType)) ∈ gw_tbl := mg (i := 61) (by decide +kernel) (by decide +kernel)
theorem ts524 : (Jvm.Cond.classLink "RoadTraceLaw" (10 : Nat) "RoadTraceModel") ∈ gw_tbl := mg (i := 571) (by decide +kernel) (by decide +kernel)
theorem ts525 : (Jvm.Cond.instantiable "RoadTraceModel" (23 : Nat)) ∈ gw_tbl := mg (i := 572) (by decide +kernel) (by decide +kernel)
theorem ts526 : (Jvm.Cond.methodLink "RoadTraceLaw" (12 : Nat) ({ cls := "RoadTraceModel", name := "<init>", desc := "()V" } : Jvm.MethodName)) ∈ gw_tbl := mg (i := 573) (by decide +kernel) (by decide +kernel)
theorem ts527 : (Jvm.Cond.instanceMethod ({ cls := "RoadTraceModel", name := "<init>", desc := "()V" } : Jvm.MethodName)) ∈ gw_tbl := mg (i := 574) (by decide +kernel) (by decide +kernel)
theorem ts528 : (Jvm.Cond.code ({ cls := "RoadTraceModel", name := "<init>", desc := "()V" } : Jvm.MethodName) prog_7_method_1_code (1 : Nat) (Option.none : Option Jvm.ClassFile.FieldType)) ∈ gw_tbl := mg (i := 575) (by decide +kernel) (by decide +kernel)
theorem eL_0 : decode code 0 = .ok (.new 7, 3) := by decide +kernel
theorem eL_3 : decode code 3 = .ok (.dup, 1) := by decide +kernel
theorem eL_4 : decode code 4 = .ok (.invokespecial 9, 3) := by decide +kernel
theorem eL_7 : decode code 7 = .ok (.astore_n 1, 1) := by decide +kernel
theorem eL_8 : decode code 8 = .ok (.new 10, 3) := by decide +kernel
theorem eL_11 : decode code 11 = .ok (.dup, 1) := by decide +kernel
theorem eL_12 : decode code 12 = .ok (.invokespecial 12, 3) := by decide +kernel
theorem eL_15 : decode code 15 = .ok (.astore_n 2, 1) := by decide +kernel
theorem eL_16 : decode code 16 = .ok (.iconst 0, 1) := by decide +kernel
theorem eL_17 : decode code 17 = .ok (.istore_n 3, 1) := by decide +kernel
/-! FROM THE LAW'S ENTRY to its loop -/
def rlI (j : Nat) : Int := match j with | 0 => 4 | 1 => 1 | 2 => 1 | 3 => 40 | _ => 0
def mstI (j : Nat) : Int := match j with | 0 => 8 | 1 => 9 | 2 => 9 | 3 => 99 | _ => 0
def M0 : Mm := fun k => if k = 12 ∨ k = 35 ∨ k = 58 ∨ k = 77 then rlI else if k = 999 then mstI else fun _ => 0
theorem rl0_eq : rl0 = fun j => Int32.ofInt (rlI j) := by
  funext j
  match j with
  | 0 => decide
  | 1 => decide
  | 2 => decide
  | 3 => decide
  | j + 4 => simp [rl0, upd, rlI]
theorem M0_ok : okM M0 := by
  refine ⟨fun k j => ?_, rfl, rfl, rfl, rfl⟩
  unfold M0
  split
  · unfold rlI; split <;> decide
  · split
    · unfold mstI; split <;> decide
    · exact (by decide : inR 0)
def adOf (a a2 : Nat → Nat) (b t : Nat) : Nat → Nat := fun k => if k = 998 then b else if k = 999 then t else if k = 0 then a 0 else if k = 1 then a 24 else if k < 25 then a (k - 1) else if k < 71 then a k else a2 (k - 71)
def pkF (k : Nat) : Nat := if k = 0 then 0 else if k = 1 then 24 else if k < 25 then k - 1 else k
theorem pkF_inj {i j : Nat} (h : pkF i = pkF j) : i = j := by
  unfold pkF at h
  (repeat' split at h) <;> omega
set_option maxRecDepth 100000 in
theorem w0_0 (cA : Ca) (a a2 : Nat → Nat) (b t : Nat) : (roadW cA a ++ modelW cA a2)[0]? = some (adOf a a2 b t 0, celE (adOf a a2 b t) cA (M0 0) (.inl (4, [some 2, some 1]))) := by simp only [celE, List.mapIdx_cons, List.mapIdx_nil, flE]; rfl
set_option maxRecDepth 100000 in
theorem w0_1 (cA : Ca) (a a2 : Nat → Nat) (b t : Nat) : (roadW cA a ++ modelW cA a2)[24]? = some (adOf a a2 b t 1, celE (adOf a a2 b t) cA (M0 1) (.inr (.inr [25, 48]))) := by
  show some _ = some (_, Sum.inl (cA.2.2, 2, Sum.inr (Sum.inr (Sum.inr (Sum.inr (fun j => ([25, 48][j]?).map (adOf a a2 b t)))))))
  have e : (va_up (va_up (fun _ => none) 0 (some (a 25))) 1 (some (a 48))) = (fun j => ([25, 48][j]?).map (adOf a a2 b t)) := by
    funext j
    match j with
    | 0 => rfl
    | 1 => rfl
    | j + 2 => simp [va_up]
  rw [← e]
  rfl
set_option maxRecDepth 100000 in
theorem w0_2 (cA : Ca) (a a2 : Nat → Nat) (b t : Nat) : (roadW cA a ++ modelW cA a2)[1]? = some (adOf a a2 b t 2, celE (adOf a a2 b t) cA (M0 2) (.inl (2, [some 3, some 11, some 13, none]))) := by simp only [celE, List.mapIdx_cons, List.mapIdx_nil, flE]; rfl
set_option maxRecDepth 100000 in
theorem w0_3 (cA : Ca) (a a2 : Nat → Nat) (b t : Nat) : (roadW cA a ++ modelW cA a2)[2]? = some (adOf a a2 b t 3, celE (adOf a a2 b t) cA (M0 3) (.inl (0, [none, none, some 4, some 5, some 6, some 7, some 8, some 9, some 10]))) := by simp only [celE, List.mapIdx_cons, List.mapIdx_nil, flE]; rfl
set_option maxRecDepth 100000 in
theorem w0_4 (cA : Ca) (a a2 : Nat → Nat) (b t : Nat) : (roadW cA a ++ modelW cA a2)[3]? = some (adOf a a2 b t 4, celE (adOf a a2 b t) cA (M0 4) (.inr (.inl (0, 12)))) := rfl
set_option maxRecDepth 100000 in
theorem w0_5 (cA : Ca) (a a2 : Nat → Nat) (b t : Nat) : (roadW cA a ++ modelW cA a2)[4]? = some (adOf a a2 b t 5, celE (adOf a a2 b t) cA (M0 5) (.inr (.inl (0, 12)))) := rfl
set_option maxRecDepth 100000 in
theorem w0_6 (cA : Ca) (a a2 : Nat → Nat) (b t : Nat) : (roadW cA a ++ modelW cA a2)[5]? = some (adOf a a2 b t 6, celE (adOf a a2 b t) cA (M0 6) (.inr (.inl (0, 20)))) := rfl
set_option maxRecDepth 100000 in
theorem w0_7 (cA : Ca) (a a2 : Nat → Nat) (b t : Nat) : (roadW cA a ++ modelW cA a2)[6]? = some (adOf a a2 b t 7, celE (adOf a a2 b t) cA (M0 7) (.inr (.inl (0, 20)))) := rfl
set_option maxRecDepth 100000 in
theorem w0_8 (cA : Ca) (a a2 : Nat → Nat) (b t : Nat) : (roadW cA a ++ modelW cA a2)[7]? = some (adOf a a2 b t 8, celE (adOf a a2 b t) cA (M0 8) (.inr (.inl (0, 20)))) := rfl
set_option maxRecDepth 100000 in
theorem w0_9 (cA : Ca) (a a2 : Nat → Nat) (b t : Nat) : (roadW cA a ++ modelW cA a2)[8]? = some (adOf a a2 b t 9, celE (adOf a a2 b t) cA (M0 9) (.inr (.inl (0, 20)))) := rfl
set_option maxRecDepth 100000 in
theorem w0_10 (cA : Ca) (a a2 : Nat → Nat) (b t : Nat) : (roadW cA a ++ modelW cA a2)[9]? = some (adOf a a2 b t 10, celE (adOf a a2 b t) cA (M0 10) (.inr (.inl (0, 144)))) := rfl
set_option maxRecDepth 100000 in
theorem w0_11 (cA : Ca) (a a2 : Nat → Nat) (b t : Nat) : (roadW cA a ++ modelW cA a2)[10]? = some (adOf a a2 b t 11, celE (adOf a a2 b t) cA (M0 11) (.inl (1, [some 12]))) := by simp only [celE, List.mapIdx_cons, List.mapIdx_nil, flE]; rfl
set_option maxRecDepth 100000 in
theorem w0_12 (cA : Ca) (a a2 : Nat → Nat) (b t : Nat) : (roadW cA a ++ modelW cA a2)[11]? = some (adOf a a2 b t 12, celE (adOf a a2 b t) cA (M0 12) (.inr (.inl (0, 4)))) := by simp only [roadW, modelW, rl0_eq]; rfl
set_option maxRecDepth 100000 in
theorem w0_13 (cA : Ca) (a a2 : Nat → Nat) (b t : Nat) : (roadW cA a ++ modelW cA a2)[12]? = some (adOf a a2 b t 13, celE (adOf a a2 b t) cA (M0 13) (.inl (3, [some 3, some 11, none, some 14, some 15, some 16, some 17, some 18, some 19, some 20, some 21, some 22, some 23, some 24]))) := by simp only [celE, List.mapIdx_cons, List.mapIdx_nil, flE]; rfl
set_option maxRecDepth 100000 in
theorem w0_14 (cA : Ca) (a a2 : Nat → Nat) (b t : Nat) : (roadW cA a ++ modelW cA a2)[13]? = some (adOf a a2 b t 14, celE (adOf a a2 b t) cA (M0 14) (.inr (.inl (0, 16)))) := rfl
set_option maxRecDepth 100000 in
theorem w0_15 (cA : Ca) (a a2 : Nat → Nat) (b t : Nat) : (roadW cA a ++ modelW cA a2)[14]? = some (adOf a a2 b t 15, celE (adOf a a2 b t) cA (M0 15) (.inr (.inl (0, 16)))) := rfl
set_option maxRecDepth 100000 in
theorem w0_16 (cA : Ca) (a a2 : Nat → Nat) (b t : Nat) : (roadW cA a ++ modelW cA a2)[15]? = some (adOf a a2 b t 16, celE (adOf a a2 b t) cA (M0 16) (.inr (.inl (0, 16)))) := rfl
set_option maxRecDepth 100000 in
theorem w0_17 (cA : Ca) (a a2 : Nat → Nat) (b t : Nat) : (roadW cA a ++ modelW cA a2)[16]? = some (adOf a a2 b t 17, celE (adOf a a2 b t) cA (M0 17) (.inr (.inl (0, 16)))) := rfl
set_option maxRecDepth 100000 in
theorem w0_18 (cA : Ca) (a a2 : Nat → Nat) (b t : Nat) : (roadW cA a ++ modelW cA a2)[17]? = some (adOf a a2 b t 18, celE (adOf a a2 b t) cA (M0 18) (.inr (.inl (0, 16)))) := rfl
set_option maxRecDepth 100000 in
theorem w0_19 (cA : Ca) (a a2 : Nat → Nat) (b t : Nat) : (roadW cA a ++ modelW cA a2)[18]? = some (adOf a a2 b t 19, celE (adOf a a2 b t) cA (M0 19) (.inr (.inl (0, 320)))) := rfl
set_option maxRecDepth 100000 in
theorem w0_20 (cA : Ca) (a a2 : Nat → Nat) (b t : Nat) : (roadW cA a ++ modelW cA a2)[19]? = some (adOf a a2 b t 20, celE (adOf a a2 b t) cA (M0 20) (.inr (.inl (0, 320)))) := rfl
set_option maxRecDepth 100000 in
theorem w0_21 (cA : Ca) (a a2 : Nat → Nat) (b t : Nat) : (roadW cA a ++ modelW cA a2)[20]? = some (adOf a a2 b t 21, celE (adOf a a2 b t) cA (M0 21) (.inr (.inl (0, 320)))) := rfl
set_option maxRecDepth 100000 in
theorem w0_22 (cA : Ca) (a a2 : Nat → Nat) (b t : Nat) : (roadW cA a ++ modelW cA a2)[21]? = some (adOf a a2 b t 22, celE (adOf a a2 b t) cA (M0 22) (.inr (.inl (0, 320)))) := rfl
set_option maxRecDepth 100000 in
theorem w0_23 (cA : Ca) (a a2 : Nat → Nat) (b t : Nat) : (roadW cA a ++ modelW cA a2)[22]? = some (adOf a a2 b t 23, celE (adOf a a2 b t) cA (M0 23) (.inr (.inl (0, 16)))) := rfl
set_option maxRecDepth 100000 in
theorem w0_24 (cA : Ca) (a a2 : Nat → Nat) (b t : Nat) : (roadW cA a ++ modelW cA a2)[23]? = some (adOf a a2 b t 24, celE (adOf a a2 b t) cA (M0 24) (.inr (.inl (1, 16)))) := rfl
set_option maxRecDepth 100000 in
theorem w0_25 (cA : Ca) (a a2 : Nat → Nat) (b t : Nat) : (roadW cA a ++ modelW cA a2)[25]? = some (adOf a a2 b t 25, celE (adOf a a2 b t) cA (M0 25) (.inl (2, [some 26, some 34, some 36, none]))) := by simp only [celE, List.mapIdx_cons, List.mapIdx_nil, flE]; rfl
set_option maxRecDepth 100000 in
theorem w0_26 (cA : Ca) (a a2 : Nat → Nat) (b t : Nat) : (roadW cA a ++ modelW cA a2)[26]? = some (adOf a a2 b t 26, celE (adOf a a2 b t) cA (M0 26) (.inl (0, [none, none, some 27, some 28, some 29, some 30, some 31, some 32, some 33]))) := by simp only [celE, List.mapIdx_cons, List.mapIdx_nil, flE]; rfl
set_option maxRecDepth 100000 in
theorem w0_27 (cA : Ca) (a a2 : Nat → Nat) (b t : Nat) : (roadW cA a ++ modelW cA a2)[27]? = some (adOf a a2 b t 27, celE (adOf a a2 b t) cA (M0 27) (.inr (.inl (0, 12)))) := rfl
set_option maxRecDepth 100000 in
theorem w0_28 (cA : Ca) (a a2 : Nat → Nat) (b t : Nat) : (roadW cA a ++ modelW cA a2)[28]? = some (adOf a a2 b t 28, celE (adOf a a2 b t) cA (M0 28) (.inr (.inl (0, 12)))) := rfl
set_option maxRecDepth 100000 in
theorem w0_29 (cA : Ca) (a a2 : Nat → Nat) (b t : Nat) : (roadW cA a ++ modelW cA a2)[29]? = some (adOf a a2 b t 29, celE (adOf a a2 b t) cA (M0 29) (.inr (.inl (0, 20)))) := rfl
set_option maxRecDepth 100000 in
theorem w0_30 (cA : Ca) (a a2 : Nat → Nat) (b t : Nat) : (roadW cA a ++ modelW cA a2)[30]? = some (adOf a a2 b t 30, celE (adOf a a2 b t) cA (M0 30) (.inr (.inl (0, 20)))) := rfl
set_option maxRecDepth 100000 in
theorem w0_31 (cA : Ca) (a a2 : Nat → Nat) (b t : Nat) : (roadW cA a ++ modelW cA a2)[31]? = some (adOf a a2 b t 31, celE (adOf a a2 b t) cA (M0 31) (.inr (.inl (0, 20)))) := rfl
set_option maxRecDepth 100000 in
theorem w0_32 (cA : Ca) (a a2 : Nat → Nat) (b t : Nat) : (roadW cA a ++ modelW cA a2)[32]? = some (adOf a a2 b t 32, celE (adOf a a2 b t) cA (M0 32) (.inr (.inl (0, 20)))) := rfl
set_option maxRecDepth 100000 in
theorem w0_33 (cA : Ca) (a a2 : Nat → Nat) (b t : Nat) : (roadW cA a ++ modelW cA a2)[33]? = some (adOf a a2 b t 33, celE (adOf a a2 b t) cA (M0 33) (.inr (.inl (0, 144)))) := rfl
set_option maxRecDepth 100000 in
theorem w0_34 (cA : Ca) (a a2 : Nat → Nat) (b t : Nat) : (roadW cA a ++ modelW cA a2)[34]? = some (adOf a a2 b t 34, celE (adOf a a2 b t) cA (M0 34) (.inl (1, [some 35]))) := by simp only [celE, List.mapIdx_cons, List.mapIdx_nil, flE]; rfl
set_option maxRecDepth 100000 in
theorem w0_35 (cA : Ca) (a a2 : Nat → Nat) (b t : Nat) : (roadW cA a ++ modelW cA a2)[35]? = some (adOf a a2 b t 35, celE (adOf a a2 b t) cA (M0 35) (.inr (.inl (0, 4)))) := by simp only [roadW, modelW, rl0_eq]; rfl
set_option maxRecDepth 100000 in
theorem w0_36 (cA : Ca) (a a2 : Nat → Nat) (b t : Nat) : (roadW cA a ++ modelW cA a2)[36]? = some (adOf a a2 b t 36, celE (adOf a a2 b t) cA (M0 36) (.inl (3, [some 26, some 34, none, some 37, some 38, some 39, some 40, some 41, some 42, some 43, some 44, some 45, some 46, some 47]))) := by simp only [celE, List.mapIdx_cons, List.mapIdx_nil, flE]; rfl
set_option maxRecDepth 100000 in
theorem w0_37 (cA : Ca) (a a2 : Nat → Nat) (b t : Nat) : (roadW cA a ++ modelW cA a2)[37]? = some (adOf a a2 b t 37, celE (adOf a a2 b t) cA (M0 37) (.inr (.inl (0, 16)))) := rfl
set_option maxRecDepth 100000 in
theorem w0_38 (cA : Ca) (a a2 : Nat → Nat) (b t : Nat) : (roadW cA a ++ modelW cA a2)[38]? = some (adOf a a2 b t 38, celE (adOf a a2 b t) cA (M0 38) (.inr (.inl (0, 16)))) := rfl
set_option maxRecDepth 100000 in
theorem w0_39 (cA : Ca) (a a2 : Nat → Nat) (b t : Nat) : (roadW cA a ++ modelW cA a2)[39]? = some (adOf a a2 b t 39, celE (adOf a a2 b t) cA (M0 39) (.inr (.inl (0, 16)))) := rfl
set_option maxRecDepth 100000 in
theorem w0_40 (cA : Ca) (a a2 : Nat → Nat) (b t : Nat) : (roadW cA a ++ modelW cA a2)[40]? = some (adOf a a2 b t 40, celE (adOf a a2 b t) cA (M0 40) (.inr (.inl (0, 16)))) := rfl
set_option maxRecDepth 100000 in
theorem w0_41 (cA : Ca) (a a2 : Nat → Nat) (b t : Nat) : (roadW cA a ++ modelW cA a2)[41]? = some (adOf a a2 b t 41, celE (adOf a a2 b t) cA (M0 41) (.inr (.inl (0, 16)))) := rfl
set_option maxRecDepth 100000 in
theorem w0_42 (cA : Ca) (a a2 : Nat → Nat) (b t : Nat) : (roadW cA a ++ modelW cA a2)[42]? = some (adOf a a2 b t 42, celE (adOf a a2 b t) cA (M0 42) (.inr (.inl (0, 320)))) := rfl
set_option maxRecDepth 100000 in
theorem w0_43 (cA : Ca) (a a2 : Nat → Nat) (b t : Nat) : (roadW cA a ++ modelW cA a2)[43]? = some (adOf a a2 b t 43, celE (adOf a a2 b t) cA (M0 43) (.inr (.inl (0, 320)))) := rfl
set_option maxRecDepth 100000 in
theorem w0_44 (cA : Ca) (a a2 : Nat → Nat) (b t : Nat) : (roadW cA a ++ modelW cA a2)[44]? = some (adOf a a2 b t 44, celE (adOf a a2 b t) cA (M0 44) (.inr (.inl (0, 320)))) := rfl
set_option maxRecDepth 100000 in
theorem w0_45 (cA : Ca) (a a2 : Nat → Nat) (b t : Nat) : (roadW cA a ++ modelW cA a2)[45]? = some (adOf a a2 b t 45, celE (adOf a a2 b t) cA (M0 45) (.inr (.inl (0, 320)))) := rfl
set_option maxRecDepth 100000 in
theorem w0_46 (cA : Ca) (a a2 : Nat → Nat) (b t : Nat) : (roadW cA a ++ modelW cA a2)[46]? = some (adOf a a2 b t 46, celE (adOf a a2 b t) cA (M0 46) (.inr (.inl (0, 16)))) := rfl
set_option maxRecDepth 100000 in
theorem w0_47 (cA : Ca) (a a2 : Nat → Nat) (b t : Nat) : (roadW cA a ++ modelW cA a2)[47]? = some (adOf a a2 b t 47, celE (adOf a a2 b t) cA (M0 47) (.inr (.inl (1, 16)))) := rfl
set_option maxRecDepth 100000 in
theorem w0_48 (cA : Ca) (a a2 : Nat → Nat) (b t : Nat) : (roadW cA a ++ modelW cA a2)[48]? = some (adOf a a2 b t 48, celE (adOf a a2 b t) cA (M0 48) (.inl (2, [some 49, some 57, some 59, none]))) := by simp only [celE, List.mapIdx_cons, List.mapIdx_nil, flE]; rfl
set_option maxRecDepth 100000 in
theorem w0_49 (cA : Ca) (a a2 : Nat → Nat) (b t : Nat) : (roadW cA a ++ modelW cA a2)[49]? = some (adOf a a2 b t 49, celE (adOf a a2 b t) cA (M0 49) (.inl (0, [none, none, some 50, some 51, some 52, some 53, some 54, some 55, some 56]))) := by simp only [celE, List.mapIdx_cons, List.mapIdx_nil, flE]; rfl
set_option maxRecDepth 100000 in
theorem w0_50 (cA : Ca) (a a2 : Nat → Nat) (b t : Nat) : (roadW cA a ++ modelW cA a2)[50]? = some (adOf a a2 b t 50, celE (adOf a a2 b t) cA (M0 50) (.inr (.inl (0, 12)))) := rfl
set_option maxRecDepth 100000 in
theorem w0_51 (cA : Ca) (a a2 : Nat → Nat) (b t : Nat) : (roadW cA a ++ modelW cA a2)[51]? = some (adOf a a2 b t 51, celE (adOf a a2 b t) cA (M0 51) (.inr (.inl (0, 12)))) := rfl
set_option maxRecDepth 100000 in
theorem w0_52 (cA : Ca) (a a2 : Nat → Nat) (b t : Nat) : (roadW cA a ++ modelW cA a2)[52]? = some (adOf a a2 b t 52, celE (adOf a a2 b t) cA (M0 52) (.inr (.inl (0, 20)))) := rfl
set_option maxRecDepth 100000 in
theorem w0_53 (cA : Ca) (a a2 : Nat → Nat) (b t : Nat) : (roadW cA a ++ modelW cA a2)[53]? = some (adOf a a2 b t 53, celE (adOf a a2 b t) cA (M0 53) (.inr (.inl (0, 20)))) := rfl
set_option maxRecDepth 100000 in
theorem w0_54 (cA : Ca) (a a2 : Nat → Nat) (b t : Nat) : (roadW cA a ++ modelW cA a2)[54]? = some (adOf a a2 b t 54, celE (adOf a a2 b t) cA (M0 54) (.inr (.inl (0, 20)))) := rfl
set_option maxRecDepth 100000 in
theorem w0_55 (cA : Ca) (a a2 : Nat → Nat) (b t : Nat) : (roadW cA a ++ modelW cA a2)[55]? = some (adOf a a2 b t 55, celE (adOf a a2 b t) cA (M0 55) (.inr (.inl (0, 20)))) := rfl
set_option maxRecDepth 100000 in
theorem w0_56 (cA : Ca) (a a2 : Nat → Nat) (b t : Nat) : (roadW cA a ++ modelW cA a2)[56]? = some (adOf a a2 b t 56, celE (adOf a a2 b t) cA (M0 56) (.inr (.inl (0, 144)))) := rfl
set_option maxRecDepth 100000 in
theorem w0_57 (cA : Ca) (a a2 : Nat → Nat) (b t : Nat) : (roadW cA a ++ modelW cA a2)[57]? = some (adOf a a2 b t 57, celE (adOf a a2 b t) cA (M0 57) (.inl (1, [some 58]))) := by simp only [celE, List.mapIdx_cons, List.mapIdx_nil, flE]; rfl
set_option maxRecDepth 100000 in
theorem w0_58 (cA : Ca) (a a2 : Nat → Nat) (b t : Nat) : (roadW cA a ++ modelW cA a2)[58]? = some (adOf a a2 b t 58, celE (adOf a a2 b t) cA (M0 58) (.inr (.inl (0, 4)))) := by simp only [roadW, modelW, rl0_eq]; rfl
set_option maxRecDepth 100000 in
theorem w0_59 (cA : Ca) (a a2 : Nat → Nat) (b t : Nat) : (roadW cA a ++ modelW cA a2)[59]? = some (adOf a a2 b t 59, celE (adOf a a2 b t) cA (M0 59) (.inl (3, [some 49, some 57, none, some 60, some 61, some 62, some 63, some 64, some 65, some 66, some 67, some 68, some 69, some 70]))) := by simp only [celE, List.mapIdx_cons, List.mapIdx_nil, flE]; rfl
set_option maxRecDepth 100000 in
theorem w0_60 (cA : Ca) (a a2 : Nat → Nat) (b t : Nat) : (roadW cA a ++ modelW cA a2)[60]? = some (adOf a a2 b t 60, celE (adOf a a2 b t) cA (M0 60) (.inr (.inl (0, 16)))) := rfl
set_option maxRecDepth 100000 in
theorem w0_61 (cA : Ca) (a a2 : Nat → Nat) (b t : Nat) : (roadW cA a ++ modelW cA a2)[61]? = some (adOf a a2 b t 61, celE (adOf a a2 b t) cA (M0 61) (.inr (.inl (0, 16)))) := rfl
set_option maxRecDepth 100000 in
theorem w0_62 (cA : Ca) (a a2 : Nat → Nat) (b t : Nat) : (roadW cA a ++ modelW cA a2)[62]? = some (adOf a a2 b t 62, celE (adOf a a2 b t) cA (M0 62) (.inr (.inl (0, 16)))) := rfl
set_option maxRecDepth 100000 in
theorem w0_63 (cA : Ca) (a a2 : Nat → Nat) (b t : Nat) : (roadW cA a ++ modelW cA a2)[63]? = some (adOf a a2 b t 63, celE (adOf a a2 b t) cA (M0 63) (.inr (.inl (0, 16)))) := rfl
set_option maxRecDepth 100000 in
theorem w0_64 (cA : Ca) (a a2 : Nat → Nat) (b t : Nat) : (roadW cA a ++ modelW cA a2)[64]? = some (adOf a a2 b t 64, celE (adOf a a2 b t) cA (M0 64) (.inr (.inl (0, 16)))) := rfl
set_option maxRecDepth 100000 in
theorem w0_65 (cA : Ca) (a a2 : Nat → Nat) (b t : Nat) : (roadW cA a ++ modelW cA a2)[65]? = some (adOf a a2 b t 65, celE (adOf a a2 b t) cA (M0 65) (.inr (.inl (0, 320)))) := rfl
set_option maxRecDepth 100000 in
theorem w0_66 (cA : Ca) (a a2 : Nat → Nat) (b t : Nat) : (roadW cA a ++ modelW cA a2)[66]? = some (adOf a a2 b t 66, celE (adOf a a2 b t) cA (M0 66) (.inr (.inl (0, 320)))) := rfl
set_option maxRecDepth 100000 in
theorem w0_67 (cA : Ca) (a a2 : Nat → Nat) (b t : Nat) : (roadW cA a ++ modelW cA a2)[67]? = some (adOf a a2 b t 67, celE (adOf a a2 b t) cA (M0 67) (.inr (.inl (0, 320)))) := rfl
set_option maxRecDepth 100000 in
theorem w0_68 (cA : Ca) (a a2 : Nat → Nat) (b t : Nat) : (roadW cA a ++ modelW cA a2)[68]? = some (adOf a a2 b t 68, celE (adOf a a2 b t) cA (M0 68) (.inr (.inl (0, 320)))) := rfl
set_option maxRecDepth 100000 in
theorem w0_69 (cA : Ca) (a a2 : Nat → Nat) (b t : Nat) : (roadW cA a ++ modelW cA a2)[69]? = some (adOf a a2 b t 69, celE (adOf a a2 b t) cA (M0 69) (.inr (.inl (0, 16)))) := rfl
set_option maxRecDepth 100000 in
theorem w0_70 (cA : Ca) (a a2 : Nat → Nat) (b t : Nat) : (roadW cA a ++ modelW cA a2)[70]? = some (adOf a a2 b t 70, celE (adOf a a2 b t) cA (M0 70) (.inr (.inl (1, 16)))) := rfl
set_option maxRecDepth 100000 in
theorem w0_71 (cA : Ca) (a a2 : Nat → Nat) (b t : Nat) : (roadW cA a ++ modelW cA a2)[71]? = some (adOf a a2 b t 71, celE (adOf a a2 b t) cA (M0 71) (.inl (5, [some 72, some 73, none, some 74, some 75, some 76, none, some 77, some 78, some 79, none, some 80, some 81, some 82, some 83, some 84, some 85, some 86, some 87, some 88, none, some 89, some 90]))) := by simp only [celE, List.mapIdx_cons, List.mapIdx_nil, flE]; rfl
set_option maxRecDepth 100000 in
theorem w0_72 (cA : Ca) (a a2 : Nat → Nat) (b t : Nat) : (roadW cA a ++ modelW cA a2)[72]? = some (adOf a a2 b t 72, celE (adOf a a2 b t) cA (M0 72) (.inr (.inl (0, 12)))) := rfl
set_option maxRecDepth 100000 in
theorem w0_73 (cA : Ca) (a a2 : Nat → Nat) (b t : Nat) : (roadW cA a ++ modelW cA a2)[73]? = some (adOf a a2 b t 73, celE (adOf a a2 b t) cA (M0 73) (.inr (.inl (0, 12)))) := rfl
set_option maxRecDepth 100000 in
theorem w0_74 (cA : Ca) (a a2 : Nat → Nat) (b t : Nat) : (roadW cA a ++ modelW cA a2)[74]? = some (adOf a a2 b t 74, celE (adOf a a2 b t) cA (M0 74) (.inr (.inl (0, 20)))) := rfl
set_option maxRecDepth 100000 in
theorem w0_75 (cA : Ca) (a a2 : Nat → Nat) (b t : Nat) : (roadW cA a ++ modelW cA a2)[75]? = some (adOf a a2 b t 75, celE (adOf a a2 b t) cA (M0 75) (.inr (.inl (0, 20)))) := rfl
set_option maxRecDepth 100000 in
theorem w0_76 (cA : Ca) (a a2 : Nat → Nat) (b t : Nat) : (roadW cA a ++ modelW cA a2)[76]? = some (adOf a a2 b t 76, celE (adOf a a2 b t) cA (M0 76) (.inr (.inl (0, 20)))) := rfl
set_option maxRecDepth 100000 in
theorem w0_77 (cA : Ca) (a a2 : Nat → Nat) (b t : Nat) : (roadW cA a ++ modelW cA a2)[77]? = some (adOf a a2 b t 77, celE (adOf a a2 b t) cA (M0 77) (.inr (.inl (0, 4)))) := by simp only [roadW, modelW, rl0_eq]; rfl
set_option maxRecDepth 100000 in
theorem w0_78 (cA : Ca) (a a2 : Nat → Nat) (b t : Nat) : (roadW cA a ++ modelW cA a2)[78]? = some (adOf a a2 b t 78, celE (adOf a a2 b t) cA (M0 78) (.inr (.inl (0, 16)))) := rfl
set_option maxRecDepth 100000 in
theorem w0_79 (cA : Ca) (a a2 : Nat → Nat) (b t : Nat) : (roadW cA a ++ modelW cA a2)[79]? = some (adOf a a2 b t 79, celE (adOf a a2 b t) cA (M0 79) (.inr (.inl (0, 16)))) := rfl
set_option maxRecDepth 100000 in
theorem w0_80 (cA : Ca) (a a2 : Nat → Nat) (b t : Nat) : (roadW cA a ++ modelW cA a2)[80]? = some (adOf a a2 b t 80, celE (adOf a a2 b t) cA (M0 80) (.inr (.inl (0, 144)))) := rfl
set_option maxRecDepth 100000 in
theorem w0_81 (cA : Ca) (a a2 : Nat → Nat) (b t : Nat) : (roadW cA a ++ modelW cA a2)[81]? = some (adOf a a2 b t 81, celE (adOf a a2 b t) cA (M0 81) (.inr (.inl (0, 320)))) := rfl
set_option maxRecDepth 100000 in
theorem w0_82 (cA : Ca) (a a2 : Nat → Nat) (b t : Nat) : (roadW cA a ++ modelW cA a2)[82]? = some (adOf a a2 b t 82, celE (adOf a a2 b t) cA (M0 82) (.inr (.inl (0, 320)))) := rfl
set_option maxRecDepth 100000 in
theorem w0_83 (cA : Ca) (a a2 : Nat → Nat) (b t : Nat) : (roadW cA a ++ modelW cA a2)[83]? = some (adOf a a2 b t 83, celE (adOf a a2 b t) cA (M0 83) (.inr (.inl (0, 320)))) := rfl
set_option maxRecDepth 100000 in
theorem w0_84 (cA : Ca) (a a2 : Nat → Nat) (b t : Nat) : (roadW cA a ++ modelW cA a2)[84]? = some (adOf a a2 b t 84, celE (adOf a a2 b t) cA (M0 84) (.inr (.inl (0, 320)))) := rfl
set_option maxRecDepth 100000 in
theorem w0_85 (cA : Ca) (a a2 : Nat → Nat) (b t : Nat) : (roadW cA a ++ modelW cA a2)[85]? = some (adOf a a2 b t 85, celE (adOf a a2 b t) cA (M0 85) (.inr (.inl (0, 16)))) := rfl
set_option maxRecDepth 100000 in
theorem w0_86 (cA : Ca) (a a2 : Nat → Nat) (b t : Nat) : (roadW cA a ++ modelW cA a2)[86]? = some (adOf a a2 b t 86, celE (adOf a a2 b t) cA (M0 86) (.inr (.inl (0, 16)))) := rfl
set_option maxRecDepth 100000 in
theorem w0_87 (cA : Ca) (a a2 : Nat → Nat) (b t : Nat) : (roadW cA a ++ modelW cA a2)[87]? = some (adOf a a2 b t 87, celE (adOf a a2 b t) cA (M0 87) (.inr (.inl (0, 16)))) := rfl
set_option maxRecDepth 100000 in
theorem w0_88 (cA : Ca) (a a2 : Nat → Nat) (b t : Nat) : (roadW cA a ++ modelW cA a2)[88]? = some (adOf a a2 b t 88, celE (adOf a a2 b t) cA (M0 88) (.inr (.inl (0, 16)))) := rfl
set_option maxRecDepth 100000 in
theorem w0_89 (cA : Ca) (a a2 : Nat → Nat) (b t : Nat) : (roadW cA a ++ modelW cA a2)[89]? = some (adOf a a2 b t 89, celE (adOf a a2 b t) cA (M0 89) (.inr (.inl (0, 260)))) := rfl
set_option maxRecDepth 100000 in
theorem w0_90 (cA : Ca) (a a2 : Nat → Nat) (b t : Nat) : (roadW cA a ++ modelW cA a2)[90]? = some (adOf a a2 b t 90, celE (adOf a a2 b t) cA (M0 90) (.inr (.inl (1, 2)))) := rfl
theorem w0_at (cA : Ca) (a a2 : Nat → Nat) (b t : Nat) : ∀ (k : Nat) (sh : Sh), tp[k]? = some sh → (roadW cA a ++ modelW cA a2)[pkF k]? = some (adOf a a2 b t k, celE (adOf a a2 b t) cA (M0 k) sh)
  | 0, _, h => by cases h; exact w0_0 cA a a2 b t
  | 1, _, h => by cases h; exact w0_1 cA a a2 b t
  | 2, _, h => by cases h; exact w0_2 cA a a2 b t
  | 3, _, h => by cases h; exact w0_3 cA a a2 b t
  | 4, _, h => by cases h; exact w0_4 cA a a2 b t
  | 5, _, h => by cases h; exact w0_5 cA a a2 b t
  | 6, _, h => by cases h; exact w0_6 cA a a2 b t
  | 7, _, h => by cases h; exact w0_7 cA a a2 b t
  | 8, _, h => by cases h; exact w0_8 cA a a2 b t
  | 9, _, h => by cases h; exact w0_9 cA a a2 b t
  | 10, _, h => by cases h; exact w0_10 cA a a2 b t
  | 11, _, h => by cases h; exact w0_11 cA a a2 b t
  | 12, _, h => by cases h; exact w0_12 cA a a2 b t
  | 13, _, h => by cases h; exact w0_13 cA a a2 b t
  | 14, _, h => by cases h; exact w0_14 cA a a2 b t
  | 15, _, h => by cases h; exact w0_15 cA a a2 b t
  | 16, _, h => by cases h; exact w0_16 cA a a2 b t
  | 17, _, h => by cases h; exact w0_17 cA a a2 b t
  | 18, _, h => by cases h; exact w0_18 cA a a2 b t
  | 19, _, h => by cases h; exact w0_19 cA a a2 b t
  | 20, _, h => by cases h; exact w0_20 cA a a2 b t
  | 21, _, h => by cases h; exact w0_21 cA a a2 b t
  | 22, _, h => by cases h; exact w0_22 cA a a2 b t
  | 23, _, h => by cases h; exact w0_23 cA a a2 b t
  | 24, _, h => by cases h; exact w0_24 cA a a2 b t
  | 25, _, h => by cases h; exact w0_25 cA a a2 b t
  | 26, _, h => by cases h; exact w0_26 cA a a2 b t
  | 27, _, h => by cases h; exact w0_27 cA a a2 b t
  | 28, _, h => by cases h; exact w0_28 cA a a2 b t
  | 29, _, h => by cases h; exact w0_29 cA a a2 b t
  | 30, _, h => by cases h; exact w0_30 cA a a2 b t
  | 31, _, h => by cases h; exact w0_31 cA a a2 b t
  | 32, _, h => by cases h; exact w0_32 cA a a2 b t
  | 33, _, h => by cases h; exact w0_33 cA a a2 b t
  | 34, _, h => by cases h; exact w0_34 cA a a2 b t
  | 35, _, h => by cases h; exact w0_35 cA a a2 b t
  | 36, _, h => by cases h; exact w0_36 cA a a2 b t
  | 37, _, h => by cases h; exact w0_37 cA a a2 b t
  | 38, _, h => by cases h; exact w0_38 cA a a2 b t
  | 39, _, h => by cases h; exact w0_39 cA a a2 b t
  | 40, _, h => by cases h; exact w0_40 cA a a2 b t
  | 41, _, h => by cases h; exact w0_41 cA a a2 b t
  | 42, _, h => by cases h; exact w0_42 cA a a2 b t
  | 43, _, h => by cases h; exact w0_43 cA a a2 b t
  | 44, _, h => by cases h; exact w0_44 cA a a2 b t
  | 45, _, h => by cases h; exact w0_45 cA a a2 b t
  | 46, _, h => by cases h; exact w0_46 cA a a2 b t
  | 47, _, h => by cases h; exact w0_47 cA a a2 b t
  | 48, _, h => by cases h; exact w0_48 cA a a2 b t
  | 49, _, h => by cases h; exact w0_49 cA a a2 b t
  | 50, _, h => by cases h; exact w0_50 cA a a2 b t
  | 51, _, h => by cases h; exact w0_51 cA a a2 b t
  | 52, _, h => by cases h; exact w0_52 cA a a2 b t
  | 53, _, h => by cases h; exact w0_53 cA a a2 b t
  | 54, _, h => by cases h; exact w0_54 cA a a2 b t
  | 55, _, h => by cases h; exact w0_55 cA a a2 b t
  | 56, _, h => by cases h; exact w0_56 cA a a2 b t
  | 57, _, h => by cases h; exact w0_57 cA a a2 b t
  | 58, _, h => by cases h; exact w0_58 cA a a2 b t
  | 59, _, h => by cases h; exact w0_59 cA a a2 b t
  | 60, _, h => by cases h; exact w0_60 cA a a2 b t
  | 61, _, h => by cases h; exact w0_61 cA a a2 b t
  | 62, _, h => by cases h; exact w0_62 cA a a2 b t
  | 63, _, h => by cases h; exact w0_63 cA a a2 b t
  | 64, _, h => by cases h; exact w0_64 cA a a2 b t
  | 65, _, h => by cases h; exact w0_65 cA a a2 b t
  | 66, _, h => by cases h; exact w0_66 cA a a2 b t
  | 67, _, h => by cases h; exact w0_67 cA a a2 b t
  | 68, _, h => by cases h; exact w0_68 cA a a2 b t
  | 69, _, h => by cases h; exact w0_69 cA a a2 b t
  | 70, _, h => by cases h; exact w0_70 cA a a2 b t
  | 71, _, h => by cases h; exact w0_71 cA a a2 b t
  | 72, _, h => by cases h; exact w0_72 cA a a2 b t
  | 73, _, h => by cases h; exact w0_73 cA a a2 b t
  | 74, _, h => by cases h; exact w0_74 cA a a2 b t
  | 75, _, h => by cases h; exact w0_75 cA a a2 b t
  | 76, _, h => by cases h; exact w0_76 cA a a2 b t
  | 77, _, h => by cases h; exact w0_77 cA a a2 b t
  | 78, _, h => by cases h; exact w0_78 cA a a2 b t
  | 79, _, h => by cases h; exact w0_79 cA a a2 b t
  | 80, _, h => by cases h; exact w0_80 cA a a2 b t
  | 81, _, h => by cases h; exact w0_81 cA a a2 b t
  | 82, _, h => by cases h; exact w0_82 cA a a2 b t
  | 83, _, h => by cases h; exact w0_83 cA a a2 b t
  | 84, _, h => by cases h; exact w0_84 cA a a2 b t
  | 85, _, h => by cases h; exact w0_85 cA a a2 b t
  | 86, _, h => by cases h; exact w0_86 cA a a2 b t
  | 87, _, h => by cases h; exact w0_87 cA a a2 b t
  | 88, _, h => by cases h; exact w0_88 cA a a2 b t
  | 89, _, h => by cases h; exact w0_89 cA a a2 b t
  | 90, _, h => by cases h; exact w0_90 cA a a2 b t
  | k + 91, _, h => by have := tp_lt h; omega
theorem w0_g {cA : Ca} {a a2 : Nat → Nat} {b t k : Nat} {q : Nat × va_E} (hk : (wld (adOf a a2 b t) cA M0)[k]? = some q) : (roadW cA a ++ modelW cA a2)[pkF k]? = some q := by
  unfold wld at hk
  rw [List.getElem?_mapIdx] at hk
  cases hs : tp[k]? with
  | none => rw [hs] at hk; cases hk
  | some sh => rw [hs] at hk; cases hk; exact w0_at cA a a2 b t k sh hs
theorem w0_P {D : va_G} {H : Heap} {cA : Ca} {a a2 : Nat → Nat} (b t : Nat) (h : va_P D vwCl (roadW cA a ++ modelW cA a2) H) : va_P D vwCl (wld (adOf a a2 b t) cA M0) H := fun k q hk => h _ q (w0_g hk)
theorem w0_D {A : Nat → Prop} {cA : Ca} {a a2 : Nat → Nat} (b t : Nat) (h : va_D A (roadW cA a ++ modelW cA a2)) : va_D A (wld (adOf a a2 b t) cA M0) := ⟨fun i j p q hi hj hpq => pkF_inj (h.1 _ _ p q (w0_g hi) (w0_g hj) hpq), fun k q hk => h.2 _ q (w0_g hk)⟩
theorem most_of {s : State} {b : Nat} (hgv : (Jvm.Cond.and given_1 narrow_1).before #[Value.ref b] s = true) (hts : ∀ w ∈ lw_tbl, w.before #[Value.ref b] s = true) : ∃ t : Nat, va_Z "RoadTrace$Rules" "MOST" "[I" (.ref t) (fun q => s.heap.size ≤ q) s s.heap ∧ va_T .int t 4 mostV (fun q => s.heap.size ≤ q) s s.heap := by
  have hs := flat_of_before _ hgv
  have harr : (Jvm.Cond.arrayOf (.static "RoadTrace$Rules" "MOST" "[I") .int).before #[Value.ref b] s = true := hs _ (by decide +kernel)
  have hlen : (Jvm.Cond.eq (.length (.static "RoadTrace$Rules" "MOST" "[I")) (.int 4)).before #[Value.ref b] s = true := hs _ (by decide +kernel)
  have h0 : (Jvm.Cond.eq (.elem (.static "RoadTrace$Rules" "MOST" "[I") (.int 0)) (.int 8)).before #[Value.ref b] s = true := hs _ (by decide +kernel)
  have h1 : (Jvm.Cond.eq (.elem (.static "RoadTrace$Rules" "MOST" "[I") (.int 1)) (.int 9)).before #[Value.ref b] s = true := hs _ (by decide +kernel)
  have h2 : (Jvm.Cond.eq (.elem (.static "RoadTrace$Rules" "MOST" "[I") (.int 2)) (.int 9)).before #[Value.ref b] s = true := hs _ (by decide +kernel)
  have h3 : (Jvm.Cond.eq (.elem (.static "RoadTrace$Rules" "MOST" "[I") (.int 3)) (.int 99)).before #[Value.ref b] s = true := hs _ (by decide +kernel)
  have hA : ∀ a : Nat, a < s.heap.size → ¬ (fun q => s.heap.size ≤ q) a := fun a h => Nat.not_le.mpr h
  obtain ⟨t, ht, hT⟩ := va_Tof (tm := .static "RoadTrace$Rules" "MOST" "[I") (N := 4) (f := mostV) (A := fun q => s.heap.size ≤ q) (by decide) harr (va_eqt hlen) (fun j hj => by
    rcases (show j = 0 ∨ j = 1 ∨ j = 2 ∨ j = 3 by omega) with rfl | rfl | rfl | rfl
    · exact va_eqt h0
    · exact va_eqt h1
    · exact va_eqt h2
    · exact va_eqt h3) hA
  exact ⟨t, va_Zof (hts _ (List.mem_of_getElem? (i := 254) (by decide +kernel))) (hts _ (List.mem_of_getElem? (i := 51) (by decide +kernel))) ht hA, hT⟩
theorem known_of {s : State} {b : Nat} (hts : ∀ w ∈ lw_tbl, w.before #[Value.ref b] s = true) : ∃ (D : va_G) (cA : Ca), va_K D vwCl (tysW cA) s := by
  obtain ⟨c0, iS0, hKn0⟩ := u_known (C := RX0) (T := TX0) (N := 9) (n := 9) hts (fun w h => gw_in w (inX0 w h)) (hts (.instantiable RX0 9) (List.mem_of_getElem? (i := 72) (by decide +kernel)))
  obtain ⟨c1, iS1, hKn1⟩ := u_known (C := RX1) (T := TX1) (N := 1) (n := 1) hts (fun w h => gw_in w (inX1 w h)) (hts (.instantiable RX1 1) (List.mem_of_getElem? (i := 110) (by decide +kernel)))
  obtain ⟨c2, iS2, hKn2⟩ := u_known (C := RX2) (T := TX2) (N := 4) (n := 4) hts (fun w h => gw_in w (inX2 w h)) (hts (.instantiable RX2 4) (List.mem_of_getElem? (i := 66) (by decide +kernel)))
  obtain ⟨c3, iS3, hKn3⟩ := u_known (C := RX3) (T := TX3) (N := 14) (n := 14) hts (fun w h => gw_in w (inX3 w h)) (hts (.instantiable RX3 14) (List.mem_of_getElem? (i := 121) (by decide +kernel)))
  obtain ⟨c4, iS4, hKn4⟩ := u_known (C := RX4) (T := TX4) (N := 2) (n := 2) hts (fun w h => gw_in w (inX4 w h)) (hts (.instantiable RX4 2) (List.mem_of_getElem? (i := 58) (by decide +kernel)))
  obtain ⟨c5, iS5, hKn5⟩ := u_known (C := RX5) (T := TX5) (N := 23) (n := 23) hts (fun w h => gw_in w (inX5 w h)) (hts (.instantiable RX5 23) (List.mem_of_getElem? (i := 572) (by decide +kernel)))
  obtain ⟨cI, kI, pI, i1, i2, i3⟩ := Jvm.Cond.arrayClass_spec (hts (.arrayClass .int) (List.mem_of_getElem? (i := 108) (by decide +kernel)))
  obtain ⟨cZ, kZ, pZ, z1, z2, z3⟩ := Jvm.Cond.arrayClass_spec (hts (.arrayClass .boolean) (List.mem_of_getElem? (i := 173) (by decide +kernel)))
  obtain ⟨pS, cS, kS, s1, s2, s3, s4, s5⟩ := Jvm.Cond.arrayOver_spec (hts (.arrayOver (.object "RoadTrace$State")) (List.mem_of_getElem? (i := 191) (by decide +kernel)))
  refine ⟨(fun k => if k = 0 then c0 else if k = 1 then c1 else if k = 2 then c2 else if k = 3 then c3 else if k = 4 then c4 else c5, fun k => if k = 0 then iS0 else if k = 1 then iS1 else if k = 2 then iS2 else if k = 3 then iS3 else if k = 4 then iS4 else iS5), (cI, cZ, cS), ?_, ?_⟩
  · intro k q hq
    match k, hq with
    | 0, hq => cases hq; exact hKn0
    | 1, hq => cases hq; exact hKn1
    | 2, hq => cases hq; exact hKn2
    | 3, hq => cases hq; exact hKn3
    | 4, hq => cases hq; exact hKn4
    | 5, hq => cases hq; exact hKn5
    | k + 6, hq => simp [vwCl] at hq
  · intro k q hq
    match k, hq with
    | 0, hq => cases hq; exact ⟨fun n z => ⟨fun k h => (by cases h), kI, i2, pI, i3⟩, i1⟩
    | 1, hq => cases hq; exact ⟨fun n z => ⟨fun k h => (by cases h), kZ, z2, pZ, z3⟩, z1⟩
    | 2, hq => cases hq; exact ⟨fun n z => ⟨fun k h => (by cases h), kS, s3, pS, s4⟩, kS, pS, s3, s4, s1, s5⟩
    | k + 3, hq => simp [tysW] at hq
/-- what is left: the law's loop as a function answers 1 -/
def LawPure : Prop := ∀ (xs : Nat → Int) (L : Nat), L ≤ 2048 → (∀ j, inR (xs j)) → fL_law_L18 xs (L : Int) 1000 0 M0 = some 1
set_option maxHeartbeats 4000000 in
set_option maxRecDepth 100000 in
theorem whole_start_of (hpure : LawPure) {p : Program} {e : Env} {s : State} {m : MethodId} {below : List Frame} {meth : Method} {c : Code} (l : Launch) {b L : Nat} {xs : Nat → Int32} (hL : L ≤ 2048) (C0 : lw_At p s m meth c b L xs) : W p l e room_1 s m #[Value.ref b] below meth c s.heap [] 0 0 (lw_Z below #[Value.ref b] s) (entryFrame m ([Value.ref b] : List Value).toArray 4) := by
  obtain ⟨hx, hb, hr, hml, hown, hts, hX, hbl, hlocks, hgv⟩ := id C0
  obtain ⟨t, hZ, hT⟩ := most_of hgv hts
  obtain ⟨D, cA, hK⟩ := known_of hts
  have htg : ∀ w ∈ gw_tbl, w.before #[Value.ref b] s = true := fun w h => hts w (gw_in w h)
  have hl0 := lv_entry ([.ref b]) (n := 4) (Nat.le_of_ble_eq_true rfl)
  rw [lg_entry_eq]
  generalize hA0 : (fun q : Nat => s.heap.size ≤ q) = A at hZ hT
  have hA : ∀ x, s.heap.size ≤ x → A x := fun x h => by rw [← hA0]; exact h
  have hA2 : ∀ x, A x → s.heap.size ≤ x := fun x h => by rw [← hA0] at h; exact h
  have hP0 : va_P D vwCl [] s.heap := fun k q h => by simp at h
  have hD0 : va_D A [] := ⟨fun i j p q h => by simp at h, fun k q h => by simp at h⟩
  obtain ⟨ad0, -⟩ : ∃ ad0 : Nat → Nat, ad0 = fun _ => 0 := ⟨_, rfl⟩
  have hY : Bx RL code 4 11 448 ((l, D, cA, ad0, A), p, e, room_1, s, m, #[Value.ref b], below, meth, c, lw_Z below #[Value.ref b] s) := ⟨hx, hb, hml, hown, htg, hlocks, hK, hA, by decide, by decide, va_AO.of (hts (.arrayOver (.object "RoadTrace$State")) (List.mem_of_getElem? (i := 191) (by decide +kernel)))⟩
  suffices hB : Bw ((l, D, cA, ad0, A), p, e, room_1, s, m, #[Value.ref b], below, meth, c, lw_Z below #[Value.ref b] s) ([] ++ []) 0 0 0 [(0, .ref b)] [] from hB s.heap [] _ hP0 hD0 va_S.rf (by rw [hml]; exact hl0)
  refine b_new (ci := 4) (C := RX4) (T := TX4) (N := 2) (fs := [.null, .null]) hY rfl tyX4 tyX4_ok ⟨ts10, ts11, ts1⟩ (by decide +kernel) ⟨by decide, by decide⟩ eL_0 (fun q1 => ?_)
  refine b_dup hY rfl eL_3 ?_
  refine b_call (cells := 1) (slots := 2) (wr := []) (w := []) (as := []) (a := q1) (st := [.ref q1]) hY (cX4_init (l, D, cA, ad0, A) q1 _) ⟨ts14, ts1, ts12, ts13, rfl, by decide +kernel, by decide +kernel⟩ 0 1 ⟨by decide +kernel, by decide, by decide, by decide⟩ rfl rfl ⟨by decide, by decide⟩ eL_4 ?_
  rintro ws ⟨a, rfl, rfl⟩
  refine b_astore (wr := []) (i := 1) (lv' := [(1, .ref (a 0)), (0, .ref b)]) hY rfl (by decide) rfl eL_7 ?_
  refine b_new (ci := 5) (C := RX5) (T := TX5) (N := 23) (fs := [.null, .null, .int 0, .null, .null, .null, .int 0, .null, .null, .null, .int 0, .null, .null, .null, .null, .null, .null, .null, .null, .null, .int 0, .null, .null]) hY rfl tyX5 tyX5_ok ⟨ts524, ts525, ts6⟩ (by decide +kernel) ⟨by decide, by decide⟩ eL_8 (fun q2 => ?_)
  refine b_dup hY rfl eL_11 ?_
  refine b_call (cells := 72) (slots := 5043) (wr := []) (w := (roadW cA a)) (as := []) (a := q2) (st := [.ref q2]) hY (cX5_init (l, D, cA, ad0, A) q2 _) ⟨ts528, ts6, ts526, ts527, rfl, by decide +kernel, by decide +kernel⟩ 0 1 ⟨by decide +kernel, by decide, by decide, by decide⟩ rfl rfl ⟨by decide, by decide⟩ eL_12 ?_
  rintro ws ⟨a2, rfl, rfl⟩
  rw [List.append_assoc]
  refine b_astore (wr := []) (i := 2) (lv' := [(2, .ref (a2 0)), (1, .ref (a 0)), (0, .ref b)]) hY rfl (by decide) rfl eL_15 ?_
  refine b_iconst (wr := []) (x := 0) hY (by decide) eL_16 ?_
  refine b_istore (wr := []) (i := 3) (lv' := [(3, .int 0), (2, .ref (a2 0)), (1, .ref (a 0)), (0, .ref b)]) hY rfl (by decide) rfl eL_17 ?_
  intro H locs ls hP hD hS hl
  refine W.widen (k := 600000) (n := 7302250) (Nat.le_of_ble_eq_true rfl) (Nat.le_of_ble_eq_true rfl) ?_
  have hP1 := w0_P (cA := cA) (a := a) (a2 := a2) b t hP
  have hD1 := w0_D (cA := cA) (a := a) (a2 := a2) b t hD
  have hz : Cx qL_law ((l, D, cA, adOf a a2 b t, A), p, e, room_1, s, m, #[Value.ref b], below, meth, c, 600000, 7302250, lw_Z below #[Value.ref b] s) := ⟨hx, hb, hml, hown, htg, hr, hlocks, hK, hA, ⟨hZ, hT⟩, by decide, by decide, Nat.le_of_ble_eq_true rfl, Nat.le_of_ble_eq_true rfl⟩
  have hZz : Lz ((l, D, cA, adOf a a2 b t, A), p, e, room_1, s, m, #[Value.ref b], below, meth, c, 600000, 7302250, lw_Z below #[Value.ref b] s) := ⟨rfl, ⟨b, rfl⟩, rfl, rfl, rfl, hA2⟩
  have hXs : Xs (L : Int) (fun j => (xs j).toInt) ((l, D, cA, adOf a a2 b t, A), p, e, room_1, s, m, #[Value.ref b], below, meth, c, 600000, 7302250, lw_Z below #[Value.ref b] s) := ⟨L, xs, rfl, hL, hX, hbl, fun h => absurd (hA2 _ h) (Nat.not_le.mpr hbl), fun _ => rfl⟩
  have h1 := hpure (fun j => (xs j).toInt) L hL (fun j => i32_of _)
  have h2 : OK (fL_law_L18 (fun j => (xs j).toInt) (L : Int) 1000 0 M0) (fun r2 => r2 = 1) := by rw [h1]; exact rfl
  refine mL_law_L18 hz hZz hXs 1000 0 M0 h2 M0_ok ?_ (fun v hv => by cases hv) H locs ls hP1 hD1 hS ?_
  · intro i v hi
    match i, hi with
    | 0, hi => cases hi; trivial
    | 1, hi => cases hi; trivial
    | 2, hi => cases hi; trivial
    | 3, hi => cases hi; exact (by decide : inR 0)
    | i + 4, hi => simp at hi
  · refine ⟨hl.1, hl.2.1, fun x hx => hl.2.2 x ?_⟩
    obtain ⟨v, e1, e2⟩ := mem_lvl.mp hx
    obtain ⟨i, w⟩ := x
    match i, e1, e2 with
    | 0, e1, e2 => cases e1; rw [show w = _ from e2]; exact List.mem_of_getElem? (i := 3) rfl
    | 1, e1, e2 => cases e1; rw [show w = _ from e2]; exact List.mem_of_getElem? (i := 2) rfl
    | 2, e1, e2 => cases e1; rw [show w = _ from e2]; exact List.mem_of_getElem? (i := 1) rfl
    | 3, e1, e2 => cases e1; rw [show w = _ from e2]; exact List.mem_of_getElem? (i := 0) rfl
    | i + 4, e1, e2 => simp at e1
