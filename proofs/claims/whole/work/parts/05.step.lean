def MD (q : MI) : Prop := (∀ x ∈ qC q, decode (qB q) x.1 = .ok (x.2.1, x.2.2)) ∧ (∀ x ∈ qF q, FOk q.1 x) ∧ ∀ x ∈ qK q, inR x.2 ∧ Jvm.Cond.constant q.1 x.1 (Int32.ofInt x.2) ∈ gw_tbl
theorem md {q : MI} (h : MOk q) : MD q := ⟨h.1, h.2.1, h.2.2.1⟩
/-! THE STEP as a function: a stretch of instructions is run by computing -/
abbrev Rs : Type := Nat × List (Option Av) × List Av × Mm × Option Prop
def ilen : Instr → Nat
  | .iload _ | .aload _ | .istore _ | .astore _ | .bipush _ | .ldc _ => 2
  | .sipush _ | .ldc_w _ | .iinc _ _ | .goto _ | .if_icmp _ _ | .ifCond _ _ | .getfield _ | .putfield _ => 3
  | _ => 1
def needO : Instr → Bool
  | .if_icmp _ _ | .ifCond _ _ | .tableswitch _ _ _ _ | .aaload => true
  | _ => false
def stp (q : MI) (o pc : Nat) (lv : List (Option Av)) (st : List Av) (M : Mm) : Instr → Option Rs
  | .iload i => match ldV lv i with
    | some (.inl v) => some (pc + 2, lv, .inl v :: st, M, none)
    | _ => none
  | .iload_n i => match ldV lv (i : Nat) with
    | some (.inl v) => some (pc + 1, lv, .inl v :: st, M, none)
    | _ => none
  | .aload i => match ldV lv i with
    | some (.inr v) => some (pc + 2, lv, .inr v :: st, M, none)
    | _ => none
  | .aload_n i => match ldV lv (i : Nat) with
    | some (.inr v) => some (pc + 1, lv, .inr v :: st, M, none)
    | _ => none
  | .istore i => match st with
    | .inl v :: st => if i < qN q then some (pc + 2, lv.set i (some (.inl v)), st, M, none) else none
    | _ => none
  | .istore_n i => match st with
    | .inl v :: st => if (i : Nat) < qN q then some (pc + 1, lv.set (i : Nat) (some (.inl v)), st, M, none) else none
    | _ => none
  | .astore i => match st with
    | .inr v :: st => if i < qN q then some (pc + 2, lv.set i (some (.inr v)), st, M, none) else none
    | _ => none
  | .astore_n i => match st with
    | .inr v :: st => if (i : Nat) < qN q then some (pc + 1, lv.set (i : Nat) (some (.inr v)), st, M, none) else none
    | _ => none
  | .iconst v => if -128 ≤ v ∧ v ≤ 127 then some (pc + 1, lv, .inl v :: st, M, none) else none
  | .bipush v => if -128 ≤ v ∧ v ≤ 127 then some (pc + 2, lv, .inl v :: st, M, none) else none
  | .sipush v => if -32768 ≤ v ∧ v ≤ 32767 then some (pc + 3, lv, .inl v :: st, M, none) else none
  | .ldc i => match (qK q).find? (fun x => x.1 == i) with
    | some x => some (pc + 2, lv, .inl x.2 :: st, M, none)
    | none => none
  | .ldc_w i => match (qK q).find? (fun x => x.1 == i) with
    | some x => some (pc + 3, lv, .inl x.2 :: st, M, none)
    | none => none
  | .iadd => match st with
    | .inl b :: .inl a :: st => some (pc + 1, lv, .inl (a + b) :: st, M, some (inR (a + b)))
    | _ => none
  | .isub => match st with
    | .inl b :: .inl a :: st => some (pc + 1, lv, .inl (a - b) :: st, M, some (inR (a - b)))
    | _ => none
  | .imul => match st with
    | .inl b :: .inl a :: st => some (pc + 1, lv, .inl (a * b) :: st, M, some (inR (a * b)))
    | _ => none
  | .ineg => match st with
    | .inl a :: st => some (pc + 1, lv, .inl (-a) :: st, M, some (inR (-a)))
    | _ => none
  | .idiv => match st with
    | .inl b :: .inl a :: st => some (pc + 1, lv, .inl (a.tdiv b) :: st, M, some (¬ b = 0 ∧ ¬ b = -1))
    | _ => none
  | .irem => match st with
    | .inl b :: .inl a :: st => some (pc + 1, lv, .inl (a.tmod b) :: st, M, some (¬ b = 0 ∧ ¬ b = -1))
    | _ => none
  | .ishl => match st with
    | .inl b :: .inl a :: st => some (pc + 1, lv, .inl (ishlI a b) :: st, M, none)
    | _ => none
  | .ishr => match st with
    | .inl b :: .inl a :: st => some (pc + 1, lv, .inl (ishrI a b) :: st, M, none)
    | _ => none
  | .iushr => match st with
    | .inl b :: .inl a :: st => some (pc + 1, lv, .inl (iushrI a b) :: st, M, none)
    | _ => none
  | .iand => match st with
    | .inl b :: .inl a :: st => some (pc + 1, lv, .inl (iandI a b) :: st, M, none)
    | _ => none
  | .ior => match st with
    | .inl b :: .inl a :: st => some (pc + 1, lv, .inl (iorI a b) :: st, M, none)
    | _ => none
  | .iinc i n => match ldV lv i with
    | some (.inl v) => if i < qN q then some (pc + 3, lv.set i (some (.inl (v + n))), st, M, some (inR (v + n))) else none
    | _ => none
  | .goto off => if 0 ≤ (pc : Int) + off then some (((pc : Int) + off).toNat, lv, st, M, none) else none
  | .if_icmp c off => match st with
    | .inl b :: .inl a :: st => if 0 ≤ (pc : Int) + off then (if o = 1 then some (((pc : Int) + off).toNat, lv, st, M, some (cmpP c a b)) else some (pc + 3, lv, st, M, some (¬ cmpP c a b))) else none
    | _ => none
  | .ifCond c off => match st with
    | .inl a :: st => if 0 ≤ (pc : Int) + off then (if o = 1 then some (((pc : Int) + off).toNat, lv, st, M, some (cmpP c a 0)) else some (pc + 3, lv, st, M, some (¬ cmpP c a 0))) else none
    | _ => none
  | .dup => match st with
    | v :: st => some (pc + 1, lv, v :: v :: st, M, none)
    | _ => none
  | .dup2 => match st with
    | v :: w :: st => some (pc + 1, lv, v :: w :: v :: w :: st, M, none)
    | _ => none
  | .tableswitch d lo hi offs => match st with
    | .inl a :: st => match offs[o]? with
      | some off => if lo + o ≤ hi ∧ 0 ≤ (pc : Int) + off then some (((pc : Int) + off).toNat, lv, st, M, some (a = lo + o)) else none
      | none => if 0 ≤ (pc : Int) + d then some (((pc : Int) + d).toNat, lv, st, M, some (a < lo ∨ hi < a)) else none
    | _ => none
  | .getfield i => match st with
    | .inr a :: st => match (qF q).find? (fun x => x.1 == i) with
      | some x => match tp[a]? with
        | some (.inl y) => if x.2.1 = y.1 then (match y.2[x.2.2]? with
          | some none => some (pc + 3, lv, .inl (M a x.2.2) :: st, M, none)
          | some (some b) => some (pc + 3, lv, .inr b :: st, M, none)
          | none => none) else none
        | _ => none
      | none => none
    | _ => none
  | .putfield i => match st with
    | .inl v :: .inr a :: st => match (qF q).find? (fun x => x.1 == i) with
      | some x => match tp[a]? with
        | some (.inl y) => if x.2.1 = y.1 then (match y.2[x.2.2]? with
          | some none => match putF x.2.1 x.2.2 with
            | some true => some (pc + 3, lv, st, up M a x.2.2 v, some (v = 0 ∨ v = 1))
            | some false => some (pc + 3, lv, st, up M a x.2.2 v, none)
            | none => none
          | _ => none) else none
        | _ => none
      | none => none
    | _ => none
  | .iaload => match st with
    | .inl i :: .inr a :: st => if a = 999 then some (pc + 1, lv, .inl (M a i.toNat) :: st, M, some (0 ≤ i ∧ i < 4)) else match tp[a]? with
      | some (.inr (.inl (0, n))) => some (pc + 1, lv, .inl (M a i.toNat) :: st, M, some (0 ≤ i ∧ i < (n : Int)))
      | _ => none
    | _ => none
  | .baload => match st with
    | .inl i :: .inr a :: st => match tp[a]? with
      | some (.inr (.inl (1, n))) => some (pc + 1, lv, .inl (M a i.toNat) :: st, M, some (0 ≤ i ∧ i < (n : Int)))
      | _ => none
    | _ => none
  | .iastore => match st with
    | .inl v :: .inl i :: .inr a :: st => match tp[a]? with
      | some (.inr (.inl (0, n))) => some (pc + 1, lv, st, up M a i.toNat v, some (0 ≤ i ∧ i < (n : Int)))
      | _ => none
    | _ => none
  | .bastore => match st with
    | .inl v :: .inl i :: .inr a :: st => match tp[a]? with
      | some (.inr (.inl (1, n))) => some (pc + 1, lv, st, up M a i.toNat v, some ((0 ≤ i ∧ i < (n : Int)) ∧ (v = 0 ∨ v = 1)))
      | _ => none
    | _ => none
  | .aaload => match st with
    | .inl i :: .inr a :: st => match tp[a]? with
      | some (.inr (.inr rs)) => match rs[o]? with
        | some b => some (pc + 1, lv, .inr b :: st, M, some (i = (o : Int)))
        | none => none
      | _ => none
    | _ => none
  | _ => none
theorem mem_find {α : Type} {l : List α} {p : α → Bool} {x : α} (h : l.find? p = some x) : x ∈ l ∧ p x = true := ⟨List.mem_of_find?_eq_some h, List.find?_some h⟩
def okLen (x : Instr) (n : Nat) : Bool := match x with
  | .tableswitch _ _ _ _ => true
  | x => n == ilen x
theorem tgt_of {pc : Nat} {off : Int} (h : 0 ≤ (pc : Int) + off) : (pc : Int) + off = ((((pc : Int) + off).toNat : Nat) : Int) := (Int.toNat_of_nonneg h).symm
set_option maxHeartbeats 4000000 in
theorem stp_ok {q : MI} {z : Zx} (hq : MD q) (hz : Cx q z) {o pc n : Nat} {lv : List (Option Av)} {st : List Av} {M : Mm} {x : Instr} {r : Rs} (hd : decode (qB q) pc = .ok (x, n)) (hn : okLen x n = true) (h : stp q o pc lv st M x = some r) (hP : r.2.2.2.2.getD True) (k : Aw z r.1 r.2.1 r.2.2.1 r.2.2.2.1) : Aw z pc lv st M := by
  cases x
  case iload i =>
    have hn : n = 2 := by simpa [okLen, ilen] using hn
    subst hn
    simp only [stp] at h
    split at h
    · rename_i v e
      cases h
      exact a_iload hz hd (ldV_at e) k
    · cases h
  case iload_n i =>
    have hn : n = 1 := by simpa [okLen, ilen] using hn
    subst hn
    simp only [stp] at h
    split at h
    · rename_i v e
      cases h
      exact a_iload_n hz rfl hd (ldV_at e) k
    · cases h
  case aload i =>
    have hn : n = 2 := by simpa [okLen, ilen] using hn
    subst hn
    simp only [stp] at h
    split at h
    · rename_i v e
      cases h
      exact a_aload hz hd (ldV_at e) k
    · cases h
  case aload_n i =>
    have hn : n = 1 := by simpa [okLen, ilen] using hn
    subst hn
    simp only [stp] at h
    split at h
    · rename_i v e
      cases h
      exact a_aload_n hz rfl hd (ldV_at e) k
    · cases h
  case istore i =>
    have hn : n = 2 := by simpa [okLen, ilen] using hn
    subst hn
    simp only [stp] at h
    split at h
    · split at h
      · rename_i hi
        cases h
        exact a_istore hz hi hd k
      · cases h
    · cases h
  case istore_n i =>
    have hn : n = 1 := by simpa [okLen, ilen] using hn
    subst hn
    simp only [stp] at h
    split at h
    · split at h
      · rename_i hi
        cases h
        exact a_istore_n hz hi rfl hd k
      · cases h
    · cases h
  case astore i =>
    have hn : n = 2 := by simpa [okLen, ilen] using hn
    subst hn
    simp only [stp] at h
    split at h
    · split at h
      · rename_i hi
        cases h
        exact a_astore hz hi hd k
      · cases h
    · cases h
  case astore_n i =>
    have hn : n = 1 := by simpa [okLen, ilen] using hn
    subst hn
    simp only [stp] at h
    split at h
    · split at h
      · rename_i hi
        cases h
        exact a_astore_n hz hi rfl hd k
      · cases h
    · cases h
  case iconst v =>
    have hn : n = 1 := by simpa [okLen, ilen] using hn
    subst hn
    simp only [stp] at h
    split at h
    · rename_i hi
      cases h
      exact a_iconst hz ⟨by omega, by omega⟩ hd k
    · cases h
  case bipush v =>
    have hn : n = 2 := by simpa [okLen, ilen] using hn
    subst hn
    simp only [stp] at h
    split at h
    · rename_i hi
      cases h
      exact a_bipush hz hi hd k
    · cases h
  case sipush v =>
    have hn : n = 3 := by simpa [okLen, ilen] using hn
    subst hn
    simp only [stp] at h
    split at h
    · rename_i hi
      cases h
      exact a_sipush hz hi hd k
    · cases h
  case ldc i =>
    have hn : n = 2 := by simpa [okLen, ilen] using hn
    subst hn
    simp only [stp] at h
    split at h
    · rename_i x e
      cases h
      obtain ⟨e1, e2⟩ := mem_find e
      have e3 : x.1 = i := by simpa using e2
      subst e3
      obtain ⟨h1, h2⟩ := hq.2.2 x e1
      exact a_ldc hz h1 h2 hd k
    · cases h
  case ldc_w i =>
    have hn : n = 3 := by simpa [okLen, ilen] using hn
    subst hn
    simp only [stp] at h
    split at h
    · rename_i x e
      cases h
      obtain ⟨e1, e2⟩ := mem_find e
      have e3 : x.1 = i := by simpa using e2
      subst e3
      obtain ⟨h1, h2⟩ := hq.2.2 x e1
      exact a_ldc_w hz h1 h2 hd k
    · cases h
  case iadd  =>
    have hn : n = 1 := by simpa [okLen, ilen] using hn
    subst hn
    simp only [stp] at h
    split at h
    · cases h
      exact a_iadd hz hP hd k
    · cases h
  case isub  =>
    have hn : n = 1 := by simpa [okLen, ilen] using hn
    subst hn
    simp only [stp] at h
    split at h
    · cases h
      exact a_isub hz hP hd k
    · cases h
  case imul  =>
    have hn : n = 1 := by simpa [okLen, ilen] using hn
    subst hn
    simp only [stp] at h
    split at h
    · cases h
      exact a_imul hz hP hd k
    · cases h
  case idiv  =>
    have hn : n = 1 := by simpa [okLen, ilen] using hn
    subst hn
    simp only [stp] at h
    split at h
    · cases h
      exact a_idiv hz hP hd k
    · cases h
  case irem  =>
    have hn : n = 1 := by simpa [okLen, ilen] using hn
    subst hn
    simp only [stp] at h
    split at h
    · cases h
      exact a_irem hz hP hd k
    · cases h
  case ineg  =>
    have hn : n = 1 := by simpa [okLen, ilen] using hn
    subst hn
    simp only [stp] at h
    split at h
    · cases h
      exact a_ineg hz hP hd k
    · cases h
  case ishl  =>
    have hn : n = 1 := by simpa [okLen, ilen] using hn
    subst hn
    simp only [stp] at h
    split at h
    · cases h
      exact a_ishl hz hd k
    · cases h
  case ishr  =>
    have hn : n = 1 := by simpa [okLen, ilen] using hn
    subst hn
    simp only [stp] at h
    split at h
    · cases h
      exact a_ishr hz hd k
    · cases h
  case iushr  =>
    have hn : n = 1 := by simpa [okLen, ilen] using hn
    subst hn
    simp only [stp] at h
    split at h
    · cases h
      exact a_iushr hz hd k
    · cases h
  case iand  =>
    have hn : n = 1 := by simpa [okLen, ilen] using hn
    subst hn
    simp only [stp] at h
    split at h
    · cases h
      exact a_iand hz hd k
    · cases h
  case ior  =>
    have hn : n = 1 := by simpa [okLen, ilen] using hn
    subst hn
    simp only [stp] at h
    split at h
    · cases h
      exact a_ior hz hd k
    · cases h
  case dup  =>
    have hn : n = 1 := by simpa [okLen, ilen] using hn
    subst hn
    simp only [stp] at h
    split at h
    · cases h
      exact a_dup hz hd k
    · cases h
  case dup2  =>
    have hn : n = 1 := by simpa [okLen, ilen] using hn
    subst hn
    simp only [stp] at h
    split at h
    · cases h
      exact a_dup2 hz hd k
    · cases h
  case iinc i v =>
    have hn : n = 3 := by simpa [okLen, ilen] using hn
    subst hn
    simp only [stp] at h
    split at h
    · rename_i w e
      split at h
      · rename_i hi
        cases h
        exact a_iinc hz hi (ldV_at e) hP hd k
      · cases h
    · cases h
  case goto off =>
    have hn : n = 3 := by simpa [okLen, ilen] using hn
    subst hn
    simp only [stp] at h
    split at h
    · rename_i hi
      cases h
      exact a_goto hz (tgt_of hi) hd k
    · cases h
  case if_icmp c off =>
    have hn : n = 3 := by simpa [okLen, ilen] using hn
    subst hn
    simp only [stp] at h
    split at h
    · split at h
      · rename_i hi
        split at h
        · cases h
          cases c
          · exact a_icmp_eq_t hz (tgt_of hi) hP hd k
          · exact a_icmp_ne_t hz (tgt_of hi) hP hd k
          · exact a_icmp_lt_t hz (tgt_of hi) hP hd k
          · exact a_icmp_ge_t hz (tgt_of hi) hP hd k
          · exact a_icmp_gt_t hz (tgt_of hi) hP hd k
          · exact a_icmp_le_t hz (tgt_of hi) hP hd k
        · cases h
          cases c
          · exact a_icmp_eq_f hz (tgt_of hi) hP hd k
          · exact a_icmp_ne_f hz (tgt_of hi) hP hd k
          · exact a_icmp_lt_f hz (tgt_of hi) hP hd k
          · exact a_icmp_ge_f hz (tgt_of hi) hP hd k
          · exact a_icmp_gt_f hz (tgt_of hi) hP hd k
          · exact a_icmp_le_f hz (tgt_of hi) hP hd k
      · cases h
    · cases h
  case ifCond c off =>
    have hn : n = 3 := by simpa [okLen, ilen] using hn
    subst hn
    simp only [stp] at h
    split at h
    · split at h
      · rename_i hi
        split at h
        · cases h
          cases c
          · exact a_if_eq_t hz (tgt_of hi) hP hd k
          · exact a_if_ne_t hz (tgt_of hi) hP hd k
          · exact a_if_lt_t hz (tgt_of hi) hP hd k
          · exact a_if_ge_t hz (tgt_of hi) hP hd k
          · exact a_if_gt_t hz (tgt_of hi) hP hd k
          · exact a_if_le_t hz (tgt_of hi) hP hd k
        · cases h
          cases c
          · exact a_if_eq_f hz (tgt_of hi) hP hd k
          · exact a_if_ne_f hz (tgt_of hi) hP hd k
          · exact a_if_lt_f hz (tgt_of hi) hP hd k
          · exact a_if_ge_f hz (tgt_of hi) hP hd k
          · exact a_if_gt_f hz (tgt_of hi) hP hd k
          · exact a_if_le_f hz (tgt_of hi) hP hd k
      · cases h
    · cases h
  case tableswitch d lo hi offs =>
    simp only [stp] at h
    split at h
    · split at h
      · rename_i off e
        split at h
        · rename_i hi
          cases h
          exact a_tabIn hz hP hi.1 e (tgt_of hi.2) hd k
        · cases h
      · split at h
        · rename_i hi
          cases h
          exact a_tabOut hz hP (tgt_of hi) hd k
        · cases h
    · cases h
  case getfield i =>
    have hn : n = 3 := by simpa [okLen, ilen] using hn
    subst hn
    simp only [stp] at h
    split at h
    · split at h
      · rename_i x e
        obtain ⟨e1, e2⟩ := mem_find e
        have e3 : x.1 = i := by simpa using e2
        subst e3
        split at h
        · rename_i y ey
          split at h
          · rename_i hc
            obtain ⟨x1, x2, x3⟩ := x
            obtain ⟨y1, y2⟩ := y
            cases hc
            split at h
            · rename_i ef
              cases h
              exact a_getI hz (hq.2.1 _ e1) ey ef hd k
            · rename_i b ef
              cases h
              exact a_getR hz (hq.2.1 _ e1) ey ef hd k
            · cases h
          · cases h
        · cases h
      · cases h
    · cases h
  case putfield i =>
    have hn : n = 3 := by simpa [okLen, ilen] using hn
    subst hn
    simp only [stp] at h
    split at h
    · split at h
      · rename_i x e
        obtain ⟨e1, e2⟩ := mem_find e
        have e3 : x.1 = i := by simpa using e2
        subst e3
        split at h
        · rename_i y ey
          split at h
          · rename_i hc
            obtain ⟨x1, x2, x3⟩ := x
            obtain ⟨y1, y2⟩ := y
            cases hc
            split at h
            · rename_i ef
              split at h
              · rename_i ep
                cases h
                exact a_put hz (hq.2.1 _ e1) ey ef ep (fun _ => hP) hd k
              · rename_i ep
                cases h
                exact a_put hz (hq.2.1 _ e1) ey ef ep (fun h9 => by cases h9) hd k
              · cases h
            · cases h
          · cases h
        · cases h
      · cases h
    · cases h
  case iaload  =>
    have hn : n = 1 := by simpa [okLen, ilen] using hn
    subst hn
    simp only [stp] at h
    split at h
    · split at h
      · rename_i ha
        subst ha
        cases h
        exact a_mostload hz hP hd k
      · split at h
        · rename_i ht
          cases h
          exact a_iaload hz ht hP hd k
        · cases h
    · cases h
  case baload  =>
    have hn : n = 1 := by simpa [okLen, ilen] using hn
    subst hn
    simp only [stp] at h
    split at h
    · split at h
      · rename_i ht
        cases h
        exact a_baload hz ht hP hd k
      · cases h
    · cases h
  case iastore  =>
    have hn : n = 1 := by simpa [okLen, ilen] using hn
    subst hn
    simp only [stp] at h
    split at h
    · split at h
      · rename_i ht
        cases h
        exact a_iastore hz ht hP hd k
      · cases h
    · cases h
  case bastore  =>
    have hn : n = 1 := by simpa [okLen, ilen] using hn
    subst hn
    simp only [stp] at h
    split at h
    · split at h
      · rename_i ht
        cases h
        exact a_bastore hz ht hP.1 hP.2 hd k
      · cases h
    · cases h
  case aaload  =>
    have hn : n = 1 := by simpa [okLen, ilen] using hn
    subst hn
    simp only [stp] at h
    split at h
    · split at h
      · rename_i ht
        split at h
        · rename_i eb
          cases h
          exact a_aaload hz ht eb hP hd k
        · cases h
      · cases h
    · cases h
  all_goals (simp only [stp] at h; cases h)
def rnC (q : MI) : Nat → List Nat → Nat → List (Option Av) → List Av → Mm → Option (Nat × List (Option Av) × List Av × Mm × Prop)
  | 0, _, pc, lv, st, M => some (pc, lv, st, M, True)
  | k + 1, os, pc, lv, st, M => match (qC q).find? (fun x => x.1 == pc) with
    | none => none
    | some x => if okLen x.2.1 x.2.2 = true then (match stp q (os.headD 0) pc lv st M x.2.1 with
      | none => none
      | some r => match rnC q k (if needO x.2.1 = true then os.tail else os) r.1 r.2.1 r.2.2.1 r.2.2.2.1 with
        | none => none
        | some t => some (t.1, t.2.1, t.2.2.1, t.2.2.2.1, (match r.2.2.2.2 with
          | some P => P ∧ t.2.2.2.2
          | none => t.2.2.2.2))) else none
theorem a_run {q : MI} {z : Zx} (hq : MD q) (hz : Cx q z) : ∀ (k : Nat) (os : List Nat) {pc : Nat} {lv : List (Option Av)} {st : List Av} {M : Mm} {pc' : Nat} {lv' : List (Option Av)} {st' : List Av} {M' : Mm} {P : Prop}, rnC q k os pc lv st M = some (pc', lv', st', M', P) → P → Aw z pc' lv' st' M' → Aw z pc lv st M := by
  intro k
  induction k with
  | zero =>
    intro os pc lv st M pc' lv' st' M' P h _ kk
    simp only [rnC] at h
    cases h
    exact kk
  | succ k ih =>
    intro os pc lv st M pc' lv' st' M' P h hP kk
    simp only [rnC] at h
    split at h
    · cases h
    · rename_i x e
      obtain ⟨e1, e2⟩ := mem_find e
      have e3 : x.1 = pc := by simpa using e2
      subst e3
      split at h
      · rename_i hn
        split at h
        · cases h
        · rename_i r er
          split at h
          · cases h
          · rename_i t et
            obtain ⟨t1, t2, t3, t4, t5⟩ := t
            have hd := hq.1 x e1
            cases h
            refine stp_ok (r := r) hq hz hd hn er ?_ (ih _ et ?_ kk)
            · revert hP
              cases r.2.2.2.2 with
              | none => intro _; trivial
              | some P1 => intro hP; exact hP.1
            · revert hP
              cases r.2.2.2.2 with
              | none => intro hP; exact hP
              | some P1 => intro hP; exact hP.2
      · cases h
