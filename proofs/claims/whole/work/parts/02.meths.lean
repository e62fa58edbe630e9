/-- the class, the name, the bytes, the locals, the answer's type, the instructions, the field links, the constants, frames and locals' words of its callees -/
abbrev MI : Type := String × MethodName × ByteArray × Nat × Option FieldType × List (Nat × Instr × Nat) × List (Nat × Nat × Nat) × List (Nat × Int) × Nat × Nat
abbrev inR (z : Int) : Prop := -2147483648 ≤ z ∧ z ≤ 2147483647
def putF : Nat → Nat → Option Bool
  | 0, 0 => some false
  | 0, 1 => some false
  | 2, 3 => some true
  | 3, 2 => some false
  | 5, 2 => some false
  | 5, 6 => some false
  | 5, 10 => some false
  | 5, 20 => some false
  | _, _ => none
def FOk (own : String) (x : Nat × Nat × Nat) : Prop := ∃ (C : String) (T : u_T) (N : Nat), vwCl[x.2.1]? = some (C, T, N) ∧ x.2.2 < N ∧ Jvm.Cond.fieldLink own x.1 (T x.2.2).1 (T x.2.2).2.1 (T x.2.2).2.2.1 ∈ gw_tbl
abbrev qY (q : MI) : MethodName := q.2.1
abbrev qB (q : MI) : ByteArray := q.2.2.1
abbrev qN (q : MI) : Nat := q.2.2.2.1
abbrev qR (q : MI) : Option FieldType := q.2.2.2.2.1
abbrev qC (q : MI) : List (Nat × Instr × Nat) := q.2.2.2.2.2.1
abbrev qF (q : MI) : List (Nat × Nat × Nat) := q.2.2.2.2.2.2.1
abbrev qK (q : MI) : List (Nat × Int) := q.2.2.2.2.2.2.2.1
abbrev qf (q : MI) : Nat := q.2.2.2.2.2.2.2.2.1
abbrev ql (q : MI) : Nat := q.2.2.2.2.2.2.2.2.2
def MOk (q : MI) : Prop := (∀ x ∈ qC q, decode (qB q) x.1 = .ok (x.2.1, x.2.2)) ∧ (∀ x ∈ qF q, FOk q.1 x) ∧ (∀ x ∈ qK q, inR x.2 ∧ Jvm.Cond.constant q.1 x.1 (Int32.ofInt x.2) ∈ gw_tbl) ∧ Jvm.Cond.code (qY q) (qB q) (qN q) (qR q) ∈ gw_tbl ∧ Jvm.Cond.initialized (qY q).cls ∈ gw_tbl ∧ plainName (qY q).cls = true ∧ q.1 = (qY q).cls ∧ (qY q).cls ≠ "java/lang/invoke/MethodHandle" ∧ (qY q).cls ≠ "java/lang/invoke/VarHandle"
def LkV (own : String) (idx : Nat) (y : MethodName) : Prop := Jvm.Cond.methodLink own idx y ∈ gw_tbl ∧ Jvm.Cond.instanceMethod y ∈ gw_tbl ∧ Jvm.Cond.selects y.cls y y ∈ gw_tbl
def LkS (own : String) (idx : Nat) (y : MethodName) : Prop := Jvm.Cond.methodLink own idx y ∈ gw_tbl ∧ Jvm.Cond.static y ∈ gw_tbl
def flX0 : List (Nat × Nat × Nat) := [(9, 0, 2), (15, 0, 3), (18, 0, 4), (21, 0, 5), (24, 0, 6), (27, 0, 7), (30, 0, 8), (33, 0, 0), (37, 0, 1)]
theorem flX0_ok : ∀ x ∈ flX0, FOk RX0 x := List.forall_mem_cons.mpr ⟨⟨_, _, _, rfl, by decide, tw35⟩, List.forall_mem_cons.mpr ⟨⟨_, _, _, rfl, by decide, tw36⟩, List.forall_mem_cons.mpr ⟨⟨_, _, _, rfl, by decide, tw37⟩, List.forall_mem_cons.mpr ⟨⟨_, _, _, rfl, by decide, tw38⟩, List.forall_mem_cons.mpr ⟨⟨_, _, _, rfl, by decide, tw39⟩, List.forall_mem_cons.mpr ⟨⟨_, _, _, rfl, by decide, tw40⟩, List.forall_mem_cons.mpr ⟨⟨_, _, _, rfl, by decide, tw41⟩, List.forall_mem_cons.mpr ⟨⟨_, _, _, rfl, by decide, tw30⟩, List.forall_mem_cons.mpr ⟨⟨_, _, _, rfl, by decide, tw32⟩, fun _ h => absurd h List.not_mem_nil⟩⟩⟩⟩⟩⟩⟩⟩⟩
def flX1 : List (Nat × Nat × Nat) := [(9, 1, 0)]
theorem flX1_ok : ∀ x ∈ flX1, FOk RX1 x := List.forall_mem_cons.mpr ⟨⟨_, _, _, rfl, by decide, tw68⟩, fun _ h => absurd h List.not_mem_nil⟩
def flX2 : List (Nat × Nat × Nat) := [(10, 2, 0), (19, 2, 1), (28, 2, 2), (32, 2, 3)]
theorem flX2_ok : ∀ x ∈ flX2, FOk RX2 x := List.forall_mem_cons.mpr ⟨⟨_, _, _, rfl, by decide, tw127⟩, List.forall_mem_cons.mpr ⟨⟨_, _, _, rfl, by decide, tw129⟩, List.forall_mem_cons.mpr ⟨⟨_, _, _, rfl, by decide, tw131⟩, List.forall_mem_cons.mpr ⟨⟨_, _, _, rfl, by decide, tw133⟩, fun _ h => absurd h List.not_mem_nil⟩⟩⟩⟩
def flX3 : List (Nat × Nat × Nat) := [(9, 3, 3), (15, 3, 4), (18, 3, 5), (21, 3, 6), (24, 3, 7), (27, 3, 8), (30, 3, 9), (33, 3, 10), (36, 3, 11), (39, 3, 12), (42, 3, 13), (46, 3, 0), (50, 3, 1), (54, 3, 2), (84, 0, 1), (93, 1, 0)]
theorem flX3_ok : ∀ x ∈ flX3, FOk RX3 x := List.forall_mem_cons.mpr ⟨⟨_, _, _, rfl, by decide, tw83⟩, List.forall_mem_cons.mpr ⟨⟨_, _, _, rfl, by decide, tw84⟩, List.forall_mem_cons.mpr ⟨⟨_, _, _, rfl, by decide, tw85⟩, List.forall_mem_cons.mpr ⟨⟨_, _, _, rfl, by decide, tw87⟩, List.forall_mem_cons.mpr ⟨⟨_, _, _, rfl, by decide, tw89⟩, List.forall_mem_cons.mpr ⟨⟨_, _, _, rfl, by decide, tw90⟩, List.forall_mem_cons.mpr ⟨⟨_, _, _, rfl, by decide, tw91⟩, List.forall_mem_cons.mpr ⟨⟨_, _, _, rfl, by decide, tw92⟩, List.forall_mem_cons.mpr ⟨⟨_, _, _, rfl, by decide, tw93⟩, List.forall_mem_cons.mpr ⟨⟨_, _, _, rfl, by decide, tw94⟩, List.forall_mem_cons.mpr ⟨⟨_, _, _, rfl, by decide, tw95⟩, List.forall_mem_cons.mpr ⟨⟨_, _, _, rfl, by decide, tw79⟩, List.forall_mem_cons.mpr ⟨⟨_, _, _, rfl, by decide, tw80⟩, List.forall_mem_cons.mpr ⟨⟨_, _, _, rfl, by decide, tw81⟩, List.forall_mem_cons.mpr ⟨⟨_, _, _, rfl, by decide, tw34⟩, List.forall_mem_cons.mpr ⟨⟨_, _, _, rfl, by decide, tw69⟩, fun _ h => absurd h List.not_mem_nil⟩⟩⟩⟩⟩⟩⟩⟩⟩⟩⟩⟩⟩⟩⟩⟩
def flX4 : List (Nat × Nat × Nat) := [(10, 4, 0), (16, 4, 1), (24, 2, 2), (28, 3, 2), (34, 2, 0), (43, 0, 0), (60, 0, 1), (67, 2, 1), (101, 3, 5), (113, 3, 13), (117, 3, 6), (146, 2, 3)]
theorem flX4_ok : ∀ x ∈ flX4, FOk RX4 x := List.forall_mem_cons.mpr ⟨⟨_, _, _, rfl, by decide, tw145⟩, List.forall_mem_cons.mpr ⟨⟨_, _, _, rfl, by decide, tw146⟩, List.forall_mem_cons.mpr ⟨⟨_, _, _, rfl, by decide, tw132⟩, List.forall_mem_cons.mpr ⟨⟨_, _, _, rfl, by decide, tw82⟩, List.forall_mem_cons.mpr ⟨⟨_, _, _, rfl, by decide, tw128⟩, List.forall_mem_cons.mpr ⟨⟨_, _, _, rfl, by decide, tw31⟩, List.forall_mem_cons.mpr ⟨⟨_, _, _, rfl, by decide, tw33⟩, List.forall_mem_cons.mpr ⟨⟨_, _, _, rfl, by decide, tw130⟩, List.forall_mem_cons.mpr ⟨⟨_, _, _, rfl, by decide, tw86⟩, List.forall_mem_cons.mpr ⟨⟨_, _, _, rfl, by decide, tw96⟩, List.forall_mem_cons.mpr ⟨⟨_, _, _, rfl, by decide, tw88⟩, List.forall_mem_cons.mpr ⟨⟨_, _, _, rfl, by decide, tw134⟩, fun _ h => absurd h List.not_mem_nil⟩⟩⟩⟩⟩⟩⟩⟩⟩⟩⟩⟩
def flX5 : List (Nat × Nat × Nat) := [(7, 5, 0), (13, 5, 1), (16, 5, 3), (19, 5, 4), (22, 5, 5), (25, 5, 7), (28, 5, 8), (31, 5, 9), (34, 5, 11), (37, 5, 12), (40, 5, 13), (43, 5, 14), (46, 5, 15), (49, 5, 16), (52, 5, 17), (55, 5, 18), (58, 5, 19), (61, 5, 21), (64, 5, 22), (72, 5, 2), (80, 5, 10), (87, 5, 6), (127, 5, 20)]
theorem flX5_ok : ∀ x ∈ flX5, FOk RX5 x := List.forall_mem_cons.mpr ⟨⟨_, _, _, rfl, by decide, tw530⟩, List.forall_mem_cons.mpr ⟨⟨_, _, _, rfl, by decide, tw531⟩, List.forall_mem_cons.mpr ⟨⟨_, _, _, rfl, by decide, tw533⟩, List.forall_mem_cons.mpr ⟨⟨_, _, _, rfl, by decide, tw534⟩, List.forall_mem_cons.mpr ⟨⟨_, _, _, rfl, by decide, tw535⟩, List.forall_mem_cons.mpr ⟨⟨_, _, _, rfl, by decide, tw537⟩, List.forall_mem_cons.mpr ⟨⟨_, _, _, rfl, by decide, tw538⟩, List.forall_mem_cons.mpr ⟨⟨_, _, _, rfl, by decide, tw539⟩, List.forall_mem_cons.mpr ⟨⟨_, _, _, rfl, by decide, tw541⟩, List.forall_mem_cons.mpr ⟨⟨_, _, _, rfl, by decide, tw542⟩, List.forall_mem_cons.mpr ⟨⟨_, _, _, rfl, by decide, tw543⟩, List.forall_mem_cons.mpr ⟨⟨_, _, _, rfl, by decide, tw544⟩, List.forall_mem_cons.mpr ⟨⟨_, _, _, rfl, by decide, tw545⟩, List.forall_mem_cons.mpr ⟨⟨_, _, _, rfl, by decide, tw546⟩, List.forall_mem_cons.mpr ⟨⟨_, _, _, rfl, by decide, tw547⟩, List.forall_mem_cons.mpr ⟨⟨_, _, _, rfl, by decide, tw548⟩, List.forall_mem_cons.mpr ⟨⟨_, _, _, rfl, by decide, tw549⟩, List.forall_mem_cons.mpr ⟨⟨_, _, _, rfl, by decide, tw551⟩, List.forall_mem_cons.mpr ⟨⟨_, _, _, rfl, by decide, tw552⟩, List.forall_mem_cons.mpr ⟨⟨_, _, _, rfl, by decide, tw532⟩, List.forall_mem_cons.mpr ⟨⟨_, _, _, rfl, by decide, tw540⟩, List.forall_mem_cons.mpr ⟨⟨_, _, _, rfl, by decide, tw536⟩, List.forall_mem_cons.mpr ⟨⟨_, _, _, rfl, by decide, tw550⟩, fun _ h => absurd h List.not_mem_nil⟩⟩⟩⟩⟩⟩⟩⟩⟩⟩⟩⟩⟩⟩⟩⟩⟩⟩⟩⟩⟩⟩⟩
def yX0_hasCrossing : MethodName := ⟨RX0, "hasCrossing", "(I)Z"⟩
def cdX0_hasCrossing_0 : List (Nat × Instr × Nat) := [(0, .iload_n 1, 1), (1, .ifCond .lt 15, 3), (4, .iload_n 1, 1), (5, .aload_n 0, 1), (6, .getfield 33, 3), (9, .if_icmp .ge 7, 3), (12, .iconst 1, 1), (13, .goto 4, 3), (16, .iconst 0, 1), (17, .ireturn, 1)]
theorem cdX0_hasCrossing_0_ok : ∀ x ∈ cdX0_hasCrossing_0, decode prog_2_method_2_code x.1 = .ok x.2 := by decide +kernel
def cdX0_hasCrossing : List (Nat × Instr × Nat) := cdX0_hasCrossing_0
theorem cdX0_hasCrossing_ok : ∀ x ∈ cdX0_hasCrossing, decode prog_2_method_2_code x.1 = .ok x.2 := fun x h => cdX0_hasCrossing_0_ok x h
def qX0_hasCrossing : MI := (RX0, yX0_hasCrossing, prog_2_method_2_code, 2, some .boolean, cdX0_hasCrossing, flX0, [], 0, 0)
theorem qX0_hasCrossing_ok : MOk qX0_hasCrossing := ⟨cdX0_hasCrossing_ok, flX0_ok, fun _ h => absurd h List.not_mem_nil, tw177, tw3, by decide +kernel, rfl, by decide +kernel, by decide +kernel⟩
def yX0_hasRoad : MethodName := ⟨RX0, "hasRoad", "(I)Z"⟩
def cdX0_hasRoad_0 : List (Nat × Instr × Nat) := [(0, .iload_n 1, 1), (1, .ifCond .lt 15, 3), (4, .iload_n 1, 1), (5, .aload_n 0, 1), (6, .getfield 37, 3), (9, .if_icmp .ge 7, 3), (12, .iconst 1, 1), (13, .goto 4, 3), (16, .iconst 0, 1), (17, .ireturn, 1)]
theorem cdX0_hasRoad_0_ok : ∀ x ∈ cdX0_hasRoad_0, decode prog_2_method_3_code x.1 = .ok x.2 := by decide +kernel
def cdX0_hasRoad : List (Nat × Instr × Nat) := cdX0_hasRoad_0
theorem cdX0_hasRoad_ok : ∀ x ∈ cdX0_hasRoad, decode prog_2_method_3_code x.1 = .ok x.2 := fun x h => cdX0_hasRoad_0_ok x h
def qX0_hasRoad : MI := (RX0, yX0_hasRoad, prog_2_method_3_code, 2, some .boolean, cdX0_hasRoad, flX0, [], 0, 0)
theorem qX0_hasRoad_ok : MOk qX0_hasRoad := ⟨cdX0_hasRoad_ok, flX0_ok, fun _ h => absurd h List.not_mem_nil, tw307, tw3, by decide +kernel, rfl, by decide +kernel, by decide +kernel⟩
def yX0_hasSpot : MethodName := ⟨RX0, "hasSpot", "(I)Z"⟩
def cdX0_hasSpot_0 : List (Nat × Instr × Nat) := [(0, .iload_n 1, 1), (1, .ifCond .ge 5, 3), (4, .iconst 0, 1), (5, .ireturn, 1), (6, .iload_n 1, 1), (7, .bipush 100, 2), (9, .idiv, 1), (10, .istore_n 2, 1), (11, .iload_n 2, 1), (12, .aload_n 0, 1), (13, .getfield 37, 3), (16, .if_icmp .ge 20, 3), (19, .iload_n 1, 1), (20, .bipush 100, 2), (22, .irem, 1), (23, .aload_n 0, 1), (24, .getfield 27, 3), (27, .iload_n 2, 1), (28, .iaload, 1), (29, .if_icmp .gt 7, 3), (32, .iconst 1, 1), (33, .goto 4, 3), (36, .iconst 0, 1), (37, .ireturn, 1)]
theorem cdX0_hasSpot_0_ok : ∀ x ∈ cdX0_hasSpot_0, decode prog_2_method_4_code x.1 = .ok x.2 := by decide +kernel
def cdX0_hasSpot : List (Nat × Instr × Nat) := cdX0_hasSpot_0
theorem cdX0_hasSpot_ok : ∀ x ∈ cdX0_hasSpot, decode prog_2_method_4_code x.1 = .ok x.2 := fun x h => cdX0_hasSpot_0_ok x h
def qX0_hasSpot : MI := (RX0, yX0_hasSpot, prog_2_method_4_code, 3, some .boolean, cdX0_hasSpot, flX0, [], 0, 0)
theorem qX0_hasSpot_ok : MOk qX0_hasSpot := ⟨cdX0_hasSpot_ok, flX0_ok, fun _ h => absurd h List.not_mem_nil, tw244, tw3, by decide +kernel, rfl, by decide +kernel, by decide +kernel⟩
def yX0_isTaken : MethodName := ⟨RX0, "isTaken", "(II)Z"⟩
def cdX0_isTaken_0 : List (Nat × Instr × Nat) := [(0, .iconst 0, 1), (1, .istore_n 3, 1), (2, .iload_n 3, 1), (3, .aload_n 0, 1), (4, .getfield 33, 3), (7, .if_icmp .ge 31, 3), (10, .aload_n 0, 1), (11, .getfield 9, 3), (14, .iload_n 3, 1), (15, .iaload, 1), (16, .iload_n 1, 1), (17, .if_icmp .ne 15, 3), (20, .aload_n 0, 1), (21, .getfield 15, 3), (24, .iload_n 3, 1), (25, .iaload, 1), (26, .iload_n 2, 1), (27, .if_icmp .ne 5, 3), (30, .iconst 1, 1), (31, .ireturn, 1), (32, .iinc 3 1, 3), (35, .goto (-33), 3), (38, .iconst 0, 1), (39, .ireturn, 1)]
theorem cdX0_isTaken_0_ok : ∀ x ∈ cdX0_isTaken_0, decode prog_2_method_5_code x.1 = .ok x.2 := by decide +kernel
def cdX0_isTaken : List (Nat × Instr × Nat) := cdX0_isTaken_0
theorem cdX0_isTaken_ok : ∀ x ∈ cdX0_isTaken, decode prog_2_method_5_code x.1 = .ok x.2 := fun x h => cdX0_isTaken_0_ok x h
def qX0_isTaken : MI := (RX0, yX0_isTaken, prog_2_method_5_code, 4, some .boolean, cdX0_isTaken, flX0, [], 0, 0)
theorem qX0_isTaken_ok : MOk qX0_isTaken := ⟨cdX0_isTaken_ok, flX0_ok, fun _ h => absurd h List.not_mem_nil, tw162, tw3, by decide +kernel, rfl, by decide +kernel, by decide +kernel⟩
def yX0_areInOneRow : MethodName := ⟨RX0, "areInOneRow", "(II)Z"⟩
def cdX0_areInOneRow_0 : List (Nat × Instr × Nat) := [(0, .aload_n 0, 1), (1, .iload_n 1, 1), (2, .invokevirtual 40, 3), (5, .ifCond .eq 11, 3), (8, .aload_n 0, 1), (9, .iload_n 2, 1), (10, .invokevirtual 40, 3), (13, .ifCond .ne 5, 3), (16, .iconst 0, 1), (17, .ireturn, 1), (18, .aload_n 0, 1), (19, .getfield 9, 3), (22, .iload_n 1, 1), (23, .iaload, 1), (24, .aload_n 0, 1), (25, .getfield 9, 3), (28, .iload_n 2, 1), (29, .iaload, 1), (30, .if_icmp .eq 18, 3), (33, .aload_n 0, 1), (34, .getfield 15, 3), (37, .iload_n 1, 1), (38, .iaload, 1), (39, .aload_n 0, 1), (40, .getfield 15, 3), (43, .iload_n 2, 1), (44, .iaload, 1), (45, .if_icmp .ne 7, 3), (48, .iconst 1, 1), (49, .goto 4, 3), (52, .iconst 0, 1), (53, .ireturn, 1)]
theorem cdX0_areInOneRow_0_ok : ∀ x ∈ cdX0_areInOneRow_0, decode prog_2_method_6_code x.1 = .ok x.2 := by decide +kernel
def cdX0_areInOneRow : List (Nat × Instr × Nat) := cdX0_areInOneRow_0
theorem cdX0_areInOneRow_ok : ∀ x ∈ cdX0_areInOneRow, decode prog_2_method_6_code x.1 = .ok x.2 := fun x h => cdX0_areInOneRow_0_ok x h
def qX0_areInOneRow : MI := (RX0, yX0_areInOneRow, prog_2_method_6_code, 3, some .boolean, cdX0_areInOneRow, flX0, [], 1, 21)
theorem qX0_areInOneRow_ok : MOk qX0_areInOneRow := ⟨cdX0_areInOneRow_ok, flX0_ok, fun _ h => absurd h List.not_mem_nil, tw181, tw3, by decide +kernel, rfl, by decide +kernel, by decide +kernel⟩
def yX0_areJoined : MethodName := ⟨RX0, "areJoined", "(II)Z"⟩
def cdX0_areJoined_0 : List (Nat × Instr × Nat) := [(0, .iconst 0, 1), (1, .istore_n 3, 1), (2, .iload_n 3, 1), (3, .aload_n 0, 1), (4, .getfield 37, 3), (7, .if_icmp .ge 75, 3), (10, .aload_n 0, 1), (11, .getfield 18, 3), (14, .iload_n 3, 1), (15, .iaload, 1), (16, .iload_n 1, 1), (17, .if_icmp .ne 17, 3), (20, .aload_n 0, 1), (21, .getfield 21, 3), (24, .iload_n 3, 1), (25, .iaload, 1), (26, .iload_n 2, 1), (27, .if_icmp .ne 7, 3), (30, .iconst 1, 1), (31, .goto 4, 3), (34, .iconst 0, 1), (35, .istore 4, 2), (37, .aload_n 0, 1), (38, .getfield 18, 3), (41, .iload_n 3, 1), (42, .iaload, 1), (43, .iload_n 2, 1), (44, .if_icmp .ne 17, 3), (47, .aload_n 0, 1), (48, .getfield 21, 3), (51, .iload_n 3, 1), (52, .iaload, 1), (53, .iload_n 1, 1), (54, .if_icmp .ne 7, 3), (57, .iconst 1, 1), (58, .goto 4, 3), (61, .iconst 0, 1), (62, .istore 5, 2), (64, .iload 4, 2), (66, .ifCond .ne 8, 3), (69, .iload 5, 2), (71, .ifCond .eq 5, 3), (74, .iconst 1, 1), (75, .ireturn, 1), (76, .iinc 3 1, 3), (79, .goto (-77), 3), (82, .iconst 0, 1), (83, .ireturn, 1)]
theorem cdX0_areJoined_0_ok : ∀ x ∈ cdX0_areJoined_0, decode prog_2_method_7_code x.1 = .ok x.2 := by decide +kernel
def cdX0_areJoined : List (Nat × Instr × Nat) := cdX0_areJoined_0
theorem cdX0_areJoined_ok : ∀ x ∈ cdX0_areJoined, decode prog_2_method_7_code x.1 = .ok x.2 := fun x h => cdX0_areJoined_0_ok x h
def qX0_areJoined : MI := (RX0, yX0_areJoined, prog_2_method_7_code, 6, some .boolean, cdX0_areJoined, flX0, [], 0, 0)
theorem qX0_areJoined_ok : MOk qX0_areJoined := ⟨cdX0_areJoined_ok, flX0_ok, fun _ h => absurd h List.not_mem_nil, tw186, tw3, by decide +kernel, rfl, by decide +kernel, by decide +kernel⟩
def yX0_addCrossing : MethodName := ⟨RX0, "addCrossing", "(II)V"⟩
def cdX0_addCrossing_0 : List (Nat × Instr × Nat) := [(0, .aload_n 0, 1), (1, .getfield 33, 3), (4, .bipush 12, 2), (6, .if_icmp .lt 4, 3), (9, .return_, 1), (10, .aload_n 0, 1), (11, .getfield 33, 3), (14, .istore_n 3, 1), (15, .aload_n 0, 1), (16, .getfield 9, 3), (19, .iload_n 3, 1), (20, .iload_n 1, 1), (21, .iastore, 1), (22, .aload_n 0, 1), (23, .getfield 15, 3), (26, .iload_n 3, 1), (27, .iload_n 2, 1), (28, .iastore, 1), (29, .iconst 0, 1), (30, .istore 4, 2), (32, .iload 4, 2), (34, .iload_n 3, 1), (35, .if_icmp .ge 35, 3), (38, .aload_n 0, 1), (39, .getfield 30, 3), (42, .iload 4, 2), (44, .iload_n 3, 1), (45, .invokestatic 44, 3), (48, .bipush (-6), 2), (50, .iastore, 1), (51, .aload_n 0, 1), (52, .getfield 30, 3), (55, .iload_n 3, 1), (56, .iload 4, 2), (58, .invokestatic 44, 3), (61, .bipush (-6), 2), (63, .iastore, 1), (64, .iinc 4 1, 3), (67, .goto (-35), 3), (70, .aload_n 0, 1), (71, .getfield 30, 3), (74, .iload_n 3, 1), (75, .iload_n 3, 1), (76, .invokestatic 44, 3), (79, .iconst 0, 1), (80, .iastore, 1), (81, .aload_n 0, 1), (82, .iload_n 3, 1), (83, .iconst 1, 1), (84, .iadd, 1), (85, .putfield 33, 3), (88, .return_, 1)]
theorem cdX0_addCrossing_0_ok : ∀ x ∈ cdX0_addCrossing_0, decode prog_2_method_8_code x.1 = .ok x.2 := by decide +kernel
def cdX0_addCrossing : List (Nat × Instr × Nat) := cdX0_addCrossing_0
theorem cdX0_addCrossing_ok : ∀ x ∈ cdX0_addCrossing, decode prog_2_method_8_code x.1 = .ok x.2 := fun x h => cdX0_addCrossing_0_ok x h
def qX0_addCrossing : MI := (RX0, yX0_addCrossing, prog_2_method_8_code, 5, none, cdX0_addCrossing, flX0, [], 1, 21)
theorem qX0_addCrossing_ok : MOk qX0_addCrossing := ⟨cdX0_addCrossing_ok, flX0_ok, fun _ h => absurd h List.not_mem_nil, tw166, tw3, by decide +kernel, rfl, by decide +kernel, by decide +kernel⟩
def yX0_addRoad : MethodName := ⟨RX0, "addRoad", "(III)V"⟩
def cdX0_addRoad_0 : List (Nat × Instr × Nat) := [(0, .aload_n 0, 1), (1, .getfield 37, 3), (4, .bipush 20, 2), (6, .if_icmp .ge 19, 3), (9, .aload_n 0, 1), (10, .iload_n 1, 1), (11, .invokevirtual 40, 3), (14, .ifCond .eq 11, 3), (17, .aload_n 0, 1), (18, .iload_n 2, 1), (19, .invokevirtual 40, 3), (22, .ifCond .ne 4, 3), (25, .return_, 1), (26, .aload_n 0, 1), (27, .getfield 9, 3), (30, .iload_n 1, 1), (31, .iaload, 1), (32, .aload_n 0, 1), (33, .getfield 9, 3), (36, .iload_n 2, 1), (37, .iaload, 1), (38, .isub, 1), (39, .invokestatic 48, 3), (42, .aload_n 0, 1), (43, .getfield 15, 3), (46, .iload_n 1, 1), (47, .iaload, 1), (48, .aload_n 0, 1), (49, .getfield 15, 3), (52, .iload_n 2, 1), (53, .iaload, 1), (54, .isub, 1), (55, .invokestatic 48, 3), (58, .iadd, 1), (59, .istore 4, 2), (61, .aload_n 0, 1), (62, .getfield 18, 3), (65, .aload_n 0, 1), (66, .getfield 37, 3), (69, .iload_n 1, 1), (70, .iastore, 1), (71, .aload_n 0, 1), (72, .getfield 21, 3), (75, .aload_n 0, 1), (76, .getfield 37, 3), (79, .iload_n 2, 1), (80, .iastore, 1), (81, .aload_n 0, 1), (82, .getfield 24, 3), (85, .aload_n 0, 1), (86, .getfield 37, 3), (89, .iload_n 3, 1), (90, .iastore, 1), (91, .aload_n 0, 1), (92, .getfield 27, 3), (95, .aload_n 0, 1), (96, .getfield 37, 3), (99, .iload 4, 2), (101, .iastore, 1), (102, .aload_n 0, 1)]
theorem cdX0_addRoad_0_ok : ∀ x ∈ cdX0_addRoad_0, decode prog_2_method_9_code x.1 = .ok x.2 := by decide +kernel
def cdX0_addRoad_1 : List (Nat × Instr × Nat) := [(103, .dup, 1), (104, .getfield 37, 3), (107, .iconst 1, 1), (108, .iadd, 1), (109, .putfield 37, 3), (112, .aload_n 0, 1), (113, .iload_n 1, 1), (114, .iload_n 2, 1), (115, .iload 4, 2), (117, .invokevirtual 54, 3), (120, .iload_n 3, 1), (121, .ifCond .ne 11, 3), (124, .aload_n 0, 1), (125, .iload_n 2, 1), (126, .iload_n 1, 1), (127, .iload 4, 2), (129, .invokevirtual 54, 3), (132, .return_, 1)]
theorem cdX0_addRoad_1_ok : ∀ x ∈ cdX0_addRoad_1, decode prog_2_method_9_code x.1 = .ok x.2 := by decide +kernel
def cdX0_addRoad : List (Nat × Instr × Nat) := cdX0_addRoad_0 ++ (cdX0_addRoad_1)
theorem cdX0_addRoad_ok : ∀ x ∈ cdX0_addRoad, decode prog_2_method_9_code x.1 = .ok x.2 := fun x h => (List.mem_append.mp h).elim (fun h => cdX0_addRoad_0_ok x h) (fun h => cdX0_addRoad_1_ok x h)
def qX0_addRoad : MI := (RX0, yX0_addRoad, prog_2_method_9_code, 5, none, cdX0_addRoad, flX0, [], 2, 49)
theorem qX0_addRoad_ok : MOk qX0_addRoad := ⟨cdX0_addRoad_ok, flX0_ok, fun _ h => absurd h List.not_mem_nil, tw190, tw3, by decide +kernel, rfl, by decide +kernel, by decide +kernel⟩
def yX0_shortenBy : MethodName := ⟨RX0, "shortenBy", "(III)V"⟩
def cdX0_shortenBy_0 : List (Nat × Instr × Nat) := [(0, .iconst 0, 1), (1, .istore 4, 2), (3, .iload 4, 2), (5, .aload_n 0, 1), (6, .getfield 33, 3), (9, .if_icmp .ge 119, 3), (12, .aload_n 0, 1), (13, .getfield 30, 3), (16, .iload 4, 2), (18, .iload_n 1, 1), (19, .invokestatic 44, 3), (22, .iaload, 1), (23, .istore 5, 2), (25, .iconst 0, 1), (26, .istore 6, 2), (28, .iload 5, 2), (30, .bipush (-6), 2), (32, .if_icmp .eq 90, 3), (35, .iload 6, 2), (37, .aload_n 0, 1), (38, .getfield 33, 3), (41, .if_icmp .ge 81, 3), (44, .aload_n 0, 1), (45, .getfield 30, 3), (48, .iload_n 2, 1), (49, .iload 6, 2), (51, .invokestatic 44, 3), (54, .iaload, 1), (55, .istore 7, 2), (57, .aload_n 0, 1), (58, .getfield 30, 3), (61, .iload 4, 2), (63, .iload 6, 2), (65, .invokestatic 44, 3), (68, .iaload, 1), (69, .istore 8, 2), (71, .iload 7, 2), (73, .bipush (-6), 2), (75, .if_icmp .eq 41, 3), (78, .iload 8, 2), (80, .bipush (-6), 2), (82, .if_icmp .eq 15, 3), (85, .iload 5, 2), (87, .iload_n 3, 1), (88, .iadd, 1), (89, .iload 7, 2), (91, .iadd, 1), (92, .iload 8, 2), (94, .if_icmp .ge 22, 3), (97, .aload_n 0, 1), (98, .getfield 30, 3), (101, .iload 4, 2), (103, .iload 6, 2), (105, .invokestatic 44, 3), (108, .iload 5, 2), (110, .iload_n 3, 1), (111, .iadd, 1), (112, .iload 7, 2), (114, .iadd, 1), (115, .iastore, 1)]
theorem cdX0_shortenBy_0_ok : ∀ x ∈ cdX0_shortenBy_0, decode prog_2_method_10_code x.1 = .ok x.2 := by decide +kernel
def cdX0_shortenBy_1 : List (Nat × Instr × Nat) := [(116, .iinc 6 1, 3), (119, .goto (-91), 3), (122, .iinc 4 1, 3), (125, .goto (-122), 3), (128, .return_, 1)]
theorem cdX0_shortenBy_1_ok : ∀ x ∈ cdX0_shortenBy_1, decode prog_2_method_10_code x.1 = .ok x.2 := by decide +kernel
def cdX0_shortenBy : List (Nat × Instr × Nat) := cdX0_shortenBy_0 ++ (cdX0_shortenBy_1)
theorem cdX0_shortenBy_ok : ∀ x ∈ cdX0_shortenBy, decode prog_2_method_10_code x.1 = .ok x.2 := fun x h => (List.mem_append.mp h).elim (fun h => cdX0_shortenBy_0_ok x h) (fun h => cdX0_shortenBy_1_ok x h)
def qX0_shortenBy : MI := (RX0, yX0_shortenBy, prog_2_method_10_code, 9, none, cdX0_shortenBy, flX0, [], 1, 21)
theorem qX0_shortenBy_ok : MOk qX0_shortenBy := ⟨cdX0_shortenBy_ok, flX0_ok, fun _ h => absurd h List.not_mem_nil, tw197, tw3, by decide +kernel, rfl, by decide +kernel, by decide +kernel⟩
def yX0_leastBetween : MethodName := ⟨RX0, "leastBetween", "(II)I"⟩
def cdX0_leastBetween_0 : List (Nat × Instr × Nat) := [(0, .aload_n 0, 1), (1, .iload_n 1, 1), (2, .invokevirtual 40, 3), (5, .ifCond .eq 24, 3), (8, .aload_n 0, 1), (9, .iload_n 2, 1), (10, .invokevirtual 40, 3), (13, .ifCond .eq 16, 3), (16, .aload_n 0, 1), (17, .getfield 30, 3), (20, .iload_n 1, 1), (21, .iload_n 2, 1), (22, .invokestatic 44, 3), (25, .iaload, 1), (26, .goto 5, 3), (29, .bipush (-6), 2), (31, .ireturn, 1)]
theorem cdX0_leastBetween_0_ok : ∀ x ∈ cdX0_leastBetween_0, decode prog_2_method_11_code x.1 = .ok x.2 := by decide +kernel
def cdX0_leastBetween : List (Nat × Instr × Nat) := cdX0_leastBetween_0
theorem cdX0_leastBetween_ok : ∀ x ∈ cdX0_leastBetween, decode prog_2_method_11_code x.1 = .ok x.2 := fun x h => cdX0_leastBetween_0_ok x h
def qX0_leastBetween : MI := (RX0, yX0_leastBetween, prog_2_method_11_code, 3, some .int, cdX0_leastBetween, flX0, [], 1, 21)
theorem qX0_leastBetween_ok : MOk qX0_leastBetween := ⟨cdX0_leastBetween_ok, flX0_ok, fun _ h => absurd h List.not_mem_nil, tw236, tw3, by decide +kernel, rfl, by decide +kernel, by decide +kernel⟩
def yX0_pair : MethodName := ⟨RX0, "pair", "(II)I"⟩
def cdX0_pair_0 : List (Nat × Instr × Nat) := [(0, .iload_n 0, 1), (1, .bipush 12, 2), (3, .imul, 1), (4, .iload_n 1, 1), (5, .iadd, 1), (6, .ireturn, 1)]
theorem cdX0_pair_0_ok : ∀ x ∈ cdX0_pair_0, decode prog_2_method_12_code x.1 = .ok x.2 := by decide +kernel
def cdX0_pair : List (Nat × Instr × Nat) := cdX0_pair_0
theorem cdX0_pair_ok : ∀ x ∈ cdX0_pair, decode prog_2_method_12_code x.1 = .ok x.2 := fun x h => cdX0_pair_0_ok x h
def qX0_pair : MI := (RX0, yX0_pair, prog_2_method_12_code, 2, some .int, cdX0_pair, flX0, [], 0, 0)
theorem qX0_pair_ok : MOk qX0_pair := ⟨cdX0_pair_ok, flX0_ok, fun _ h => absurd h List.not_mem_nil, tw169, tw3, by decide +kernel, rfl, by decide +kernel, by decide +kernel⟩
def yX0_roadsInCell : MethodName := ⟨RX0, "roadsInCell", "(II)I"⟩
def cdX0_roadsInCell_0 : List (Nat × Instr × Nat) := [(0, .iconst 0, 1), (1, .istore_n 3, 1), (2, .iconst 0, 1), (3, .istore 4, 2), (5, .iload 4, 2), (7, .aload_n 0, 1), (8, .getfield 37, 3), (11, .if_icmp .ge 74, 3), (14, .aload_n 0, 1), (15, .getfield 9, 3), (18, .aload_n 0, 1), (19, .getfield 18, 3), (22, .iload 4, 2), (24, .iaload, 1), (25, .iaload, 1), (26, .aload_n 0, 1), (27, .getfield 9, 3), (30, .aload_n 0, 1), (31, .getfield 21, 3), (34, .iload 4, 2), (36, .iaload, 1), (37, .iaload, 1), (38, .iload_n 1, 1), (39, .invokestatic 58, 3), (42, .ifCond .eq 37, 3), (45, .aload_n 0, 1), (46, .getfield 15, 3), (49, .aload_n 0, 1), (50, .getfield 18, 3), (53, .iload 4, 2), (55, .iaload, 1), (56, .iaload, 1), (57, .aload_n 0, 1), (58, .getfield 15, 3), (61, .aload_n 0, 1), (62, .getfield 21, 3), (65, .iload 4, 2), (67, .iaload, 1), (68, .iaload, 1), (69, .iload_n 2, 1), (70, .invokestatic 58, 3), (73, .ifCond .eq 6, 3), (76, .iinc 3 1, 3), (79, .iinc 4 1, 3), (82, .goto (-77), 3), (85, .iload_n 3, 1), (86, .ireturn, 1)]
theorem cdX0_roadsInCell_0_ok : ∀ x ∈ cdX0_roadsInCell_0, decode prog_2_method_13_code x.1 = .ok x.2 := by decide +kernel
def cdX0_roadsInCell : List (Nat × Instr × Nat) := cdX0_roadsInCell_0
theorem cdX0_roadsInCell_ok : ∀ x ∈ cdX0_roadsInCell, decode prog_2_method_13_code x.1 = .ok x.2 := fun x h => cdX0_roadsInCell_0_ok x h
def qX0_roadsInCell : MI := (RX0, yX0_roadsInCell, prog_2_method_13_code, 5, some .int, cdX0_roadsInCell, flX0, [], 2, 43)
theorem qX0_roadsInCell_ok : MOk qX0_roadsInCell := ⟨cdX0_roadsInCell_ok, flX0_ok, fun _ h => absurd h List.not_mem_nil, tw219, tw3, by decide +kernel, rfl, by decide +kernel, by decide +kernel⟩
def yX0_spans : MethodName := ⟨RX0, "spans", "(III)Z"⟩
def cdX0_spans_0 : List (Nat × Instr × Nat) := [(0, .iload_n 0, 1), (1, .iload_n 1, 1), (2, .invokestatic 62, 3), (5, .bipush 8, 2), (7, .idiv, 1), (8, .iload_n 2, 1), (9, .if_icmp .gt 19, 3), (12, .iload_n 2, 1), (13, .iload_n 0, 1), (14, .iload_n 1, 1), (15, .invokestatic 65, 3), (18, .bipush 8, 2), (20, .idiv, 1), (21, .if_icmp .gt 7, 3), (24, .iconst 1, 1), (25, .goto 4, 3), (28, .iconst 0, 1), (29, .ireturn, 1)]
theorem cdX0_spans_0_ok : ∀ x ∈ cdX0_spans_0, decode prog_2_method_14_code x.1 = .ok x.2 := by decide +kernel
def cdX0_spans : List (Nat × Instr × Nat) := cdX0_spans_0
theorem cdX0_spans_ok : ∀ x ∈ cdX0_spans, decode prog_2_method_14_code x.1 = .ok x.2 := fun x h => cdX0_spans_0_ok x h
def qX0_spans : MI := (RX0, yX0_spans, prog_2_method_14_code, 3, some .boolean, cdX0_spans, flX0, [], 1, 21)
theorem qX0_spans_ok : MOk qX0_spans := ⟨cdX0_spans_ok, flX0_ok, fun _ h => absurd h List.not_mem_nil, tw222, tw3, by decide +kernel, rfl, by decide +kernel, by decide +kernel⟩
def yX0_apartFromRoad : MethodName := ⟨RX0, "apartFromRoad", "(III)I"⟩
def cdX0_apartFromRoad_0 : List (Nat × Instr × Nat) := [(0, .aload_n 0, 1), (1, .iload_n 1, 1), (2, .invokevirtual 68, 3), (5, .ifCond .ne 6, 3), (8, .bipush (-6), 2), (10, .ireturn, 1), (11, .aload_n 0, 1), (12, .iload_n 1, 1), (13, .iload_n 2, 1), (14, .invokevirtual 71, 3), (17, .iload_n 2, 1), (18, .isub, 1), (19, .invokestatic 48, 3), (22, .aload_n 0, 1), (23, .iload_n 1, 1), (24, .iload_n 3, 1), (25, .invokevirtual 74, 3), (28, .iload_n 3, 1), (29, .isub, 1), (30, .invokestatic 48, 3), (33, .iadd, 1), (34, .ireturn, 1)]
theorem cdX0_apartFromRoad_0_ok : ∀ x ∈ cdX0_apartFromRoad_0, decode prog_2_method_15_code x.1 = .ok x.2 := by decide +kernel
def cdX0_apartFromRoad : List (Nat × Instr × Nat) := cdX0_apartFromRoad_0
theorem cdX0_apartFromRoad_ok : ∀ x ∈ cdX0_apartFromRoad, decode prog_2_method_15_code x.1 = .ok x.2 := fun x h => cdX0_apartFromRoad_0_ok x h
def qX0_apartFromRoad : MI := (RX0, yX0_apartFromRoad, prog_2_method_15_code, 4, some .int, cdX0_apartFromRoad, flX0, [], 3, 65)
theorem qX0_apartFromRoad_ok : MOk qX0_apartFromRoad := ⟨cdX0_apartFromRoad_ok, flX0_ok, fun _ h => absurd h List.not_mem_nil, tw303, tw3, by decide +kernel, rfl, by decide +kernel, by decide +kernel⟩
def yX0_nearestSpot : MethodName := ⟨RX0, "nearestSpot", "(III)I"⟩
def cdX0_nearestSpot_0 : List (Nat × Instr × Nat) := [(0, .aload_n 0, 1), (1, .iload_n 1, 1), (2, .invokevirtual 68, 3), (5, .ifCond .ne 6, 3), (8, .bipush (-6), 2), (10, .ireturn, 1), (11, .aload_n 0, 1), (12, .iload_n 1, 1), (13, .iload_n 2, 1), (14, .invokevirtual 71, 3), (17, .aload_n 0, 1), (18, .getfield 9, 3), (21, .aload_n 0, 1), (22, .getfield 18, 3), (25, .iload_n 1, 1), (26, .iaload, 1), (27, .iaload, 1), (28, .isub, 1), (29, .invokestatic 48, 3), (32, .istore 4, 2), (34, .aload_n 0, 1), (35, .iload_n 1, 1), (36, .iload_n 3, 1), (37, .invokevirtual 74, 3), (40, .aload_n 0, 1), (41, .getfield 15, 3), (44, .aload_n 0, 1), (45, .getfield 18, 3), (48, .iload_n 1, 1), (49, .iaload, 1), (50, .iaload, 1), (51, .isub, 1), (52, .invokestatic 48, 3), (55, .istore 5, 2), (57, .bipush 100, 2), (59, .iload_n 1, 1), (60, .imul, 1), (61, .iload 4, 2), (63, .iadd, 1), (64, .iload 5, 2), (66, .iadd, 1), (67, .ireturn, 1)]
theorem cdX0_nearestSpot_0_ok : ∀ x ∈ cdX0_nearestSpot_0, decode prog_2_method_16_code x.1 = .ok x.2 := by decide +kernel
def cdX0_nearestSpot : List (Nat × Instr × Nat) := cdX0_nearestSpot_0
theorem cdX0_nearestSpot_ok : ∀ x ∈ cdX0_nearestSpot, decode prog_2_method_16_code x.1 = .ok x.2 := fun x h => cdX0_nearestSpot_0_ok x h
def qX0_nearestSpot : MI := (RX0, yX0_nearestSpot, prog_2_method_16_code, 6, some .int, cdX0_nearestSpot, flX0, [], 3, 65)
theorem qX0_nearestSpot_ok : MOk qX0_nearestSpot := ⟨cdX0_nearestSpot_ok, flX0_ok, fun _ h => absurd h List.not_mem_nil, tw325, tw3, by decide +kernel, rfl, by decide +kernel, by decide +kernel⟩
def yX0_nearestX : MethodName := ⟨RX0, "nearestX", "(II)I"⟩
def cdX0_nearestX_0 : List (Nat × Instr × Nat) := [(0, .iload_n 2, 1), (1, .aload_n 0, 1), (2, .getfield 9, 3), (5, .aload_n 0, 1), (6, .getfield 18, 3), (9, .iload_n 1, 1), (10, .iaload, 1), (11, .iaload, 1), (12, .aload_n 0, 1), (13, .getfield 9, 3), (16, .aload_n 0, 1), (17, .getfield 21, 3), (20, .iload_n 1, 1), (21, .iaload, 1), (22, .iaload, 1), (23, .invokestatic 77, 3), (26, .ireturn, 1)]
theorem cdX0_nearestX_0_ok : ∀ x ∈ cdX0_nearestX_0, decode prog_2_method_17_code x.1 = .ok x.2 := by decide +kernel
def cdX0_nearestX : List (Nat × Instr × Nat) := cdX0_nearestX_0
theorem cdX0_nearestX_ok : ∀ x ∈ cdX0_nearestX, decode prog_2_method_17_code x.1 = .ok x.2 := fun x h => cdX0_nearestX_0_ok x h
def qX0_nearestX : MI := (RX0, yX0_nearestX, prog_2_method_17_code, 3, some .int, cdX0_nearestX, flX0, [], 2, 43)
theorem qX0_nearestX_ok : MOk qX0_nearestX := ⟨cdX0_nearestX_ok, flX0_ok, fun _ h => absurd h List.not_mem_nil, tw311, tw3, by decide +kernel, rfl, by decide +kernel, by decide +kernel⟩
def yX0_nearestY : MethodName := ⟨RX0, "nearestY", "(II)I"⟩
def cdX0_nearestY_0 : List (Nat × Instr × Nat) := [(0, .iload_n 2, 1), (1, .aload_n 0, 1), (2, .getfield 15, 3), (5, .aload_n 0, 1), (6, .getfield 18, 3), (9, .iload_n 1, 1), (10, .iaload, 1), (11, .iaload, 1), (12, .aload_n 0, 1), (13, .getfield 15, 3), (16, .aload_n 0, 1), (17, .getfield 21, 3), (20, .iload_n 1, 1), (21, .iaload, 1), (22, .iaload, 1), (23, .invokestatic 77, 3), (26, .ireturn, 1)]
theorem cdX0_nearestY_0_ok : ∀ x ∈ cdX0_nearestY_0, decode prog_2_method_18_code x.1 = .ok x.2 := by decide +kernel
def cdX0_nearestY : List (Nat × Instr × Nat) := cdX0_nearestY_0
theorem cdX0_nearestY_ok : ∀ x ∈ cdX0_nearestY, decode prog_2_method_18_code x.1 = .ok x.2 := fun x h => cdX0_nearestY_0_ok x h
def qX0_nearestY : MI := (RX0, yX0_nearestY, prog_2_method_18_code, 3, some .int, cdX0_nearestY, flX0, [], 2, 43)
theorem qX0_nearestY_ok : MOk qX0_nearestY := ⟨cdX0_nearestY_ok, flX0_ok, fun _ h => absurd h List.not_mem_nil, tw318, tw3, by decide +kernel, rfl, by decide +kernel, by decide +kernel⟩
def yX0_held : MethodName := ⟨RX0, "held", "(III)I"⟩
def cdX0_held_0 : List (Nat × Instr × Nat) := [(0, .iload_n 1, 1), (1, .iload_n 2, 1), (2, .invokestatic 62, 3), (5, .iload_n 0, 1), (6, .iload_n 1, 1), (7, .iload_n 2, 1), (8, .invokestatic 65, 3), (11, .invokestatic 62, 3), (14, .invokestatic 65, 3), (17, .ireturn, 1)]
theorem cdX0_held_0_ok : ∀ x ∈ cdX0_held_0, decode prog_2_method_19_code x.1 = .ok x.2 := by decide +kernel
def cdX0_held : List (Nat × Instr × Nat) := cdX0_held_0
theorem cdX0_held_ok : ∀ x ∈ cdX0_held, decode prog_2_method_19_code x.1 = .ok x.2 := fun x h => cdX0_held_0_ok x h
def qX0_held : MI := (RX0, yX0_held, prog_2_method_19_code, 3, some .int, cdX0_held, flX0, [], 1, 21)
theorem qX0_held_ok : MOk qX0_held := ⟨cdX0_held_ok, flX0_ok, fun _ h => absurd h List.not_mem_nil, tw314, tw3, by decide +kernel, rfl, by decide +kernel, by decide +kernel⟩
def yX0_wayLength : MethodName := ⟨RX0, "wayLength", "(II)I"⟩
def cdX0_wayLength_0 : List (Nat × Instr × Nat) := [(0, .aload_n 0, 1), (1, .iload_n 1, 1), (2, .invokevirtual 81, 3), (5, .ifCond .eq 11, 3), (8, .aload_n 0, 1), (9, .iload_n 2, 1), (10, .invokevirtual 81, 3), (13, .ifCond .ne 6, 3), (16, .bipush (-6), 2), (18, .ireturn, 1), (19, .bipush (-6), 2), (21, .istore_n 3, 1), (22, .iconst 0, 1), (23, .istore 4, 2), (25, .iload 4, 2), (27, .iconst 4, 1), (28, .if_icmp .gt 41, 3), (31, .aload_n 0, 1), (32, .iload_n 1, 1), (33, .iload_n 2, 1), (34, .iload 4, 2), (36, .invokevirtual 84, 3), (39, .istore 5, 2), (41, .iload 5, 2), (43, .bipush (-6), 2), (45, .if_icmp .eq 18, 3), (48, .iload_n 3, 1), (49, .bipush (-6), 2), (51, .if_icmp .eq 9, 3), (54, .iload 5, 2), (56, .iload_n 3, 1), (57, .if_icmp .ge 6, 3), (60, .iload 5, 2), (62, .istore_n 3, 1), (63, .iinc 4 1, 3), (66, .goto (-41), 3), (69, .iload_n 3, 1), (70, .ireturn, 1)]
theorem cdX0_wayLength_0_ok : ∀ x ∈ cdX0_wayLength_0, decode prog_2_method_20_code x.1 = .ok x.2 := by decide +kernel
def cdX0_wayLength : List (Nat × Instr × Nat) := cdX0_wayLength_0
theorem cdX0_wayLength_ok : ∀ x ∈ cdX0_wayLength, decode prog_2_method_20_code x.1 = .ok x.2 := fun x h => cdX0_wayLength_0_ok x h
def qX0_wayLength : MI := (RX0, yX0_wayLength, prog_2_method_20_code, 6, some .int, cdX0_wayLength, flX0, [], 3, 69)
theorem qX0_wayLength_ok : MOk qX0_wayLength := ⟨cdX0_wayLength_ok, flX0_ok, fun _ h => absurd h List.not_mem_nil, tw248, tw3, by decide +kernel, rfl, by decide +kernel, by decide +kernel⟩
def yX0_wayOut : MethodName := ⟨RX0, "wayOut", "(II)I"⟩
def cdX0_wayOut_0 : List (Nat × Instr × Nat) := [(0, .aload_n 0, 1), (1, .iload_n 1, 1), (2, .iload_n 2, 1), (3, .invokevirtual 87, 3), (6, .istore_n 3, 1), (7, .iconst 0, 1), (8, .istore 4, 2), (10, .iload_n 3, 1), (11, .bipush (-6), 2), (13, .if_icmp .eq 30, 3), (16, .iload 4, 2), (18, .iconst 4, 1), (19, .if_icmp .gt 24, 3), (22, .aload_n 0, 1), (23, .iload_n 1, 1), (24, .iload_n 2, 1), (25, .iload 4, 2), (27, .invokevirtual 84, 3), (30, .iload_n 3, 1), (31, .if_icmp .ne 6, 3), (34, .iload 4, 2), (36, .ireturn, 1), (37, .iinc 4 1, 3), (40, .goto (-30), 3), (43, .bipush (-6), 2), (45, .ireturn, 1)]
theorem cdX0_wayOut_0_ok : ∀ x ∈ cdX0_wayOut_0, decode prog_2_method_21_code x.1 = .ok x.2 := by decide +kernel
def cdX0_wayOut : List (Nat × Instr × Nat) := cdX0_wayOut_0
theorem cdX0_wayOut_ok : ∀ x ∈ cdX0_wayOut, decode prog_2_method_21_code x.1 = .ok x.2 := fun x h => cdX0_wayOut_0_ok x h
def qX0_wayOut : MI := (RX0, yX0_wayOut, prog_2_method_21_code, 5, some .int, cdX0_wayOut, flX0, [], 4, 94)
theorem qX0_wayOut_ok : MOk qX0_wayOut := ⟨cdX0_wayOut_ok, flX0_ok, fun _ h => absurd h List.not_mem_nil, tw431, tw3, by decide +kernel, rfl, by decide +kernel, by decide +kernel⟩
def yX0_lengthOut : MethodName := ⟨RX0, "lengthOut", "(III)I"⟩
def cdX0_lengthOut_0 : List (Nat × Instr × Nat) := [(0, .iload_n 3, 1), (1, .ifCond .ne 10, 3), (4, .aload_n 0, 1), (5, .iload_n 1, 1), (6, .iload_n 2, 1), (7, .invokevirtual 90, 3), (10, .ireturn, 1), (11, .aload_n 0, 1), (12, .iload_n 1, 1), (13, .iload_n 3, 1), (14, .invokestatic 93, 3), (17, .invokevirtual 96, 3), (20, .istore 4, 2), (22, .aload_n 0, 1), (23, .getfield 30, 3), (26, .aload_n 0, 1), (27, .iload_n 1, 1), (28, .iload_n 3, 1), (29, .invokestatic 93, 3), (32, .invokevirtual 100, 3), (35, .aload_n 0, 1), (36, .iload_n 2, 1), (37, .iload_n 3, 1), (38, .invokestatic 103, 3), (41, .invokevirtual 100, 3), (44, .invokestatic 44, 3), (47, .iaload, 1), (48, .istore 5, 2), (50, .aload_n 0, 1), (51, .iload_n 2, 1), (52, .iload_n 3, 1), (53, .invokestatic 103, 3), (56, .invokevirtual 106, 3), (59, .istore 6, 2), (61, .iload 4, 2), (63, .bipush (-6), 2), (65, .if_icmp .eq 17, 3), (68, .iload 5, 2), (70, .bipush (-6), 2), (72, .if_icmp .eq 10, 3), (75, .iload 6, 2), (77, .bipush (-6), 2), (79, .if_icmp .ne 8, 3), (82, .bipush (-6), 2), (84, .goto 11, 3), (87, .iload 4, 2), (89, .iload 5, 2), (91, .iadd, 1), (92, .iload 6, 2), (94, .iadd, 1), (95, .ireturn, 1)]
theorem cdX0_lengthOut_0_ok : ∀ x ∈ cdX0_lengthOut_0, decode prog_2_method_22_code x.1 = .ok x.2 := by decide +kernel
def cdX0_lengthOut : List (Nat × Instr × Nat) := cdX0_lengthOut_0
theorem cdX0_lengthOut_ok : ∀ x ∈ cdX0_lengthOut, decode prog_2_method_22_code x.1 = .ok x.2 := fun x h => cdX0_lengthOut_0_ok x h
def qX0_lengthOut : MI := (RX0, yX0_lengthOut, prog_2_method_22_code, 7, some .int, cdX0_lengthOut, flX0, [], 2, 43)
theorem qX0_lengthOut_ok : MOk qX0_lengthOut := ⟨cdX0_lengthOut_ok, flX0_ok, fun _ h => absurd h List.not_mem_nil, tw253, tw3, by decide +kernel, rfl, by decide +kernel, by decide +kernel⟩
def yX0_lengthAlong : MethodName := ⟨RX0, "lengthAlong", "(II)I"⟩
def cdX0_lengthAlong_0 : List (Nat × Instr × Nat) := [(0, .iload_n 1, 1), (1, .bipush 100, 2), (3, .idiv, 1), (4, .istore_n 3, 1), (5, .iload_n 3, 1), (6, .iload_n 2, 1), (7, .bipush 100, 2), (9, .idiv, 1), (10, .if_icmp .ne 17, 3), (13, .aload_n 0, 1), (14, .getfield 24, 3), (17, .iload_n 3, 1), (18, .iaload, 1), (19, .ifCond .eq 11, 3), (22, .iload_n 2, 1), (23, .iload_n 1, 1), (24, .if_icmp .ge 6, 3), (27, .bipush (-6), 2), (29, .ireturn, 1), (30, .iload_n 2, 1), (31, .iload_n 1, 1), (32, .isub, 1), (33, .invokestatic 48, 3), (36, .ireturn, 1)]
theorem cdX0_lengthAlong_0_ok : ∀ x ∈ cdX0_lengthAlong_0, decode prog_2_method_23_code x.1 = .ok x.2 := by decide +kernel
def cdX0_lengthAlong : List (Nat × Instr × Nat) := cdX0_lengthAlong_0
theorem cdX0_lengthAlong_ok : ∀ x ∈ cdX0_lengthAlong, decode prog_2_method_23_code x.1 = .ok x.2 := fun x h => cdX0_lengthAlong_0_ok x h
def qX0_lengthAlong : MI := (RX0, yX0_lengthAlong, prog_2_method_23_code, 4, some .int, cdX0_lengthAlong, flX0, [], 1, 20)
theorem qX0_lengthAlong_ok : MOk qX0_lengthAlong := ⟨cdX0_lengthAlong_ok, flX0_ok, fun _ h => absurd h List.not_mem_nil, tw257, tw3, by decide +kernel, rfl, by decide +kernel, by decide +kernel⟩
def yX0_leaveLength : MethodName := ⟨RX0, "leaveLength", "(IZ)I"⟩
def cdX0_leaveLength_0 : List (Nat × Instr × Nat) := [(0, .iload_n 1, 1), (1, .bipush 100, 2), (3, .idiv, 1), (4, .istore_n 3, 1), (5, .iload_n 1, 1), (6, .bipush 100, 2), (8, .irem, 1), (9, .istore 4, 2), (11, .iload_n 2, 1), (12, .ifCond .eq 13, 3), (15, .aload_n 0, 1), (16, .getfield 27, 3), (19, .iload_n 3, 1), (20, .iaload, 1), (21, .iload 4, 2), (23, .isub, 1), (24, .ireturn, 1), (25, .aload_n 0, 1), (26, .getfield 24, 3), (29, .iload_n 3, 1), (30, .iaload, 1), (31, .ifCond .ne 8, 3), (34, .iload 4, 2), (36, .goto 5, 3), (39, .bipush (-6), 2), (41, .ireturn, 1)]
theorem cdX0_leaveLength_0_ok : ∀ x ∈ cdX0_leaveLength_0, decode prog_2_method_24_code x.1 = .ok x.2 := by decide +kernel
def cdX0_leaveLength : List (Nat × Instr × Nat) := cdX0_leaveLength_0
theorem cdX0_leaveLength_ok : ∀ x ∈ cdX0_leaveLength, decode prog_2_method_24_code x.1 = .ok x.2 := fun x h => cdX0_leaveLength_0_ok x h
def qX0_leaveLength : MI := (RX0, yX0_leaveLength, prog_2_method_24_code, 5, some .int, cdX0_leaveLength, flX0, [], 0, 0)
theorem qX0_leaveLength_ok : MOk qX0_leaveLength := ⟨cdX0_leaveLength_ok, flX0_ok, fun _ h => absurd h List.not_mem_nil, tw264, tw3, by decide +kernel, rfl, by decide +kernel, by decide +kernel⟩
def yX0_comeLength : MethodName := ⟨RX0, "comeLength", "(IZ)I"⟩
def cdX0_comeLength_0 : List (Nat × Instr × Nat) := [(0, .iload_n 1, 1), (1, .bipush 100, 2), (3, .idiv, 1), (4, .istore_n 3, 1), (5, .iload_n 1, 1), (6, .bipush 100, 2), (8, .irem, 1), (9, .istore 4, 2), (11, .iload_n 2, 1), (12, .ifCond .ne 6, 3), (15, .iload 4, 2), (17, .ireturn, 1), (18, .aload_n 0, 1), (19, .getfield 24, 3), (22, .iload_n 3, 1), (23, .iaload, 1), (24, .ifCond .ne 15, 3), (27, .aload_n 0, 1), (28, .getfield 27, 3), (31, .iload_n 3, 1), (32, .iaload, 1), (33, .iload 4, 2), (35, .isub, 1), (36, .goto 5, 3), (39, .bipush (-6), 2), (41, .ireturn, 1)]
theorem cdX0_comeLength_0_ok : ∀ x ∈ cdX0_comeLength_0, decode prog_2_method_25_code x.1 = .ok x.2 := by decide +kernel
def cdX0_comeLength : List (Nat × Instr × Nat) := cdX0_comeLength_0
theorem cdX0_comeLength_ok : ∀ x ∈ cdX0_comeLength, decode prog_2_method_25_code x.1 = .ok x.2 := fun x h => cdX0_comeLength_0_ok x h
def qX0_comeLength : MI := (RX0, yX0_comeLength, prog_2_method_25_code, 5, some .int, cdX0_comeLength, flX0, [], 0, 0)
theorem qX0_comeLength_ok : MOk qX0_comeLength := ⟨cdX0_comeLength_ok, flX0_ok, fun _ h => absurd h List.not_mem_nil, tw275, tw3, by decide +kernel, rfl, by decide +kernel, by decide +kernel⟩
def yX0_endOf : MethodName := ⟨RX0, "endOf", "(IZ)I"⟩
def cdX0_endOf_0 : List (Nat × Instr × Nat) := [(0, .iload_n 1, 1), (1, .bipush 100, 2), (3, .idiv, 1), (4, .istore_n 3, 1), (5, .iload_n 2, 1), (6, .ifCond .eq 12, 3), (9, .aload_n 0, 1), (10, .getfield 21, 3), (13, .iload_n 3, 1), (14, .iaload, 1), (15, .goto 9, 3), (18, .aload_n 0, 1), (19, .getfield 18, 3), (22, .iload_n 3, 1), (23, .iaload, 1), (24, .ireturn, 1)]
theorem cdX0_endOf_0_ok : ∀ x ∈ cdX0_endOf_0, decode prog_2_method_26_code x.1 = .ok x.2 := by decide +kernel
def cdX0_endOf : List (Nat × Instr × Nat) := cdX0_endOf_0
theorem cdX0_endOf_ok : ∀ x ∈ cdX0_endOf, decode prog_2_method_26_code x.1 = .ok x.2 := fun x h => cdX0_endOf_0_ok x h
def qX0_endOf : MI := (RX0, yX0_endOf, prog_2_method_26_code, 4, some .int, cdX0_endOf, flX0, [], 0, 0)
theorem qX0_endOf_ok : MOk qX0_endOf := ⟨cdX0_endOf_ok, flX0_ok, fun _ h => absurd h List.not_mem_nil, tw268, tw3, by decide +kernel, rfl, by decide +kernel, by decide +kernel⟩
def yX0_leavesByLast : MethodName := ⟨RX0, "leavesByLast", "(I)Z"⟩
def cdX0_leavesByLast_0 : List (Nat × Instr × Nat) := [(0, .iload_n 0, 1), (1, .iconst 3, 1), (2, .if_icmp .lt 7, 3), (5, .iconst 1, 1), (6, .goto 4, 3), (9, .iconst 0, 1), (10, .ireturn, 1)]
theorem cdX0_leavesByLast_0_ok : ∀ x ∈ cdX0_leavesByLast_0, decode prog_2_method_27_code x.1 = .ok x.2 := by decide +kernel
def cdX0_leavesByLast : List (Nat × Instr × Nat) := cdX0_leavesByLast_0
theorem cdX0_leavesByLast_ok : ∀ x ∈ cdX0_leavesByLast, decode prog_2_method_27_code x.1 = .ok x.2 := fun x h => cdX0_leavesByLast_0_ok x h
def qX0_leavesByLast : MI := (RX0, yX0_leavesByLast, prog_2_method_27_code, 1, some .boolean, cdX0_leavesByLast, flX0, [], 0, 0)
theorem qX0_leavesByLast_ok : MOk qX0_leavesByLast := ⟨cdX0_leavesByLast_ok, flX0_ok, fun _ h => absurd h List.not_mem_nil, tw260, tw3, by decide +kernel, rfl, by decide +kernel, by decide +kernel⟩
def yX0_comesByLast : MethodName := ⟨RX0, "comesByLast", "(I)Z"⟩
def cdX0_comesByLast_0 : List (Nat × Instr × Nat) := [(0, .iload_n 0, 1), (1, .iconst 2, 1), (2, .if_icmp .eq 8, 3), (5, .iload_n 0, 1), (6, .iconst 4, 1), (7, .if_icmp .ne 7, 3), (10, .iconst 1, 1), (11, .goto 4, 3), (14, .iconst 0, 1), (15, .ireturn, 1)]
theorem cdX0_comesByLast_0_ok : ∀ x ∈ cdX0_comesByLast_0, decode prog_2_method_28_code x.1 = .ok x.2 := by decide +kernel
def cdX0_comesByLast : List (Nat × Instr × Nat) := cdX0_comesByLast_0
theorem cdX0_comesByLast_ok : ∀ x ∈ cdX0_comesByLast, decode prog_2_method_28_code x.1 = .ok x.2 := fun x h => cdX0_comesByLast_0_ok x h
def qX0_comesByLast : MI := (RX0, yX0_comesByLast, prog_2_method_28_code, 1, some .boolean, cdX0_comesByLast, flX0, [], 0, 0)
theorem qX0_comesByLast_ok : MOk qX0_comesByLast := ⟨cdX0_comesByLast_ok, flX0_ok, fun _ h => absurd h List.not_mem_nil, tw271, tw3, by decide +kernel, rfl, by decide +kernel, by decide +kernel⟩
def yX0_crossingOnWay : MethodName := ⟨RX0, "crossingOnWay", "(III)I"⟩
def cdX0_crossingOnWay_0 : List (Nat × Instr × Nat) := [(0, .aload_n 0, 1), (1, .iload_n 1, 1), (2, .iload_n 2, 1), (3, .invokevirtual 109, 3), (6, .istore 4, 2), (8, .iload 4, 2), (10, .bipush (-6), 2), (12, .if_icmp .eq 12, 3), (15, .iload 4, 2), (17, .ifCond .eq 7, 3), (20, .iload_n 3, 1), (21, .ifCond .ge 6, 3), (24, .bipush (-6), 2), (26, .ireturn, 1), (27, .aload_n 0, 1), (28, .iload_n 1, 1), (29, .iload 4, 2), (31, .invokestatic 93, 3), (34, .invokevirtual 100, 3), (37, .istore 5, 2), (39, .aload_n 0, 1), (40, .iload_n 2, 1), (41, .iload 4, 2), (43, .invokestatic 103, 3), (46, .invokevirtual 100, 3), (49, .istore 6, 2), (51, .iconst 0, 1), (52, .istore 7, 2), (54, .iload 7, 2), (56, .iload_n 3, 1), (57, .if_icmp .ge 36, 3), (60, .iload 7, 2), (62, .bipush 12, 2), (64, .if_icmp .ge 29, 3), (67, .iload 5, 2), (69, .iload 6, 2), (71, .if_icmp .ne 6, 3), (74, .bipush (-6), 2), (76, .ireturn, 1), (77, .aload_n 0, 1), (78, .iload 5, 2), (80, .iload 6, 2), (82, .invokevirtual 112, 3), (85, .istore 5, 2), (87, .iinc 7 1, 3), (90, .goto (-36), 3), (93, .iload 5, 2), (95, .ireturn, 1)]
theorem cdX0_crossingOnWay_0_ok : ∀ x ∈ cdX0_crossingOnWay_0, decode prog_2_method_29_code x.1 = .ok x.2 := by decide +kernel
def cdX0_crossingOnWay : List (Nat × Instr × Nat) := cdX0_crossingOnWay_0
theorem cdX0_crossingOnWay_ok : ∀ x ∈ cdX0_crossingOnWay, decode prog_2_method_29_code x.1 = .ok x.2 := fun x h => cdX0_crossingOnWay_0_ok x h
def qX0_crossingOnWay : MI := (RX0, yX0_crossingOnWay, prog_2_method_29_code, 8, some .int, cdX0_crossingOnWay, flX0, [], 5, 118)
theorem qX0_crossingOnWay_ok : MOk qX0_crossingOnWay := ⟨cdX0_crossingOnWay_ok, flX0_ok, fun _ h => absurd h List.not_mem_nil, tw427, tw3, by decide +kernel, rfl, by decide +kernel, by decide +kernel⟩
def yX0_nextCrossing : MethodName := ⟨RX0, "nextCrossing", "(II)I"⟩
def cdX0_nextCrossing_0 : List (Nat × Instr × Nat) := [(0, .bipush (-6), 2), (2, .istore_n 3, 1), (3, .aload_n 0, 1), (4, .iload_n 1, 1), (5, .iload_n 2, 1), (6, .invokevirtual 115, 3), (9, .istore 4, 2), (11, .iconst 0, 1), (12, .istore 5, 2), (14, .iload 4, 2), (16, .bipush (-6), 2), (18, .if_icmp .eq 73, 3), (21, .iload 5, 2), (23, .aload_n 0, 1), (24, .getfield 37, 3), (27, .if_icmp .ge 64, 3), (30, .aload_n 0, 1), (31, .iload 5, 2), (33, .iload_n 1, 1), (34, .invokevirtual 118, 3), (37, .istore 6, 2), (39, .aload_n 0, 1), (40, .iload 6, 2), (42, .iload_n 2, 1), (43, .invokevirtual 115, 3), (46, .istore 7, 2), (48, .iload 7, 2), (50, .bipush (-6), 2), (52, .if_icmp .eq 33, 3), (55, .aload_n 0, 1), (56, .getfield 27, 3), (59, .iload 5, 2), (61, .iaload, 1), (62, .iload 7, 2), (64, .iadd, 1), (65, .iload 4, 2), (67, .if_icmp .ne 18, 3), (70, .iload_n 3, 1), (71, .bipush (-6), 2), (73, .if_icmp .eq 9, 3), (76, .iload 6, 2), (78, .iload_n 3, 1), (79, .if_icmp .ge 6, 3), (82, .iload 6, 2), (84, .istore_n 3, 1), (85, .iinc 5 1, 3), (88, .goto (-74), 3), (91, .iload_n 3, 1), (92, .ireturn, 1)]
theorem cdX0_nextCrossing_0_ok : ∀ x ∈ cdX0_nextCrossing_0, decode prog_2_method_30_code x.1 = .ok x.2 := by decide +kernel
def cdX0_nextCrossing : List (Nat × Instr × Nat) := cdX0_nextCrossing_0
theorem cdX0_nextCrossing_ok : ∀ x ∈ cdX0_nextCrossing, decode prog_2_method_30_code x.1 = .ok x.2 := fun x h => cdX0_nextCrossing_0_ok x h
def qX0_nextCrossing : MI := (RX0, yX0_nextCrossing, prog_2_method_30_code, 8, some .int, cdX0_nextCrossing, flX0, [], 2, 43)
theorem qX0_nextCrossing_ok : MOk qX0_nextCrossing := ⟨cdX0_nextCrossing_ok, flX0_ok, fun _ h => absurd h List.not_mem_nil, tw436, tw3, by decide +kernel, rfl, by decide +kernel, by decide +kernel⟩
def yX0_leadsFrom : MethodName := ⟨RX0, "leadsFrom", "(II)I"⟩
def cdX0_leadsFrom_0 : List (Nat × Instr × Nat) := [(0, .aload_n 0, 1), (1, .getfield 18, 3), (4, .iload_n 1, 1), (5, .iaload, 1), (6, .iload_n 2, 1), (7, .if_icmp .ne 10, 3), (10, .aload_n 0, 1), (11, .getfield 21, 3), (14, .iload_n 1, 1), (15, .iaload, 1), (16, .ireturn, 1), (17, .aload_n 0, 1), (18, .getfield 21, 3), (21, .iload_n 1, 1), (22, .iaload, 1), (23, .iload_n 2, 1), (24, .if_icmp .ne 21, 3), (27, .aload_n 0, 1), (28, .getfield 24, 3), (31, .iload_n 1, 1), (32, .iaload, 1), (33, .ifCond .ne 12, 3), (36, .aload_n 0, 1), (37, .getfield 18, 3), (40, .iload_n 1, 1), (41, .iaload, 1), (42, .goto 5, 3), (45, .bipush (-6), 2), (47, .ireturn, 1)]
theorem cdX0_leadsFrom_0_ok : ∀ x ∈ cdX0_leadsFrom_0, decode prog_2_method_31_code x.1 = .ok x.2 := by decide +kernel
def cdX0_leadsFrom : List (Nat × Instr × Nat) := cdX0_leadsFrom_0
theorem cdX0_leadsFrom_ok : ∀ x ∈ cdX0_leadsFrom, decode prog_2_method_31_code x.1 = .ok x.2 := fun x h => cdX0_leadsFrom_0_ok x h
def qX0_leadsFrom : MI := (RX0, yX0_leadsFrom, prog_2_method_31_code, 3, some .int, cdX0_leadsFrom, flX0, [], 0, 0)
theorem qX0_leadsFrom_ok : MOk qX0_leadsFrom := ⟨cdX0_leadsFrom_ok, flX0_ok, fun _ h => absurd h List.not_mem_nil, tw441, tw3, by decide +kernel, rfl, by decide +kernel, by decide +kernel⟩
def yX0_tellCrossing : MethodName := ⟨RX0, "tellCrossing", "(I)I"⟩
def cdX0_tellCrossing_0 : List (Nat × Instr × Nat) := [(0, .aload_n 0, 1), (1, .iload_n 1, 1), (2, .invokevirtual 40, 3), (5, .ifCond .eq 22, 3), (8, .bipush 100, 2), (10, .aload_n 0, 1), (11, .getfield 9, 3), (14, .iload_n 1, 1), (15, .iaload, 1), (16, .imul, 1), (17, .aload_n 0, 1), (18, .getfield 15, 3), (21, .iload_n 1, 1), (22, .iaload, 1), (23, .iadd, 1), (24, .goto 5, 3), (27, .bipush (-2), 2), (29, .ireturn, 1)]
theorem cdX0_tellCrossing_0_ok : ∀ x ∈ cdX0_tellCrossing_0, decode prog_2_method_32_code x.1 = .ok x.2 := by decide +kernel
def cdX0_tellCrossing : List (Nat × Instr × Nat) := cdX0_tellCrossing_0
theorem cdX0_tellCrossing_ok : ∀ x ∈ cdX0_tellCrossing, decode prog_2_method_32_code x.1 = .ok x.2 := fun x h => cdX0_tellCrossing_0_ok x h
def qX0_tellCrossing : MI := (RX0, yX0_tellCrossing, prog_2_method_32_code, 2, some .int, cdX0_tellCrossing, flX0, [], 1, 21)
theorem qX0_tellCrossing_ok : MOk qX0_tellCrossing := ⟨cdX0_tellCrossing_ok, flX0_ok, fun _ h => absurd h List.not_mem_nil, tw515, tw3, by decide +kernel, rfl, by decide +kernel, by decide +kernel⟩
def yX0_tellRoad : MethodName := ⟨RX0, "tellRoad", "(I)I"⟩
def cdX0_tellRoad_0 : List (Nat × Instr × Nat) := [(0, .aload_n 0, 1), (1, .iload_n 1, 1), (2, .invokevirtual 68, 3), (5, .ifCond .eq 33, 3), (8, .sipush 1000, 3), (11, .aload_n 0, 1), (12, .getfield 18, 3), (15, .iload_n 1, 1), (16, .iaload, 1), (17, .imul, 1), (18, .bipush 10, 2), (20, .aload_n 0, 1), (21, .getfield 21, 3), (24, .iload_n 1, 1), (25, .iaload, 1), (26, .imul, 1), (27, .iadd, 1), (28, .aload_n 0, 1), (29, .getfield 24, 3), (32, .iload_n 1, 1), (33, .iaload, 1), (34, .iadd, 1), (35, .goto 5, 3), (38, .bipush (-2), 2), (40, .ireturn, 1)]
theorem cdX0_tellRoad_0_ok : ∀ x ∈ cdX0_tellRoad_0, decode prog_2_method_33_code x.1 = .ok x.2 := by decide +kernel
def cdX0_tellRoad : List (Nat × Instr × Nat) := cdX0_tellRoad_0
theorem cdX0_tellRoad_ok : ∀ x ∈ cdX0_tellRoad, decode prog_2_method_33_code x.1 = .ok x.2 := fun x h => cdX0_tellRoad_0_ok x h
def qX0_tellRoad : MI := (RX0, yX0_tellRoad, prog_2_method_33_code, 2, some .int, cdX0_tellRoad, flX0, [], 1, 21)
theorem qX0_tellRoad_ok : MOk qX0_tellRoad := ⟨cdX0_tellRoad_ok, flX0_ok, fun _ h => absurd h List.not_mem_nil, tw519, tw3, by decide +kernel, rfl, by decide +kernel, by decide +kernel⟩
def yX0_copyFrom : MethodName := ⟨RX0, "copyFrom", "(LRoadTrace$Net;)V"⟩
def cdX0_copyFrom_0 : List (Nat × Instr × Nat) := [(0, .aload_n 0, 1), (1, .aload_n 1, 1), (2, .getfield 33, 3), (5, .putfield 33, 3), (8, .aload_n 0, 1), (9, .aload_n 1, 1), (10, .getfield 37, 3), (13, .putfield 37, 3), (16, .aload_n 1, 1), (17, .getfield 9, 3), (20, .iconst 0, 1), (21, .aload_n 0, 1), (22, .getfield 9, 3), (25, .iconst 0, 1), (26, .bipush 12, 2), (28, .invokestatic 121, 3), (31, .aload_n 1, 1), (32, .getfield 15, 3), (35, .iconst 0, 1), (36, .aload_n 0, 1), (37, .getfield 15, 3), (40, .iconst 0, 1), (41, .bipush 12, 2), (43, .invokestatic 121, 3), (46, .aload_n 1, 1), (47, .getfield 18, 3), (50, .iconst 0, 1), (51, .aload_n 0, 1), (52, .getfield 18, 3), (55, .iconst 0, 1), (56, .bipush 20, 2), (58, .invokestatic 121, 3), (61, .aload_n 1, 1), (62, .getfield 21, 3), (65, .iconst 0, 1), (66, .aload_n 0, 1), (67, .getfield 21, 3), (70, .iconst 0, 1), (71, .bipush 20, 2), (73, .invokestatic 121, 3), (76, .aload_n 1, 1), (77, .getfield 24, 3), (80, .iconst 0, 1), (81, .aload_n 0, 1), (82, .getfield 24, 3), (85, .iconst 0, 1), (86, .bipush 20, 2), (88, .invokestatic 121, 3), (91, .aload_n 1, 1), (92, .getfield 27, 3), (95, .iconst 0, 1), (96, .aload_n 0, 1), (97, .getfield 27, 3), (100, .iconst 0, 1), (101, .bipush 20, 2), (103, .invokestatic 121, 3), (106, .aload_n 1, 1), (107, .getfield 30, 3), (110, .iconst 0, 1), (111, .aload_n 0, 1)]
theorem cdX0_copyFrom_0_ok : ∀ x ∈ cdX0_copyFrom_0, decode prog_2_method_34_code x.1 = .ok x.2 := by decide +kernel
def cdX0_copyFrom_1 : List (Nat × Instr × Nat) := [(112, .getfield 30, 3), (115, .iconst 0, 1), (116, .sipush 144, 3), (119, .invokestatic 121, 3), (122, .return_, 1)]
theorem cdX0_copyFrom_1_ok : ∀ x ∈ cdX0_copyFrom_1, decode prog_2_method_34_code x.1 = .ok x.2 := by decide +kernel
def cdX0_copyFrom : List (Nat × Instr × Nat) := cdX0_copyFrom_0 ++ (cdX0_copyFrom_1)
theorem cdX0_copyFrom_ok : ∀ x ∈ cdX0_copyFrom, decode prog_2_method_34_code x.1 = .ok x.2 := fun x h => (List.mem_append.mp h).elim (fun h => cdX0_copyFrom_0_ok x h) (fun h => cdX0_copyFrom_1_ok x h)
def qX0_copyFrom : MI := (RX0, yX0_copyFrom, prog_2_method_34_code, 2, none, cdX0_copyFrom, flX0, [], 1, 64)
theorem qX0_copyFrom_ok : MOk qX0_copyFrom := ⟨cdX0_copyFrom_ok, flX0_ok, fun _ h => absurd h List.not_mem_nil, tw482, tw3, by decide +kernel, rfl, by decide +kernel, by decide +kernel⟩
def yX1_allows : MethodName := ⟨RX1, "allows", "(II)Z"⟩
def cdX1_allows_0 : List (Nat × Instr × Nat) := [(0, .iload_n 1, 1), (1, .ifCond .lt 25, 3), (4, .iload_n 1, 1), (5, .iconst 4, 1), (6, .if_icmp .ge 20, 3), (9, .iload_n 2, 1), (10, .ifCond .lt 16, 3), (13, .iload_n 2, 1), (14, .getstatic 15, 3), (17, .iload_n 1, 1), (18, .iaload, 1), (19, .if_icmp .gt 7, 3), (22, .iconst 1, 1), (23, .goto 4, 3), (26, .iconst 0, 1), (27, .ireturn, 1)]
theorem cdX1_allows_0_ok : ∀ x ∈ cdX1_allows_0, decode prog_3_method_2_code x.1 = .ok x.2 := by decide +kernel
def cdX1_allows : List (Nat × Instr × Nat) := cdX1_allows_0
theorem cdX1_allows_ok : ∀ x ∈ cdX1_allows, decode prog_3_method_2_code x.1 = .ok x.2 := fun x h => cdX1_allows_0_ok x h
def qX1_allows : MI := (RX1, yX1_allows, prog_3_method_2_code, 3, some .boolean, cdX1_allows, flX1, [], 0, 0)
theorem qX1_allows_ok : MOk qX1_allows := ⟨cdX1_allows_ok, flX1_ok, fun _ h => absurd h List.not_mem_nil, tw205, tw4, by decide +kernel, rfl, by decide +kernel, by decide +kernel⟩
def yX1_change : MethodName := ⟨RX1, "change", "(II)I"⟩
def cdX1_change_0 : List (Nat × Instr × Nat) := [(0, .iload_n 1, 1), (1, .ifCond .lt 8, 3), (4, .iload_n 1, 1), (5, .iconst 4, 1), (6, .if_icmp .lt 6, 3), (9, .bipush (-2), 2), (11, .ireturn, 1), (12, .aload_n 0, 1), (13, .getfield 9, 3), (16, .iload_n 1, 1), (17, .iaload, 1), (18, .istore_n 3, 1), (19, .aload_n 0, 1), (20, .getfield 9, 3), (23, .iload_n 1, 1), (24, .iload_n 2, 1), (25, .iastore, 1), (26, .iload_n 3, 1), (27, .ireturn, 1)]
theorem cdX1_change_0_ok : ∀ x ∈ cdX1_change_0, decode prog_3_method_3_code x.1 = .ok x.2 := by decide +kernel
def cdX1_change : List (Nat × Instr × Nat) := cdX1_change_0
theorem cdX1_change_ok : ∀ x ∈ cdX1_change, decode prog_3_method_3_code x.1 = .ok x.2 := fun x h => cdX1_change_0_ok x h
def qX1_change : MI := (RX1, yX1_change, prog_3_method_3_code, 4, some .int, cdX1_change, flX1, [], 0, 0)
theorem qX1_change_ok : MOk qX1_change := ⟨cdX1_change_ok, flX1_ok, fun _ h => absurd h List.not_mem_nil, tw211, tw4, by decide +kernel, rfl, by decide +kernel, by decide +kernel⟩
def yX1_tellRule : MethodName := ⟨RX1, "tellRule", "(I)I"⟩
def cdX1_tellRule_0 : List (Nat × Instr × Nat) := [(0, .iload_n 1, 1), (1, .ifCond .lt 17, 3), (4, .iload_n 1, 1), (5, .iconst 4, 1), (6, .if_icmp .ge 12, 3), (9, .aload_n 0, 1), (10, .getfield 9, 3), (13, .iload_n 1, 1), (14, .iaload, 1), (15, .goto 5, 3), (18, .bipush (-2), 2), (20, .ireturn, 1)]
theorem cdX1_tellRule_0_ok : ∀ x ∈ cdX1_tellRule_0, decode prog_3_method_4_code x.1 = .ok x.2 := by decide +kernel
def cdX1_tellRule : List (Nat × Instr × Nat) := cdX1_tellRule_0
theorem cdX1_tellRule_ok : ∀ x ∈ cdX1_tellRule, decode prog_3_method_4_code x.1 = .ok x.2 := fun x h => cdX1_tellRule_0_ok x h
def qX1_tellRule : MI := (RX1, yX1_tellRule, prog_3_method_4_code, 2, some .int, cdX1_tellRule, flX1, [], 0, 0)
theorem qX1_tellRule_ok : MOk qX1_tellRule := ⟨cdX1_tellRule_ok, flX1_ok, fun _ h => absurd h List.not_mem_nil, tw511, tw4, by decide +kernel, rfl, by decide +kernel, by decide +kernel⟩
def yX1_copyFrom : MethodName := ⟨RX1, "copyFrom", "(LRoadTrace$Rules;)V"⟩
def cdX1_copyFrom_0 : List (Nat × Instr × Nat) := [(0, .aload_n 1, 1), (1, .getfield 9, 3), (4, .iconst 0, 1), (5, .aload_n 0, 1), (6, .getfield 9, 3), (9, .iconst 0, 1), (10, .iconst 4, 1), (11, .invokestatic 18, 3), (14, .return_, 1)]
theorem cdX1_copyFrom_0_ok : ∀ x ∈ cdX1_copyFrom_0, decode prog_3_method_5_code x.1 = .ok x.2 := by decide +kernel
def cdX1_copyFrom : List (Nat × Instr × Nat) := cdX1_copyFrom_0
theorem cdX1_copyFrom_ok : ∀ x ∈ cdX1_copyFrom, decode prog_3_method_5_code x.1 = .ok x.2 := fun x h => cdX1_copyFrom_0_ok x h
def qX1_copyFrom : MI := (RX1, yX1_copyFrom, prog_3_method_5_code, 2, none, cdX1_copyFrom, flX1, [], 1, 64)
theorem qX1_copyFrom_ok : MOk qX1_copyFrom := ⟨cdX1_copyFrom_ok, flX1_ok, fun _ h => absurd h List.not_mem_nil, tw489, tw4, by decide +kernel, rfl, by decide +kernel, by decide +kernel⟩
def yX2_copyFrom : MethodName := ⟨RX2, "copyFrom", "(LRoadTrace$State;)V"⟩
def cdX2_copyFrom_0 : List (Nat × Instr × Nat) := [(0, .aload_n 0, 1), (1, .getfield 10, 3), (4, .aload_n 1, 1), (5, .getfield 10, 3), (8, .invokevirtual 36, 3), (11, .aload_n 0, 1), (12, .getfield 19, 3), (15, .aload_n 1, 1), (16, .getfield 19, 3), (19, .invokevirtual 40, 3), (22, .aload_n 0, 1), (23, .getfield 28, 3), (26, .aload_n 1, 1), (27, .getfield 28, 3), (30, .invokevirtual 43, 3), (33, .return_, 1)]
theorem cdX2_copyFrom_0_ok : ∀ x ∈ cdX2_copyFrom_0, decode prog_4_method_2_code x.1 = .ok x.2 := by decide +kernel
def cdX2_copyFrom : List (Nat × Instr × Nat) := cdX2_copyFrom_0
theorem cdX2_copyFrom_ok : ∀ x ∈ cdX2_copyFrom, decode prog_4_method_2_code x.1 = .ok x.2 := fun x h => cdX2_copyFrom_0_ok x h
def qX2_copyFrom : MI := (RX2, yX2_copyFrom, prog_4_method_2_code, 2, none, cdX2_copyFrom, flX2, [], 5, 110)
theorem qX2_copyFrom_ok : MOk qX2_copyFrom := ⟨cdX2_copyFrom_ok, flX2_ok, fun _ h => absurd h List.not_mem_nil, tw478, tw2, by decide +kernel, rfl, by decide +kernel, by decide +kernel⟩
def yX3_hasFix : MethodName := ⟨RX3, "hasFix", "(I)Z"⟩
def cdX3_hasFix_0 : List (Nat × Instr × Nat) := [(0, .iload_n 1, 1), (1, .ifCond .lt 15, 3), (4, .iload_n 1, 1), (5, .aload_n 0, 1), (6, .getfield 54, 3), (9, .if_icmp .ge 7, 3), (12, .iconst 1, 1), (13, .goto 4, 3), (16, .iconst 0, 1), (17, .ireturn, 1)]
theorem cdX3_hasFix_0_ok : ∀ x ∈ cdX3_hasFix_0, decode prog_5_method_2_code x.1 = .ok x.2 := by decide +kernel
def cdX3_hasFix : List (Nat × Instr × Nat) := cdX3_hasFix_0
theorem cdX3_hasFix_ok : ∀ x ∈ cdX3_hasFix, decode prog_5_method_2_code x.1 = .ok x.2 := fun x h => cdX3_hasFix_0_ok x h
def qX3_hasFix : MI := (RX3, yX3_hasFix, prog_5_method_2_code, 2, some .boolean, cdX3_hasFix, flX3, [], 0, 0)
theorem qX3_hasFix_ok : MOk qX3_hasFix := ⟨cdX3_hasFix_ok, flX3_ok, fun _ h => absurd h List.not_mem_nil, tw295, tw5, by decide +kernel, rfl, by decide +kernel, by decide +kernel⟩
def yX3_hasCandidate : MethodName := ⟨RX3, "hasCandidate", "(II)Z"⟩
def cdX3_hasCandidate_0 : List (Nat × Instr × Nat) := [(0, .aload_n 0, 1), (1, .iload_n 1, 1), (2, .invokevirtual 58, 3), (5, .ifCond .eq 21, 3), (8, .iload_n 2, 1), (9, .ifCond .lt 17, 3), (12, .iload_n 2, 1), (13, .aload_n 0, 1), (14, .getfield 18, 3), (17, .iload_n 1, 1), (18, .iaload, 1), (19, .if_icmp .ge 7, 3), (22, .iconst 1, 1), (23, .goto 4, 3), (26, .iconst 0, 1), (27, .ireturn, 1)]
theorem cdX3_hasCandidate_0_ok : ∀ x ∈ cdX3_hasCandidate_0, decode prog_5_method_3_code x.1 = .ok x.2 := by decide +kernel
def cdX3_hasCandidate : List (Nat × Instr × Nat) := cdX3_hasCandidate_0
theorem cdX3_hasCandidate_ok : ∀ x ∈ cdX3_hasCandidate, decode prog_5_method_3_code x.1 = .ok x.2 := fun x h => cdX3_hasCandidate_0_ok x h
def qX3_hasCandidate : MI := (RX3, yX3_hasCandidate, prog_5_method_3_code, 3, some .boolean, cdX3_hasCandidate, flX3, [], 1, 21)
theorem qX3_hasCandidate_ok : MOk qX3_hasCandidate := ⟨cdX3_hasCandidate_ok, flX3_ok, fun _ h => absurd h List.not_mem_nil, tw351, tw5, by decide +kernel, rfl, by decide +kernel, by decide +kernel⟩
def yX3_isGap : MethodName := ⟨RX3, "isGap", "(I)Z"⟩
def cdX3_isGap_0 : List (Nat × Instr × Nat) := [(0, .aload_n 0, 1), (1, .iload_n 1, 1), (2, .invokevirtual 58, 3), (5, .ifCond .eq 14, 3), (8, .aload_n 0, 1), (9, .getfield 21, 3), (12, .iload_n 1, 1), (13, .iaload, 1), (14, .bipush (-6), 2), (16, .if_icmp .ne 7, 3), (19, .iconst 1, 1), (20, .goto 4, 3), (23, .iconst 0, 1), (24, .ireturn, 1)]
theorem cdX3_isGap_0_ok : ∀ x ∈ cdX3_isGap_0, decode prog_5_method_4_code x.1 = .ok x.2 := by decide +kernel
def cdX3_isGap : List (Nat × Instr × Nat) := cdX3_isGap_0
theorem cdX3_isGap_ok : ∀ x ∈ cdX3_isGap, decode prog_5_method_4_code x.1 = .ok x.2 := fun x h => cdX3_isGap_0_ok x h
def qX3_isGap : MI := (RX3, yX3_isGap, prog_5_method_4_code, 2, some .boolean, cdX3_isGap, flX3, [], 1, 21)
theorem qX3_isGap_ok : MOk qX3_isGap := ⟨cdX3_isGap_ok, flX3_ok, fun _ h => absurd h List.not_mem_nil, tw291, tw5, by decide +kernel, rfl, by decide +kernel, by decide +kernel⟩
def yX3_slot : MethodName := ⟨RX3, "slot", "(II)I"⟩
def cdX3_slot_0 : List (Nat × Instr × Nat) := [(0, .iload_n 0, 1), (1, .bipush 20, 2), (3, .imul, 1), (4, .iload_n 1, 1), (5, .iadd, 1), (6, .ireturn, 1)]
theorem cdX3_slot_0_ok : ∀ x ∈ cdX3_slot_0, decode prog_5_method_5_code x.1 = .ok x.2 := by decide +kernel
def cdX3_slot : List (Nat × Instr × Nat) := cdX3_slot_0
theorem cdX3_slot_ok : ∀ x ∈ cdX3_slot, decode prog_5_method_5_code x.1 = .ok x.2 := fun x h => cdX3_slot_0_ok x h
def qX3_slot : MI := (RX3, yX3_slot, prog_5_method_5_code, 2, some .int, cdX3_slot, flX3, [], 0, 0)
theorem qX3_slot_ok : MOk qX3_slot := ⟨cdX3_slot_ok, flX3_ok, fun _ h => absurd h List.not_mem_nil, tw321, tw5, by decide +kernel, rfl, by decide +kernel, by decide +kernel⟩
def yX3_addFix : MethodName := ⟨RX3, "addFix", "(II)V"⟩
def cdX3_addFix_0 : List (Nat × Instr × Nat) := [(0, .aload_n 0, 1), (1, .getfield 54, 3), (4, .bipush 16, 2), (6, .if_icmp .lt 4, 3), (9, .return_, 1), (10, .aload_n 0, 1), (11, .invokevirtual 62, 3), (14, .istore_n 3, 1), (15, .aload_n 0, 1), (16, .getfield 54, 3), (19, .istore 4, 2), (21, .aload_n 0, 1), (22, .getfield 9, 3), (25, .iload 4, 2), (27, .iload_n 1, 1), (28, .iastore, 1), (29, .aload_n 0, 1), (30, .getfield 15, 3), (33, .iload 4, 2), (35, .iload_n 2, 1), (36, .iastore, 1), (37, .aload_n 0, 1), (38, .iload 4, 2), (40, .iconst 1, 1), (41, .iadd, 1), (42, .putfield 54, 3), (45, .aload_n 0, 1), (46, .getfield 24, 3), (49, .iload 4, 2), (51, .bipush (-6), 2), (53, .iastore, 1), (54, .aload_n 0, 1), (55, .iload 4, 2), (57, .invokevirtual 66, 3), (60, .aload_n 0, 1), (61, .getfield 18, 3), (64, .iload 4, 2), (66, .iaload, 1), (67, .ifCond .ne 15, 3), (70, .aload_n 0, 1), (71, .getfield 21, 3), (74, .iload 4, 2), (76, .bipush (-6), 2), (78, .iastore, 1), (79, .goto 67, 3), (82, .iload_n 3, 1), (83, .bipush (-6), 2), (85, .if_icmp .ne 13, 3), (88, .aload_n 0, 1), (89, .iload 4, 2), (91, .iconst 0, 1), (92, .invokevirtual 70, 3), (95, .goto 51, 3), (98, .aload_n 0, 1), (99, .iload 4, 2), (101, .iload_n 3, 1), (102, .invokevirtual 74, 3), (105, .ifCond .eq 27, 3), (108, .aload_n 0, 1), (109, .getfield 21, 3)]
theorem cdX3_addFix_0_ok : ∀ x ∈ cdX3_addFix_0, decode prog_5_method_6_code x.1 = .ok x.2 := by decide +kernel
def cdX3_addFix_1 : List (Nat × Instr × Nat) := [(112, .iload 4, 2), (114, .aload_n 0, 1), (115, .getfield 21, 3), (118, .iload_n 3, 1), (119, .iaload, 1), (120, .iastore, 1), (121, .aload_n 0, 1), (122, .getfield 24, 3), (125, .iload 4, 2), (127, .iload_n 3, 1), (128, .iastore, 1), (129, .goto 17, 3), (132, .aload_n 0, 1), (133, .iload 4, 2), (135, .aload_n 0, 1), (136, .getfield 21, 3), (139, .iload_n 3, 1), (140, .iaload, 1), (141, .iconst 1, 1), (142, .iadd, 1), (143, .invokevirtual 70, 3), (146, .aload_n 0, 1), (147, .invokevirtual 78, 3), (150, .return_, 1)]
theorem cdX3_addFix_1_ok : ∀ x ∈ cdX3_addFix_1, decode prog_5_method_6_code x.1 = .ok x.2 := by decide +kernel
def cdX3_addFix : List (Nat × Instr × Nat) := cdX3_addFix_0 ++ (cdX3_addFix_1)
theorem cdX3_addFix_ok : ∀ x ∈ cdX3_addFix, decode prog_5_method_6_code x.1 = .ok x.2 := fun x h => (List.mem_append.mp h).elim (fun h => cdX3_addFix_0_ok x h) (fun h => cdX3_addFix_1_ok x h)
def qX3_addFix : MI := (RX3, yX3_addFix, prog_5_method_6_code, 5, none, cdX3_addFix, flX3, [], 6, 148)
theorem qX3_addFix_ok : MOk qX3_addFix := ⟨cdX3_addFix_ok, flX3_ok, fun _ h => absurd h List.not_mem_nil, tw283, tw5, by decide +kernel, rfl, by decide +kernel, by decide +kernel⟩
def yX3_dropFix : MethodName := ⟨RX3, "dropFix", "()V"⟩
def cdX3_dropFix_0 : List (Nat × Instr × Nat) := [(0, .aload_n 0, 1), (1, .getfield 54, 3), (4, .ifCond .gt 4, 3), (7, .return_, 1), (8, .aload_n 0, 1), (9, .dup, 1), (10, .getfield 54, 3), (13, .iconst 1, 1), (14, .isub, 1), (15, .putfield 54, 3), (18, .aload_n 0, 1), (19, .invokevirtual 78, 3), (22, .return_, 1)]
theorem cdX3_dropFix_0_ok : ∀ x ∈ cdX3_dropFix_0, decode prog_5_method_7_code x.1 = .ok x.2 := by decide +kernel
def cdX3_dropFix : List (Nat × Instr × Nat) := cdX3_dropFix_0
theorem cdX3_dropFix_ok : ∀ x ∈ cdX3_dropFix, decode prog_5_method_7_code x.1 = .ok x.2 := fun x h => cdX3_dropFix_0_ok x h
def qX3_dropFix : MI := (RX3, yX3_dropFix, prog_5_method_7_code, 1, none, cdX3_dropFix, flX3, [], 4, 89)
theorem qX3_dropFix_ok : MOk qX3_dropFix := ⟨cdX3_dropFix_ok, flX3_ok, fun _ h => absurd h List.not_mem_nil, tw377, tw5, by decide +kernel, rfl, by decide +kernel, by decide +kernel⟩
def yX3_lastFixed : MethodName := ⟨RX3, "lastFixed", "()I"⟩
def cdX3_lastFixed_0 : List (Nat × Instr × Nat) := [(0, .aload_n 0, 1), (1, .getfield 54, 3), (4, .iconst 1, 1), (5, .isub, 1), (6, .istore_n 1, 1), (7, .iload_n 1, 1), (8, .ifCond .lt 19, 3), (11, .aload_n 0, 1), (12, .iload_n 1, 1), (13, .invokevirtual 81, 3), (16, .ifCond .ne 5, 3), (19, .iload_n 1, 1), (20, .ireturn, 1), (21, .iinc 1 (-1), 3), (24, .goto (-17), 3), (27, .bipush (-6), 2), (29, .ireturn, 1)]
theorem cdX3_lastFixed_0_ok : ∀ x ∈ cdX3_lastFixed_0, decode prog_5_method_8_code x.1 = .ok x.2 := by decide +kernel
def cdX3_lastFixed : List (Nat × Instr × Nat) := cdX3_lastFixed_0
theorem cdX3_lastFixed_ok : ∀ x ∈ cdX3_lastFixed, decode prog_5_method_8_code x.1 = .ok x.2 := fun x h => cdX3_lastFixed_0_ok x h
def qX3_lastFixed : MI := (RX3, yX3_lastFixed, prog_5_method_8_code, 2, some .int, cdX3_lastFixed, flX3, [], 2, 42)
theorem qX3_lastFixed_ok : MOk qX3_lastFixed := ⟨cdX3_lastFixed_ok, flX3_ok, fun _ h => absurd h List.not_mem_nil, tw287, tw5, by decide +kernel, rfl, by decide +kernel, by decide +kernel⟩
def yX3_findCandidates : MethodName := ⟨RX3, "findCandidates", "(I)V"⟩
def cdX3_findCandidates_0 : List (Nat × Instr × Nat) := [(0, .iconst 0, 1), (1, .istore_n 2, 1), (2, .iconst 0, 1), (3, .istore_n 3, 1), (4, .iload_n 3, 1), (5, .aload_n 0, 1), (6, .getfield 46, 3), (9, .getfield 84, 3), (12, .if_icmp .ge 90, 3), (15, .aload_n 0, 1), (16, .getfield 46, 3), (19, .iload_n 3, 1), (20, .aload_n 0, 1), (21, .getfield 9, 3), (24, .iload_n 1, 1), (25, .iaload, 1), (26, .aload_n 0, 1), (27, .getfield 15, 3), (30, .iload_n 1, 1), (31, .iaload, 1), (32, .invokevirtual 89, 3), (35, .istore 4, 2), (37, .iload 4, 2), (39, .aload_n 0, 1), (40, .getfield 50, 3), (43, .getfield 93, 3), (46, .iconst 0, 1), (47, .iaload, 1), (48, .if_icmp .gt 48, 3), (51, .aload_n 0, 1), (52, .getfield 27, 3), (55, .iload_n 1, 1), (56, .iload_n 2, 1), (57, .invokestatic 98, 3), (60, .aload_n 0, 1), (61, .getfield 46, 3), (64, .iload_n 3, 1), (65, .aload_n 0, 1), (66, .getfield 9, 3), (69, .iload_n 1, 1), (70, .iaload, 1), (71, .aload_n 0, 1), (72, .getfield 15, 3), (75, .iload_n 1, 1), (76, .iaload, 1), (77, .invokevirtual 102, 3), (80, .iastore, 1), (81, .aload_n 0, 1), (82, .getfield 30, 3), (85, .iload_n 1, 1), (86, .iload_n 2, 1), (87, .invokestatic 98, 3), (90, .iload 4, 2), (92, .iastore, 1), (93, .iinc 2 1, 3), (96, .iinc 3 1, 3), (99, .goto (-95), 3), (102, .aload_n 0, 1), (103, .getfield 18, 3), (106, .iload_n 1, 1)]
theorem cdX3_findCandidates_0_ok : ∀ x ∈ cdX3_findCandidates_0, decode prog_5_method_9_code x.1 = .ok x.2 := by decide +kernel
def cdX3_findCandidates_1 : List (Nat × Instr × Nat) := [(107, .iload_n 2, 1), (108, .iastore, 1), (109, .return_, 1)]
theorem cdX3_findCandidates_1_ok : ∀ x ∈ cdX3_findCandidates_1, decode prog_5_method_9_code x.1 = .ok x.2 := by decide +kernel
def cdX3_findCandidates : List (Nat × Instr × Nat) := cdX3_findCandidates_0 ++ (cdX3_findCandidates_1)
theorem cdX3_findCandidates_ok : ∀ x ∈ cdX3_findCandidates, decode prog_5_method_9_code x.1 = .ok x.2 := fun x h => (List.mem_append.mp h).elim (fun h => cdX3_findCandidates_0_ok x h) (fun h => cdX3_findCandidates_1_ok x h)
def qX3_findCandidates : MI := (RX3, yX3_findCandidates, prog_5_method_9_code, 5, none, cdX3_findCandidates, flX3, [], 4, 90)
theorem qX3_findCandidates_ok : MOk qX3_findCandidates := ⟨cdX3_findCandidates_ok, flX3_ok, fun _ h => absurd h List.not_mem_nil, tw299, tw5, by decide +kernel, rfl, by decide +kernel, by decide +kernel⟩
def yX3_beginPiece : MethodName := ⟨RX3, "beginPiece", "(II)V"⟩
def cdX3_beginPiece_0 : List (Nat × Instr × Nat) := [(0, .aload_n 0, 1), (1, .getfield 21, 3), (4, .iload_n 1, 1), (5, .iload_n 2, 1), (6, .iastore, 1), (7, .iconst 0, 1), (8, .istore_n 3, 1), (9, .iload_n 3, 1), (10, .aload_n 0, 1), (11, .getfield 18, 3), (14, .iload_n 1, 1), (15, .iaload, 1), (16, .if_icmp .ge 51, 3), (19, .aload_n 0, 1), (20, .getfield 33, 3), (23, .iload_n 1, 1), (24, .iload_n 3, 1), (25, .invokestatic 98, 3), (28, .aload_n 0, 1), (29, .getfield 50, 3), (32, .getfield 93, 3), (35, .iconst 1, 1), (36, .iaload, 1), (37, .aload_n 0, 1), (38, .getfield 30, 3), (41, .iload_n 1, 1), (42, .iload_n 3, 1), (43, .invokestatic 98, 3), (46, .iaload, 1), (47, .imul, 1), (48, .iastore, 1), (49, .aload_n 0, 1), (50, .getfield 36, 3), (53, .iload_n 1, 1), (54, .iload_n 3, 1), (55, .invokestatic 98, 3), (58, .bipush (-6), 2), (60, .iastore, 1), (61, .iinc 3 1, 3), (64, .goto (-55), 3), (67, .return_, 1)]
theorem cdX3_beginPiece_0_ok : ∀ x ∈ cdX3_beginPiece_0, decode prog_5_method_10_code x.1 = .ok x.2 := by decide +kernel
def cdX3_beginPiece : List (Nat × Instr × Nat) := cdX3_beginPiece_0
theorem cdX3_beginPiece_ok : ∀ x ∈ cdX3_beginPiece, decode prog_5_method_10_code x.1 = .ok x.2 := fun x h => cdX3_beginPiece_0_ok x h
def qX3_beginPiece : MI := (RX3, yX3_beginPiece, prog_5_method_10_code, 4, none, cdX3_beginPiece, flX3, [], 1, 21)
theorem qX3_beginPiece_ok : MOk qX3_beginPiece := ⟨cdX3_beginPiece_ok, flX3_ok, fun _ h => absurd h List.not_mem_nil, tw329, tw5, by decide +kernel, rfl, by decide +kernel, by decide +kernel⟩
def yX3_goesOn : MethodName := ⟨RX3, "goesOn", "(II)Z"⟩
def cdX3_goesOn_0 : List (Nat × Instr × Nat) := [(0, .iconst 0, 1), (1, .istore_n 3, 1), (2, .iconst 0, 1), (3, .istore 4, 2), (5, .iload 4, 2), (7, .aload_n 0, 1), (8, .getfield 18, 3), (11, .iload_n 1, 1), (12, .iaload, 1), (13, .if_icmp .ge 43, 3), (16, .aload_n 0, 1), (17, .iload_n 1, 1), (18, .iload 4, 2), (20, .iload_n 2, 1), (21, .invokevirtual 105, 3), (24, .iload_n 3, 1), (25, .ifCond .ne 19, 3), (28, .aload_n 0, 1), (29, .getfield 33, 3), (32, .iload_n 1, 1), (33, .iload 4, 2), (35, .invokestatic 98, 3), (38, .iaload, 1), (39, .bipush (-6), 2), (41, .if_icmp .eq 7, 3), (44, .iconst 1, 1), (45, .goto 4, 3), (48, .iconst 0, 1), (49, .istore_n 3, 1), (50, .iinc 4 1, 3), (53, .goto (-48), 3), (56, .iload_n 3, 1), (57, .ireturn, 1)]
theorem cdX3_goesOn_0_ok : ∀ x ∈ cdX3_goesOn_0, decode prog_5_method_11_code x.1 = .ok x.2 := by decide +kernel
def cdX3_goesOn : List (Nat × Instr × Nat) := cdX3_goesOn_0
theorem cdX3_goesOn_ok : ∀ x ∈ cdX3_goesOn, decode prog_5_method_11_code x.1 = .ok x.2 := fun x h => cdX3_goesOn_0_ok x h
def qX3_goesOn : MI := (RX3, yX3_goesOn, prog_5_method_11_code, 5, some .boolean, cdX3_goesOn, flX3, [], 5, 124)
theorem qX3_goesOn_ok : MOk qX3_goesOn := ⟨cdX3_goesOn_ok, flX3_ok, fun _ h => absurd h List.not_mem_nil, tw333, tw5, by decide +kernel, rfl, by decide +kernel, by decide +kernel⟩
def yX3_joinCandidate : MethodName := ⟨RX3, "joinCandidate", "(III)V"⟩
def cdX3_joinCandidate_0 : List (Nat × Instr × Nat) := [(0, .aload_n 0, 1), (1, .getfield 9, 3), (4, .iload_n 1, 1), (5, .iaload, 1), (6, .aload_n 0, 1), (7, .getfield 9, 3), (10, .iload_n 3, 1), (11, .iaload, 1), (12, .isub, 1), (13, .invokestatic 109, 3), (16, .aload_n 0, 1), (17, .getfield 15, 3), (20, .iload_n 1, 1), (21, .iaload, 1), (22, .aload_n 0, 1), (23, .getfield 15, 3), (26, .iload_n 3, 1), (27, .iaload, 1), (28, .isub, 1), (29, .invokestatic 109, 3), (32, .iadd, 1), (33, .istore 4, 2), (35, .bipush (-6), 2), (37, .istore 5, 2), (39, .bipush (-6), 2), (41, .istore 6, 2), (43, .iconst 0, 1), (44, .istore 7, 2), (46, .iload 7, 2), (48, .aload_n 0, 1), (49, .getfield 18, 3), (52, .iload_n 3, 1), (53, .iaload, 1), (54, .if_icmp .ge 136, 3), (57, .aload_n 0, 1), (58, .getfield 33, 3), (61, .iload_n 3, 1), (62, .iload 7, 2), (64, .invokestatic 98, 3), (67, .iaload, 1), (68, .istore 8, 2), (70, .iload 8, 2), (72, .bipush (-6), 2), (74, .if_icmp .ne 8, 3), (77, .bipush (-6), 2), (79, .goto 31, 3), (82, .aload_n 0, 1), (83, .getfield 46, 3), (86, .aload_n 0, 1), (87, .getfield 27, 3), (90, .iload_n 3, 1), (91, .iload 7, 2), (93, .invokestatic 98, 3), (96, .iaload, 1), (97, .aload_n 0, 1), (98, .getfield 27, 3), (101, .iload_n 1, 1), (102, .iload_n 2, 1), (103, .invokestatic 98, 3), (106, .iaload, 1)]
theorem cdX3_joinCandidate_0_ok : ∀ x ∈ cdX3_joinCandidate_0, decode prog_5_method_12_code x.1 = .ok x.2 := by decide +kernel
def cdX3_joinCandidate_1 : List (Nat × Instr × Nat) := [(107, .invokevirtual 115, 3), (110, .istore 9, 2), (112, .iload 9, 2), (114, .bipush (-6), 2), (116, .if_icmp .eq 68, 3), (119, .iload 9, 2), (121, .iload 4, 2), (123, .aload_n 0, 1), (124, .getfield 50, 3), (127, .getfield 93, 3), (130, .iconst 3, 1), (131, .iaload, 1), (132, .iadd, 1), (133, .if_icmp .le 6, 3), (136, .goto 48, 3), (139, .iload 8, 2), (141, .aload_n 0, 1), (142, .getfield 50, 3), (145, .getfield 93, 3), (148, .iconst 2, 1), (149, .iaload, 1), (150, .iload 9, 2), (152, .iload 4, 2), (154, .isub, 1), (155, .invokestatic 109, 3), (158, .imul, 1), (159, .iadd, 1), (160, .istore 10, 2), (162, .iload 5, 2), (164, .bipush (-6), 2), (166, .if_icmp .eq 10, 3), (169, .iload 10, 2), (171, .iload 5, 2), (173, .if_icmp .ge 11, 3), (176, .iload 10, 2), (178, .istore 5, 2), (180, .iload 7, 2), (182, .istore 6, 2), (184, .iinc 7 1, 3), (187, .goto (-141), 3), (190, .aload_n 0, 1), (191, .getfield 50, 3), (194, .getfield 93, 3), (197, .iconst 1, 1), (198, .iaload, 1), (199, .aload_n 0, 1), (200, .getfield 30, 3), (203, .iload_n 1, 1), (204, .iload_n 2, 1), (205, .invokestatic 98, 3), (208, .iaload, 1), (209, .imul, 1), (210, .istore 7, 2), (212, .aload_n 0, 1), (213, .getfield 33, 3), (216, .iload_n 1, 1), (217, .iload_n 2, 1), (218, .invokestatic 98, 3), (221, .iload 5, 2), (223, .bipush (-6), 2)]
theorem cdX3_joinCandidate_1_ok : ∀ x ∈ cdX3_joinCandidate_1, decode prog_5_method_12_code x.1 = .ok x.2 := by decide +kernel
def cdX3_joinCandidate_2 : List (Nat × Instr × Nat) := [(225, .if_icmp .ne 8, 3), (228, .bipush (-6), 2), (230, .goto 8, 3), (233, .iload 5, 2), (235, .iload 7, 2), (237, .iadd, 1), (238, .iastore, 1), (239, .aload_n 0, 1), (240, .getfield 36, 3), (243, .iload_n 1, 1), (244, .iload_n 2, 1), (245, .invokestatic 98, 3), (248, .iload 6, 2), (250, .iastore, 1), (251, .return_, 1)]
theorem cdX3_joinCandidate_2_ok : ∀ x ∈ cdX3_joinCandidate_2, decode prog_5_method_12_code x.1 = .ok x.2 := by decide +kernel
def cdX3_joinCandidate : List (Nat × Instr × Nat) := cdX3_joinCandidate_0 ++ (cdX3_joinCandidate_1 ++ (cdX3_joinCandidate_2))
theorem cdX3_joinCandidate_ok : ∀ x ∈ cdX3_joinCandidate, decode prog_5_method_12_code x.1 = .ok x.2 := fun x h => (List.mem_append.mp h).elim (fun h => cdX3_joinCandidate_0_ok x h) (fun h => (List.mem_append.mp h).elim (fun h => cdX3_joinCandidate_1_ok x h) (fun h => cdX3_joinCandidate_2_ok x h))
def qX3_joinCandidate : MI := (RX3, yX3_joinCandidate, prog_5_method_12_code, 11, none, cdX3_joinCandidate, flX3, [], 4, 94)
theorem qX3_joinCandidate_ok : MOk qX3_joinCandidate := ⟨cdX3_joinCandidate_ok, flX3_ok, fun _ h => absurd h List.not_mem_nil, tw337, tw5, by decide +kernel, rfl, by decide +kernel, by decide +kernel⟩
def yX3_tellCandidate : MethodName := ⟨RX3, "tellCandidate", "(III)I"⟩
def cdX3_tellCandidate_0 : List (Nat × Instr × Nat) := [(0, .aload_n 0, 1), (1, .iload_n 1, 1), (2, .iload_n 2, 1), (3, .invokevirtual 118, 3), (6, .ifCond .ne 6, 3), (9, .bipush (-6), 2), (11, .ireturn, 1), (12, .iload_n 3, 1), (13, .tableswitch 60 0 2 #[27, 38, 49], 27), (40, .aload_n 0, 1), (41, .getfield 27, 3), (44, .iload_n 1, 1), (45, .iload_n 2, 1), (46, .invokestatic 98, 3), (49, .iaload, 1), (50, .ireturn, 1), (51, .aload_n 0, 1), (52, .getfield 30, 3), (55, .iload_n 1, 1), (56, .iload_n 2, 1), (57, .invokestatic 98, 3), (60, .iaload, 1), (61, .ireturn, 1), (62, .aload_n 0, 1), (63, .getfield 33, 3), (66, .iload_n 1, 1), (67, .iload_n 2, 1), (68, .invokestatic 98, 3), (71, .iaload, 1), (72, .ireturn, 1), (73, .aload_n 0, 1), (74, .getfield 36, 3), (77, .iload_n 1, 1), (78, .iload_n 2, 1), (79, .invokestatic 98, 3), (82, .iaload, 1), (83, .ireturn, 1)]
theorem cdX3_tellCandidate_0_ok : ∀ x ∈ cdX3_tellCandidate_0, decode prog_5_method_13_code x.1 = .ok x.2 := by decide +kernel
def cdX3_tellCandidate : List (Nat × Instr × Nat) := cdX3_tellCandidate_0
theorem cdX3_tellCandidate_ok : ∀ x ∈ cdX3_tellCandidate, decode prog_5_method_13_code x.1 = .ok x.2 := fun x h => cdX3_tellCandidate_0_ok x h
def qX3_tellCandidate : MI := (RX3, yX3_tellCandidate, prog_5_method_13_code, 4, some .int, cdX3_tellCandidate, flX3, [], 2, 43)
theorem qX3_tellCandidate_ok : MOk qX3_tellCandidate := ⟨cdX3_tellCandidate_ok, flX3_ok, fun _ h => absurd h List.not_mem_nil, tw386, tw5, by decide +kernel, rfl, by decide +kernel, by decide +kernel⟩
def yX3_settle : MethodName := ⟨RX3, "settle", "()V"⟩
def cdX3_settle_0 : List (Nat × Instr × Nat) := [(0, .bipush (-6), 2), (2, .istore_n 1, 1), (3, .iconst 0, 1), (4, .istore_n 2, 1), (5, .iconst 1, 1), (6, .istore_n 3, 1), (7, .aload_n 0, 1), (8, .getfield 54, 3), (11, .iconst 1, 1), (12, .isub, 1), (13, .istore 4, 2), (15, .iload 4, 2), (17, .ifCond .lt 142, 3), (20, .aload_n 0, 1), (21, .iload 4, 2), (23, .invokevirtual 81, 3), (26, .ifCond .eq 23, 3), (29, .aload_n 0, 1), (30, .getfield 39, 3), (33, .iload 4, 2), (35, .bipush (-6), 2), (37, .iastore, 1), (38, .aload_n 0, 1), (39, .getfield 42, 3), (42, .iload 4, 2), (44, .iconst 0, 1), (45, .bastore, 1), (46, .goto 107, 3), (49, .iload_n 1, 1), (50, .bipush (-6), 2), (52, .if_icmp .eq 42, 3), (55, .aload_n 0, 1), (56, .getfield 24, 3), (59, .iload_n 1, 1), (60, .iaload, 1), (61, .iload 4, 2), (63, .if_icmp .ne 31, 3), (66, .aload_n 0, 1), (67, .getfield 39, 3), (70, .iload 4, 2), (72, .aload_n 0, 1), (73, .iload_n 1, 1), (74, .aload_n 0, 1), (75, .getfield 39, 3), (78, .iload_n 1, 1), (79, .iaload, 1), (80, .invokevirtual 121, 3), (83, .iastore, 1), (84, .aload_n 0, 1), (85, .iload_n 1, 1), (86, .iload_n 2, 1), (87, .invokevirtual 124, 3), (90, .istore_n 2, 1), (91, .goto 35, 3), (94, .aload_n 0, 1), (95, .getfield 39, 3), (98, .iload 4, 2), (100, .aload_n 0, 1), (101, .iload 4, 2), (103, .invokevirtual 127, 3)]
theorem cdX3_settle_0_ok : ∀ x ∈ cdX3_settle_0, decode prog_5_method_14_code x.1 = .ok x.2 := by decide +kernel
def cdX3_settle_1 : List (Nat × Instr × Nat) := [(106, .iastore, 1), (107, .aload_n 0, 1), (108, .iload 4, 2), (110, .invokevirtual 130, 3), (113, .istore_n 2, 1), (114, .iload_n 1, 1), (115, .bipush (-6), 2), (117, .if_icmp .ne 7, 3), (120, .iconst 1, 1), (121, .goto 4, 3), (124, .iconst 0, 1), (125, .istore_n 3, 1), (126, .aload_n 0, 1), (127, .getfield 42, 3), (130, .iload 4, 2), (132, .iload_n 3, 1), (133, .ifCond .eq 11, 3), (136, .iload_n 2, 1), (137, .invokestatic 133, 3), (140, .iconst 1, 1), (141, .if_icmp .ne 7, 3), (144, .iconst 1, 1), (145, .goto 4, 3), (148, .iconst 0, 1), (149, .bastore, 1), (150, .iload 4, 2), (152, .istore_n 1, 1), (153, .iinc 4 (-1), 3), (156, .goto (-141), 3), (159, .return_, 1)]
theorem cdX3_settle_1_ok : ∀ x ∈ cdX3_settle_1, decode prog_5_method_14_code x.1 = .ok x.2 := by decide +kernel
def cdX3_settle : List (Nat × Instr × Nat) := cdX3_settle_0 ++ (cdX3_settle_1)
theorem cdX3_settle_ok : ∀ x ∈ cdX3_settle, decode prog_5_method_14_code x.1 = .ok x.2 := fun x h => (List.mem_append.mp h).elim (fun h => cdX3_settle_0_ok x h) (fun h => cdX3_settle_1_ok x h)
def qX3_settle : MI := (RX3, yX3_settle, prog_5_method_14_code, 5, none, cdX3_settle, flX3, [], 3, 65)
theorem qX3_settle_ok : MOk qX3_settle := ⟨cdX3_settle_ok, flX3_ok, fun _ h => absurd h List.not_mem_nil, tw343, tw5, by decide +kernel, rfl, by decide +kernel, by decide +kernel⟩
def yX3_cheapest : MethodName := ⟨RX3, "cheapest", "(I)I"⟩
def cdX3_cheapest_0 : List (Nat × Instr × Nat) := [(0, .bipush (-6), 2), (2, .istore_n 2, 1), (3, .bipush (-6), 2), (5, .istore_n 3, 1), (6, .iconst 0, 1), (7, .istore 4, 2), (9, .iload 4, 2), (11, .aload_n 0, 1), (12, .getfield 18, 3), (15, .iload_n 1, 1), (16, .iaload, 1), (17, .if_icmp .ge 47, 3), (20, .aload_n 0, 1), (21, .getfield 33, 3), (24, .iload_n 1, 1), (25, .iload 4, 2), (27, .invokestatic 98, 3), (30, .iaload, 1), (31, .istore 5, 2), (33, .iload 5, 2), (35, .bipush (-6), 2), (37, .if_icmp .eq 21, 3), (40, .iload_n 3, 1), (41, .bipush (-6), 2), (43, .if_icmp .eq 9, 3), (46, .iload 5, 2), (48, .iload_n 3, 1), (49, .if_icmp .ge 9, 3), (52, .iload 4, 2), (54, .istore_n 2, 1), (55, .iload 5, 2), (57, .istore_n 3, 1), (58, .iinc 4 1, 3), (61, .goto (-52), 3), (64, .iload_n 2, 1), (65, .ireturn, 1)]
theorem cdX3_cheapest_0_ok : ∀ x ∈ cdX3_cheapest_0, decode prog_5_method_15_code x.1 = .ok x.2 := by decide +kernel
def cdX3_cheapest : List (Nat × Instr × Nat) := cdX3_cheapest_0
theorem cdX3_cheapest_ok : ∀ x ∈ cdX3_cheapest, decode prog_5_method_15_code x.1 = .ok x.2 := fun x h => cdX3_cheapest_0_ok x h
def qX3_cheapest : MI := (RX3, yX3_cheapest, prog_5_method_15_code, 6, some .int, cdX3_cheapest, flX3, [], 1, 21)
theorem qX3_cheapest_ok : MOk qX3_cheapest := ⟨cdX3_cheapest_ok, flX3_ok, fun _ h => absurd h List.not_mem_nil, tw359, tw5, by decide +kernel, rfl, by decide +kernel, by decide +kernel⟩
def yX3_backOf : MethodName := ⟨RX3, "backOf", "(II)I"⟩
def cdX3_backOf_0 : List (Nat × Instr × Nat) := [(0, .aload_n 0, 1), (1, .iload_n 1, 1), (2, .iload_n 2, 1), (3, .invokevirtual 118, 3), (6, .ifCond .eq 16, 3), (9, .aload_n 0, 1), (10, .getfield 36, 3), (13, .iload_n 1, 1), (14, .iload_n 2, 1), (15, .invokestatic 98, 3), (18, .iaload, 1), (19, .goto 5, 3), (22, .bipush (-6), 2), (24, .ireturn, 1)]
theorem cdX3_backOf_0_ok : ∀ x ∈ cdX3_backOf_0, decode prog_5_method_16_code x.1 = .ok x.2 := by decide +kernel
def cdX3_backOf : List (Nat × Instr × Nat) := cdX3_backOf_0
theorem cdX3_backOf_ok : ∀ x ∈ cdX3_backOf, decode prog_5_method_16_code x.1 = .ok x.2 := fun x h => cdX3_backOf_0_ok x h
def qX3_backOf : MI := (RX3, yX3_backOf, prog_5_method_16_code, 3, some .int, cdX3_backOf, flX3, [], 2, 43)
theorem qX3_backOf_ok : MOk qX3_backOf := ⟨cdX3_backOf_ok, flX3_ok, fun _ h => absurd h List.not_mem_nil, tw347, tw5, by decide +kernel, rfl, by decide +kernel, by decide +kernel⟩
def yX3_alive : MethodName := ⟨RX3, "alive", "(I)I"⟩
def cdX3_alive_0 : List (Nat × Instr × Nat) := [(0, .iconst 0, 1), (1, .istore_n 2, 1), (2, .iconst 0, 1), (3, .istore_n 3, 1), (4, .iload_n 3, 1), (5, .aload_n 0, 1), (6, .getfield 18, 3), (9, .iload_n 1, 1), (10, .iaload, 1), (11, .if_icmp .ge 30, 3), (14, .aload_n 0, 1), (15, .getfield 33, 3), (18, .iload_n 1, 1), (19, .iload_n 3, 1), (20, .invokestatic 98, 3), (23, .iaload, 1), (24, .bipush (-6), 2), (26, .if_icmp .eq 9, 3), (29, .iload_n 2, 1), (30, .iconst 1, 1), (31, .iload_n 3, 1), (32, .ishl, 1), (33, .ior, 1), (34, .istore_n 2, 1), (35, .iinc 3 1, 3), (38, .goto (-34), 3), (41, .iload_n 2, 1), (42, .ireturn, 1)]
theorem cdX3_alive_0_ok : ∀ x ∈ cdX3_alive_0, decode prog_5_method_17_code x.1 = .ok x.2 := by decide +kernel
def cdX3_alive : List (Nat × Instr × Nat) := cdX3_alive_0
theorem cdX3_alive_ok : ∀ x ∈ cdX3_alive, decode prog_5_method_17_code x.1 = .ok x.2 := fun x h => cdX3_alive_0_ok x h
def qX3_alive : MI := (RX3, yX3_alive, prog_5_method_17_code, 4, some .int, cdX3_alive, flX3, [], 1, 21)
theorem qX3_alive_ok : MOk qX3_alive := ⟨cdX3_alive_ok, flX3_ok, fun _ h => absurd h List.not_mem_nil, tw363, tw5, by decide +kernel, rfl, by decide +kernel, by decide +kernel⟩
def yX3_backsOf : MethodName := ⟨RX3, "backsOf", "(II)I"⟩
def cdX3_backsOf_0 : List (Nat × Instr × Nat) := [(0, .iconst 0, 1), (1, .istore_n 3, 1), (2, .iconst 0, 1), (3, .istore 4, 2), (5, .iload 4, 2), (7, .aload_n 0, 1), (8, .getfield 18, 3), (11, .iload_n 1, 1), (12, .iaload, 1), (13, .if_icmp .ge 49, 3), (16, .iload_n 2, 1), (17, .iload 4, 2), (19, .ishr, 1), (20, .iconst 1, 1), (21, .iand, 1), (22, .iconst 1, 1), (23, .if_icmp .ne 33, 3), (26, .aload_n 0, 1), (27, .getfield 36, 3), (30, .iload_n 1, 1), (31, .iload 4, 2), (33, .invokestatic 98, 3), (36, .iaload, 1), (37, .ifCond .lt 19, 3), (40, .iload_n 3, 1), (41, .iconst 1, 1), (42, .aload_n 0, 1), (43, .getfield 36, 3), (46, .iload_n 1, 1), (47, .iload 4, 2), (49, .invokestatic 98, 3), (52, .iaload, 1), (53, .ishl, 1), (54, .ior, 1), (55, .istore_n 3, 1), (56, .iinc 4 1, 3), (59, .goto (-54), 3), (62, .iload_n 3, 1), (63, .ireturn, 1)]
theorem cdX3_backsOf_0_ok : ∀ x ∈ cdX3_backsOf_0, decode prog_5_method_18_code x.1 = .ok x.2 := by decide +kernel
def cdX3_backsOf : List (Nat × Instr × Nat) := cdX3_backsOf_0
theorem cdX3_backsOf_ok : ∀ x ∈ cdX3_backsOf, decode prog_5_method_18_code x.1 = .ok x.2 := fun x h => cdX3_backsOf_0_ok x h
def qX3_backsOf : MI := (RX3, yX3_backsOf, prog_5_method_18_code, 5, some .int, cdX3_backsOf, flX3, [], 1, 21)
theorem qX3_backsOf_ok : MOk qX3_backsOf := ⟨cdX3_backsOf_ok, flX3_ok, fun _ h => absurd h List.not_mem_nil, tw355, tw5, by decide +kernel, rfl, by decide +kernel, by decide +kernel⟩
def yX3_chosenSpot : MethodName := ⟨RX3, "chosenSpot", "(I)I"⟩
def cdX3_chosenSpot_0 : List (Nat × Instr × Nat) := [(0, .aload_n 0, 1), (1, .iload_n 1, 1), (2, .invokevirtual 58, 3), (5, .ifCond .ne 6, 3), (8, .bipush (-6), 2), (10, .ireturn, 1), (11, .aload_n 0, 1), (12, .getfield 39, 3), (15, .iload_n 1, 1), (16, .iaload, 1), (17, .istore_n 2, 1), (18, .aload_n 0, 1), (19, .iload_n 1, 1), (20, .iload_n 2, 1), (21, .invokevirtual 118, 3), (24, .ifCond .eq 16, 3), (27, .aload_n 0, 1), (28, .getfield 27, 3), (31, .iload_n 1, 1), (32, .iload_n 2, 1), (33, .invokestatic 98, 3), (36, .iaload, 1), (37, .goto 5, 3), (40, .bipush (-6), 2), (42, .ireturn, 1)]
theorem cdX3_chosenSpot_0_ok : ∀ x ∈ cdX3_chosenSpot_0, decode prog_5_method_19_code x.1 = .ok x.2 := by decide +kernel
def cdX3_chosenSpot : List (Nat × Instr × Nat) := cdX3_chosenSpot_0
theorem cdX3_chosenSpot_ok : ∀ x ∈ cdX3_chosenSpot, decode prog_5_method_19_code x.1 = .ok x.2 := fun x h => cdX3_chosenSpot_0_ok x h
def qX3_chosenSpot : MI := (RX3, yX3_chosenSpot, prog_5_method_19_code, 3, some .int, cdX3_chosenSpot, flX3, [], 2, 43)
theorem qX3_chosenSpot_ok : MOk qX3_chosenSpot := ⟨cdX3_chosenSpot_ok, flX3_ok, fun _ h => absurd h List.not_mem_nil, tw394, tw5, by decide +kernel, rfl, by decide +kernel, by decide +kernel⟩
def yX3_stepLength : MethodName := ⟨RX3, "stepLength", "(I)I"⟩
def cdX3_stepLength_0 : List (Nat × Instr × Nat) := [(0, .aload_n 0, 1), (1, .iload_n 1, 1), (2, .invokevirtual 138, 3), (5, .istore_n 2, 1), (6, .iload_n 2, 1), (7, .bipush (-6), 2), (9, .if_icmp .ne 8, 3), (12, .bipush (-6), 2), (14, .goto 16, 3), (17, .aload_n 0, 1), (18, .getfield 46, 3), (21, .iload_n 2, 1), (22, .aload_n 0, 1), (23, .iload_n 1, 1), (24, .invokevirtual 141, 3), (27, .invokevirtual 115, 3), (30, .ireturn, 1)]
theorem cdX3_stepLength_0_ok : ∀ x ∈ cdX3_stepLength_0, decode prog_5_method_20_code x.1 = .ok x.2 := by decide +kernel
def cdX3_stepLength : List (Nat × Instr × Nat) := cdX3_stepLength_0
theorem cdX3_stepLength_ok : ∀ x ∈ cdX3_stepLength, decode prog_5_method_20_code x.1 = .ok x.2 := fun x h => cdX3_stepLength_0_ok x h
def qX3_stepLength : MI := (RX3, yX3_stepLength, prog_5_method_20_code, 3, some .int, cdX3_stepLength, flX3, [], 4, 94)
theorem qX3_stepLength_ok : MOk qX3_stepLength := ⟨cdX3_stepLength_ok, flX3_ok, fun _ h => absurd h List.not_mem_nil, tw410, tw5, by decide +kernel, rfl, by decide +kernel, by decide +kernel⟩
def yX3_stepCrossing : MethodName := ⟨RX3, "stepCrossing", "(II)I"⟩
def cdX3_stepCrossing_0 : List (Nat × Instr × Nat) := [(0, .aload_n 0, 1), (1, .iload_n 1, 1), (2, .invokevirtual 138, 3), (5, .istore_n 3, 1), (6, .iload_n 3, 1), (7, .bipush (-6), 2), (9, .if_icmp .ne 8, 3), (12, .bipush (-6), 2), (14, .goto 17, 3), (17, .aload_n 0, 1), (18, .getfield 46, 3), (21, .iload_n 3, 1), (22, .aload_n 0, 1), (23, .iload_n 1, 1), (24, .invokevirtual 141, 3), (27, .iload_n 2, 1), (28, .invokevirtual 144, 3), (31, .ireturn, 1)]
theorem cdX3_stepCrossing_0_ok : ∀ x ∈ cdX3_stepCrossing_0, decode prog_5_method_21_code x.1 = .ok x.2 := by decide +kernel
def cdX3_stepCrossing : List (Nat × Instr × Nat) := cdX3_stepCrossing_0
theorem cdX3_stepCrossing_ok : ∀ x ∈ cdX3_stepCrossing, decode prog_5_method_21_code x.1 = .ok x.2 := fun x h => cdX3_stepCrossing_0_ok x h
def qX3_stepCrossing : MI := (RX3, yX3_stepCrossing, prog_5_method_21_code, 4, some .int, cdX3_stepCrossing, flX3, [], 6, 145)
theorem qX3_stepCrossing_ok : MOk qX3_stepCrossing := ⟨cdX3_stepCrossing_ok, flX3_ok, fun _ h => absurd h List.not_mem_nil, tw423, tw5, by decide +kernel, rfl, by decide +kernel, by decide +kernel⟩
def yX3_stepStart : MethodName := ⟨RX3, "stepStart", "(I)I"⟩
def cdX3_stepStart_0 : List (Nat × Instr × Nat) := [(0, .aload_n 0, 1), (1, .iload_n 1, 1), (2, .invokevirtual 81, 3), (5, .ifCond .ne 14, 3), (8, .aload_n 0, 1), (9, .getfield 24, 3), (12, .iload_n 1, 1), (13, .iaload, 1), (14, .bipush (-6), 2), (16, .if_icmp .ne 8, 3), (19, .bipush (-6), 2), (21, .goto 13, 3), (24, .aload_n 0, 1), (25, .aload_n 0, 1), (26, .getfield 24, 3), (29, .iload_n 1, 1), (30, .iaload, 1), (31, .invokevirtual 141, 3), (34, .ireturn, 1)]
theorem cdX3_stepStart_0_ok : ∀ x ∈ cdX3_stepStart_0, decode prog_5_method_22_code x.1 = .ok x.2 := by decide +kernel
def cdX3_stepStart : List (Nat × Instr × Nat) := cdX3_stepStart_0
theorem cdX3_stepStart_ok : ∀ x ∈ cdX3_stepStart, decode prog_5_method_22_code x.1 = .ok x.2 := fun x h => cdX3_stepStart_0_ok x h
def qX3_stepStart : MI := (RX3, yX3_stepStart, prog_5_method_22_code, 2, some .int, cdX3_stepStart, flX3, [], 3, 65)
theorem qX3_stepStart_ok : MOk qX3_stepStart := ⟨cdX3_stepStart_ok, flX3_ok, fun _ h => absurd h List.not_mem_nil, tw414, tw5, by decide +kernel, rfl, by decide +kernel, by decide +kernel⟩
def yX3_sumOfCosts : MethodName := ⟨RX3, "sumOfCosts", "()I"⟩
def cdX3_sumOfCosts_0 : List (Nat × Instr × Nat) := [(0, .iconst 0, 1), (1, .istore_n 1, 1), (2, .iconst 0, 1), (3, .istore_n 2, 1), (4, .iload_n 2, 1), (5, .aload_n 0, 1), (6, .getfield 54, 3), (9, .if_icmp .ge 46, 3), (12, .aload_n 0, 1), (13, .getfield 39, 3), (16, .iload_n 2, 1), (17, .iaload, 1), (18, .istore_n 3, 1), (19, .aload_n 0, 1), (20, .iload_n 2, 1), (21, .invokevirtual 147, 3), (24, .ifCond .eq 25, 3), (27, .aload_n 0, 1), (28, .iload_n 2, 1), (29, .iload_n 3, 1), (30, .invokevirtual 118, 3), (33, .ifCond .eq 16, 3), (36, .iload_n 1, 1), (37, .aload_n 0, 1), (38, .getfield 33, 3), (41, .iload_n 2, 1), (42, .iload_n 3, 1), (43, .invokestatic 98, 3), (46, .iaload, 1), (47, .iadd, 1), (48, .istore_n 1, 1), (49, .iinc 2 1, 3), (52, .goto (-48), 3), (55, .iload_n 1, 1), (56, .ireturn, 1)]
theorem cdX3_sumOfCosts_0_ok : ∀ x ∈ cdX3_sumOfCosts_0, decode prog_5_method_23_code x.1 = .ok x.2 := by decide +kernel
def cdX3_sumOfCosts : List (Nat × Instr × Nat) := cdX3_sumOfCosts_0
theorem cdX3_sumOfCosts_ok : ∀ x ∈ cdX3_sumOfCosts, decode prog_5_method_23_code x.1 = .ok x.2 := fun x h => cdX3_sumOfCosts_0_ok x h
def qX3_sumOfCosts : MI := (RX3, yX3_sumOfCosts, prog_5_method_23_code, 4, some .int, cdX3_sumOfCosts, flX3, [], 3, 64)
theorem qX3_sumOfCosts_ok : MOk qX3_sumOfCosts := ⟨cdX3_sumOfCosts_ok, flX3_ok, fun _ h => absurd h List.not_mem_nil, tw449, tw5, by decide +kernel, rfl, by decide +kernel, by decide +kernel⟩
def yX3_endsPiece : MethodName := ⟨RX3, "endsPiece", "(I)Z"⟩
def cdX3_endsPiece_0 : List (Nat × Instr × Nat) := [(0, .iload_n 1, 1), (1, .iconst 1, 1), (2, .iadd, 1), (3, .istore_n 2, 1), (4, .iload_n 2, 1), (5, .aload_n 0, 1), (6, .getfield 54, 3), (9, .if_icmp .ge 21, 3), (12, .aload_n 0, 1), (13, .getfield 24, 3), (16, .iload_n 2, 1), (17, .iaload, 1), (18, .iload_n 1, 1), (19, .if_icmp .ne 5, 3), (22, .iconst 0, 1), (23, .ireturn, 1), (24, .iinc 2 1, 3), (27, .goto (-23), 3), (30, .aload_n 0, 1), (31, .iload_n 1, 1), (32, .invokevirtual 81, 3), (35, .ifCond .ne 7, 3), (38, .iconst 1, 1), (39, .goto 4, 3), (42, .iconst 0, 1), (43, .ireturn, 1)]
theorem cdX3_endsPiece_0_ok : ∀ x ∈ cdX3_endsPiece_0, decode prog_5_method_24_code x.1 = .ok x.2 := by decide +kernel
def cdX3_endsPiece : List (Nat × Instr × Nat) := cdX3_endsPiece_0
theorem cdX3_endsPiece_ok : ∀ x ∈ cdX3_endsPiece, decode prog_5_method_24_code x.1 = .ok x.2 := fun x h => cdX3_endsPiece_0_ok x h
def qX3_endsPiece : MI := (RX3, yX3_endsPiece, prog_5_method_24_code, 3, some .boolean, cdX3_endsPiece, flX3, [], 2, 42)
theorem qX3_endsPiece_ok : MOk qX3_endsPiece := ⟨cdX3_endsPiece_ok, flX3_ok, fun _ h => absurd h List.not_mem_nil, tw453, tw5, by decide +kernel, rfl, by decide +kernel, by decide +kernel⟩
def yX3_countPieces : MethodName := ⟨RX3, "countPieces", "()I"⟩
def cdX3_countPieces_0 : List (Nat × Instr × Nat) := [(0, .aload_n 0, 1), (1, .invokevirtual 62, 3), (4, .istore_n 1, 1), (5, .iload_n 1, 1), (6, .bipush (-6), 2), (8, .if_icmp .ne 7, 3), (11, .iconst 0, 1), (12, .goto 11, 3), (15, .aload_n 0, 1), (16, .getfield 21, 3), (19, .iload_n 1, 1), (20, .iaload, 1), (21, .iconst 1, 1), (22, .iadd, 1), (23, .ireturn, 1)]
theorem cdX3_countPieces_0_ok : ∀ x ∈ cdX3_countPieces_0, decode prog_5_method_25_code x.1 = .ok x.2 := by decide +kernel
def cdX3_countPieces : List (Nat × Instr × Nat) := cdX3_countPieces_0
theorem cdX3_countPieces_ok : ∀ x ∈ cdX3_countPieces, decode prog_5_method_25_code x.1 = .ok x.2 := fun x h => cdX3_countPieces_0_ok x h
def qX3_countPieces : MI := (RX3, yX3_countPieces, prog_5_method_25_code, 2, some .int, cdX3_countPieces, flX3, [], 3, 63)
theorem qX3_countPieces_ok : MOk qX3_countPieces := ⟨cdX3_countPieces_ok, flX3_ok, fun _ h => absurd h List.not_mem_nil, tw457, tw5, by decide +kernel, rfl, by decide +kernel, by decide +kernel⟩
def yX3_countGaps : MethodName := ⟨RX3, "countGaps", "()I"⟩
def cdX3_countGaps_0 : List (Nat × Instr × Nat) := [(0, .iconst 0, 1), (1, .istore_n 1, 1), (2, .iconst 0, 1), (3, .istore_n 2, 1), (4, .iload_n 2, 1), (5, .aload_n 0, 1), (6, .getfield 54, 3), (9, .if_icmp .ge 20, 3), (12, .aload_n 0, 1), (13, .iload_n 2, 1), (14, .invokevirtual 81, 3), (17, .ifCond .eq 6, 3), (20, .iinc 1 1, 3), (23, .iinc 2 1, 3), (26, .goto (-22), 3), (29, .iload_n 1, 1), (30, .ireturn, 1)]
theorem cdX3_countGaps_0_ok : ∀ x ∈ cdX3_countGaps_0, decode prog_5_method_26_code x.1 = .ok x.2 := by decide +kernel
def cdX3_countGaps : List (Nat × Instr × Nat) := cdX3_countGaps_0
theorem cdX3_countGaps_ok : ∀ x ∈ cdX3_countGaps, decode prog_5_method_26_code x.1 = .ok x.2 := fun x h => cdX3_countGaps_0_ok x h
def qX3_countGaps : MI := (RX3, yX3_countGaps, prog_5_method_26_code, 3, some .int, cdX3_countGaps, flX3, [], 2, 42)
theorem qX3_countGaps_ok : MOk qX3_countGaps := ⟨cdX3_countGaps_ok, flX3_ok, fun _ h => absurd h List.not_mem_nil, tw461, tw5, by decide +kernel, rfl, by decide +kernel, by decide +kernel⟩
def yX3_countDecided : MethodName := ⟨RX3, "countDecided", "()I"⟩
def cdX3_countDecided_0 : List (Nat × Instr × Nat) := [(0, .iconst 0, 1), (1, .istore_n 1, 1), (2, .iconst 0, 1), (3, .istore_n 2, 1), (4, .iload_n 2, 1), (5, .aload_n 0, 1), (6, .getfield 54, 3), (9, .if_icmp .ge 21, 3), (12, .aload_n 0, 1), (13, .getfield 42, 3), (16, .iload_n 2, 1), (17, .baload, 1), (18, .ifCond .eq 6, 3), (21, .iinc 1 1, 3), (24, .iinc 2 1, 3), (27, .goto (-23), 3), (30, .iload_n 1, 1), (31, .ireturn, 1)]
theorem cdX3_countDecided_0_ok : ∀ x ∈ cdX3_countDecided_0, decode prog_5_method_27_code x.1 = .ok x.2 := by decide +kernel
def cdX3_countDecided : List (Nat × Instr × Nat) := cdX3_countDecided_0
theorem cdX3_countDecided_ok : ∀ x ∈ cdX3_countDecided, decode prog_5_method_27_code x.1 = .ok x.2 := fun x h => cdX3_countDecided_0_ok x h
def qX3_countDecided : MI := (RX3, yX3_countDecided, prog_5_method_27_code, 3, some .int, cdX3_countDecided, flX3, [], 0, 0)
theorem qX3_countDecided_ok : MOk qX3_countDecided := ⟨cdX3_countDecided_ok, flX3_ok, fun _ h => absurd h List.not_mem_nil, tw465, tw5, by decide +kernel, rfl, by decide +kernel, by decide +kernel⟩
def yX3_sumOfSteps : MethodName := ⟨RX3, "sumOfSteps", "()I"⟩
def cdX3_sumOfSteps_0 : List (Nat × Instr × Nat) := [(0, .iconst 0, 1), (1, .istore_n 1, 1), (2, .iconst 0, 1), (3, .istore_n 2, 1), (4, .iload_n 2, 1), (5, .aload_n 0, 1), (6, .getfield 54, 3), (9, .if_icmp .ge 29, 3), (12, .aload_n 0, 1), (13, .iload_n 2, 1), (14, .invokevirtual 150, 3), (17, .istore_n 3, 1), (18, .iload_n 1, 1), (19, .iload_n 3, 1), (20, .bipush (-6), 2), (22, .if_icmp .ne 7, 3), (25, .iconst 0, 1), (26, .goto 4, 3), (29, .iload_n 3, 1), (30, .iadd, 1), (31, .istore_n 1, 1), (32, .iinc 2 1, 3), (35, .goto (-31), 3), (38, .iload_n 1, 1), (39, .ireturn, 1)]
theorem cdX3_sumOfSteps_0_ok : ∀ x ∈ cdX3_sumOfSteps_0, decode prog_5_method_28_code x.1 = .ok x.2 := by decide +kernel
def cdX3_sumOfSteps : List (Nat × Instr × Nat) := cdX3_sumOfSteps_0
theorem cdX3_sumOfSteps_ok : ∀ x ∈ cdX3_sumOfSteps, decode prog_5_method_28_code x.1 = .ok x.2 := fun x h => cdX3_sumOfSteps_0_ok x h
def qX3_sumOfSteps : MI := (RX3, yX3_sumOfSteps, prog_5_method_28_code, 4, some .int, cdX3_sumOfSteps, flX3, [], 5, 116)
theorem qX3_sumOfSteps_ok : MOk qX3_sumOfSteps := ⟨cdX3_sumOfSteps_ok, flX3_ok, fun _ h => absurd h List.not_mem_nil, tw469, tw5, by decide +kernel, rfl, by decide +kernel, by decide +kernel⟩
def yX3_tellFix : MethodName := ⟨RX3, "tellFix", "(I)I"⟩
def cdX3_tellFix_0 : List (Nat × Instr × Nat) := [(0, .aload_n 0, 1), (1, .iload_n 1, 1), (2, .invokevirtual 58, 3), (5, .ifCond .eq 22, 3), (8, .bipush 100, 2), (10, .aload_n 0, 1), (11, .getfield 9, 3), (14, .iload_n 1, 1), (15, .iaload, 1), (16, .imul, 1), (17, .aload_n 0, 1), (18, .getfield 15, 3), (21, .iload_n 1, 1), (22, .iaload, 1), (23, .iadd, 1), (24, .goto 5, 3), (27, .bipush (-2), 2), (29, .ireturn, 1)]
theorem cdX3_tellFix_0_ok : ∀ x ∈ cdX3_tellFix_0, decode prog_5_method_29_code x.1 = .ok x.2 := by decide +kernel
def cdX3_tellFix : List (Nat × Instr × Nat) := cdX3_tellFix_0
theorem cdX3_tellFix_ok : ∀ x ∈ cdX3_tellFix, decode prog_5_method_29_code x.1 = .ok x.2 := fun x h => cdX3_tellFix_0_ok x h
def qX3_tellFix : MI := (RX3, yX3_tellFix, prog_5_method_29_code, 2, some .int, cdX3_tellFix, flX3, [], 1, 21)
theorem qX3_tellFix_ok : MOk qX3_tellFix := ⟨cdX3_tellFix_ok, flX3_ok, fun _ h => absurd h List.not_mem_nil, tw523, tw5, by decide +kernel, rfl, by decide +kernel, by decide +kernel⟩
def yX3_copyFrom : MethodName := ⟨RX3, "copyFrom", "(LRoadTrace$Trace;)V"⟩
def cdX3_copyFrom_0 : List (Nat × Instr × Nat) := [(0, .aload_n 0, 1), (1, .aload_n 1, 1), (2, .getfield 54, 3), (5, .putfield 54, 3), (8, .aload_n 1, 1), (9, .getfield 9, 3), (12, .iconst 0, 1), (13, .aload_n 0, 1), (14, .getfield 9, 3), (17, .iconst 0, 1), (18, .bipush 16, 2), (20, .invokestatic 153, 3), (23, .aload_n 1, 1), (24, .getfield 15, 3), (27, .iconst 0, 1), (28, .aload_n 0, 1), (29, .getfield 15, 3), (32, .iconst 0, 1), (33, .bipush 16, 2), (35, .invokestatic 153, 3), (38, .aload_n 1, 1), (39, .getfield 18, 3), (42, .iconst 0, 1), (43, .aload_n 0, 1), (44, .getfield 18, 3), (47, .iconst 0, 1), (48, .bipush 16, 2), (50, .invokestatic 153, 3), (53, .aload_n 1, 1), (54, .getfield 21, 3), (57, .iconst 0, 1), (58, .aload_n 0, 1), (59, .getfield 21, 3), (62, .iconst 0, 1), (63, .bipush 16, 2), (65, .invokestatic 153, 3), (68, .aload_n 1, 1), (69, .getfield 24, 3), (72, .iconst 0, 1), (73, .aload_n 0, 1), (74, .getfield 24, 3), (77, .iconst 0, 1), (78, .bipush 16, 2), (80, .invokestatic 153, 3), (83, .aload_n 1, 1), (84, .getfield 27, 3), (87, .iconst 0, 1), (88, .aload_n 0, 1), (89, .getfield 27, 3), (92, .iconst 0, 1), (93, .sipush 320, 3), (96, .invokestatic 153, 3), (99, .aload_n 1, 1), (100, .getfield 30, 3), (103, .iconst 0, 1), (104, .aload_n 0, 1), (105, .getfield 30, 3), (108, .iconst 0, 1), (109, .sipush 320, 3), (112, .invokestatic 153, 3)]
theorem cdX3_copyFrom_0_ok : ∀ x ∈ cdX3_copyFrom_0, decode prog_5_method_30_code x.1 = .ok x.2 := by decide +kernel
def cdX3_copyFrom_1 : List (Nat × Instr × Nat) := [(115, .aload_n 1, 1), (116, .getfield 33, 3), (119, .iconst 0, 1), (120, .aload_n 0, 1), (121, .getfield 33, 3), (124, .iconst 0, 1), (125, .sipush 320, 3), (128, .invokestatic 153, 3), (131, .aload_n 1, 1), (132, .getfield 36, 3), (135, .iconst 0, 1), (136, .aload_n 0, 1), (137, .getfield 36, 3), (140, .iconst 0, 1), (141, .sipush 320, 3), (144, .invokestatic 153, 3), (147, .aload_n 0, 1), (148, .invokevirtual 78, 3), (151, .return_, 1)]
theorem cdX3_copyFrom_1_ok : ∀ x ∈ cdX3_copyFrom_1, decode prog_5_method_30_code x.1 = .ok x.2 := by decide +kernel
def cdX3_copyFrom : List (Nat × Instr × Nat) := cdX3_copyFrom_0 ++ (cdX3_copyFrom_1)
theorem cdX3_copyFrom_ok : ∀ x ∈ cdX3_copyFrom, decode prog_5_method_30_code x.1 = .ok x.2 := fun x h => (List.mem_append.mp h).elim (fun h => cdX3_copyFrom_0_ok x h) (fun h => cdX3_copyFrom_1_ok x h)
def qX3_copyFrom : MI := (RX3, yX3_copyFrom, prog_5_method_30_code, 2, none, cdX3_copyFrom, flX3, [], 4, 89)
theorem qX3_copyFrom_ok : MOk qX3_copyFrom := ⟨cdX3_copyFrom_ok, flX3_ok, fun _ h => absurd h List.not_mem_nil, tw494, tw5, by decide +kernel, rfl, by decide +kernel, by decide +kernel⟩
def yX4_crossing : MethodName := ⟨RX4, "crossing", "(II)I"⟩
def cdX4_crossing_0 : List (Nat × Instr × Nat) := [(0, .iload_n 1, 1), (1, .iload_n 2, 1), (2, .invokestatic 20, 3), (5, .ifCond .ne 6, 3), (8, .bipush (-2), 2), (10, .ireturn, 1), (11, .aload_n 0, 1), (12, .getfield 10, 3), (15, .getfield 24, 3), (18, .getfield 28, 3), (21, .ifCond .le 6, 3), (24, .bipush (-3), 2), (26, .ireturn, 1), (27, .aload_n 0, 1), (28, .getfield 10, 3), (31, .getfield 34, 3), (34, .iload_n 1, 1), (35, .iload_n 2, 1), (36, .invokevirtual 38, 3), (39, .ifCond .eq 6, 3), (42, .bipush (-5), 2), (44, .ireturn, 1), (45, .aload_n 0, 1), (46, .getfield 10, 3), (49, .getfield 34, 3), (52, .getfield 43, 3), (55, .bipush 12, 2), (57, .if_icmp .lt 6, 3), (60, .bipush (-4), 2), (62, .ireturn, 1), (63, .aload_n 0, 1), (64, .getfield 10, 3), (67, .getfield 34, 3), (70, .iload_n 1, 1), (71, .iload_n 2, 1), (72, .invokevirtual 46, 3), (75, .aload_n 0, 1), (76, .getfield 10, 3), (79, .getfield 34, 3), (82, .getfield 43, 3), (85, .ireturn, 1)]
theorem cdX4_crossing_0_ok : ∀ x ∈ cdX4_crossing_0, decode prog_1_method_2_code x.1 = .ok x.2 := by decide +kernel
def cdX4_crossing : List (Nat × Instr × Nat) := cdX4_crossing_0
theorem cdX4_crossing_ok : ∀ x ∈ cdX4_crossing, decode prog_1_method_2_code x.1 = .ok x.2 := fun x h => cdX4_crossing_0_ok x h
def qX4_crossing : MI := (RX4, yX4_crossing, prog_1_method_2_code, 3, some .int, cdX4_crossing, flX4, [], 2, 45)
theorem qX4_crossing_ok : MOk qX4_crossing := ⟨cdX4_crossing_ok, flX4_ok, fun _ h => absurd h List.not_mem_nil, tw155, tw1, by decide +kernel, rfl, by decide +kernel, by decide +kernel⟩
def yX4_road : MethodName := ⟨RX4, "road", "(III)I"⟩
def cdX4_road_0 : List (Nat × Instr × Nat) := [(0, .aload_n 0, 1), (1, .getfield 10, 3), (4, .getfield 34, 3), (7, .astore 4, 2), (9, .aload 4, 2), (11, .iload_n 1, 1), (12, .invokevirtual 50, 3), (15, .ifCond .eq 12, 3), (18, .aload 4, 2), (20, .iload_n 2, 1), (21, .invokevirtual 50, 3), (24, .ifCond .ne 5, 3), (27, .iconst (-1), 1), (28, .ireturn, 1), (29, .iload_n 3, 1), (30, .ifCond .eq 11, 3), (33, .iload_n 3, 1), (34, .iconst 1, 1), (35, .if_icmp .eq 6, 3), (38, .bipush (-2), 2), (40, .ireturn, 1), (41, .aload_n 0, 1), (42, .getfield 10, 3), (45, .getfield 24, 3), (48, .getfield 28, 3), (51, .ifCond .le 6, 3), (54, .bipush (-3), 2), (56, .ireturn, 1), (57, .iload_n 1, 1), (58, .iload_n 2, 1), (59, .if_icmp .eq 23, 3), (62, .aload 4, 2), (64, .iload_n 1, 1), (65, .iload_n 2, 1), (66, .invokevirtual 54, 3), (69, .ifCond .eq 13, 3), (72, .aload 4, 2), (74, .iload_n 1, 1), (75, .iload_n 2, 1), (76, .invokevirtual 57, 3), (79, .ifCond .eq 6, 3), (82, .bipush (-5), 2), (84, .ireturn, 1), (85, .aload 4, 2), (87, .getfield 60, 3), (90, .bipush 20, 2), (92, .if_icmp .lt 6, 3), (95, .bipush (-4), 2), (97, .ireturn, 1), (98, .aload 4, 2), (100, .iload_n 1, 1), (101, .iload_n 2, 1), (102, .iload_n 3, 1), (103, .invokevirtual 63, 3), (106, .aload 4, 2), (108, .getfield 60, 3), (111, .ireturn, 1)]
theorem cdX4_road_0_ok : ∀ x ∈ cdX4_road_0, decode prog_1_method_3_code x.1 = .ok x.2 := by decide +kernel
def cdX4_road : List (Nat × Instr × Nat) := cdX4_road_0
theorem cdX4_road_ok : ∀ x ∈ cdX4_road, decode prog_1_method_3_code x.1 = .ok x.2 := fun x h => cdX4_road_0_ok x h
def qX4_road : MI := (RX4, yX4_road, prog_1_method_3_code, 5, some .int, cdX4_road, flX4, [], 3, 73)
theorem qX4_road_ok : MOk qX4_road := ⟨cdX4_road_ok, flX4_ok, fun _ h => absurd h List.not_mem_nil, tw173, tw1, by decide +kernel, rfl, by decide +kernel, by decide +kernel⟩
def yX4_rule : MethodName := ⟨RX4, "rule", "(II)I"⟩
def cdX4_rule_0 : List (Nat × Instr × Nat) := [(0, .aload_n 0, 1), (1, .getfield 10, 3), (4, .getfield 67, 3), (7, .iload_n 1, 1), (8, .iload_n 2, 1), (9, .invokevirtual 71, 3), (12, .ifCond .ne 6, 3), (15, .bipush (-2), 2), (17, .ireturn, 1), (18, .aload_n 0, 1), (19, .getfield 10, 3), (22, .getfield 24, 3), (25, .getfield 28, 3), (28, .ifCond .le 6, 3), (31, .bipush (-3), 2), (33, .ireturn, 1), (34, .aload_n 0, 1), (35, .getfield 10, 3), (38, .getfield 67, 3), (41, .iload_n 1, 1), (42, .iload_n 2, 1), (43, .invokevirtual 76, 3), (46, .ireturn, 1)]
theorem cdX4_rule_0_ok : ∀ x ∈ cdX4_rule_0, decode prog_1_method_4_code x.1 = .ok x.2 := by decide +kernel
def cdX4_rule : List (Nat × Instr × Nat) := cdX4_rule_0
theorem cdX4_rule_ok : ∀ x ∈ cdX4_rule, decode prog_1_method_4_code x.1 = .ok x.2 := fun x h => cdX4_rule_0_ok x h
def qX4_rule : MI := (RX4, yX4_rule, prog_1_method_4_code, 3, some .int, cdX4_rule, flX4, [], 1, 23)
theorem qX4_rule_ok : MOk qX4_rule := ⟨cdX4_rule_ok, flX4_ok, fun _ h => absurd h List.not_mem_nil, tw201, tw1, by decide +kernel, rfl, by decide +kernel, by decide +kernel⟩
def yX4_cell : MethodName := ⟨RX4, "cell", "(II)I"⟩
def cdX4_cell_0 : List (Nat × Instr × Nat) := [(0, .iload_n 1, 1), (1, .ifCond .lt 19, 3), (4, .iload_n 1, 1), (5, .bipush 8, 2), (7, .if_icmp .ge 13, 3), (10, .iload_n 2, 1), (11, .ifCond .lt 9, 3), (14, .iload_n 2, 1), (15, .bipush 8, 2), (17, .if_icmp .lt 6, 3), (20, .bipush (-2), 2), (22, .ireturn, 1), (23, .aload_n 0, 1), (24, .getfield 10, 3), (27, .getfield 34, 3), (30, .iload_n 1, 1), (31, .iload_n 2, 1), (32, .invokevirtual 80, 3), (35, .ireturn, 1)]
theorem cdX4_cell_0_ok : ∀ x ∈ cdX4_cell_0, decode prog_1_method_5_code x.1 = .ok x.2 := by decide +kernel
def cdX4_cell : List (Nat × Instr × Nat) := cdX4_cell_0
theorem cdX4_cell_ok : ∀ x ∈ cdX4_cell, decode prog_1_method_5_code x.1 = .ok x.2 := fun x h => cdX4_cell_0_ok x h
def qX4_cell : MI := (RX4, yX4_cell, prog_1_method_5_code, 3, some .int, cdX4_cell, flX4, [], 3, 67)
theorem qX4_cell_ok : MOk qX4_cell := ⟨cdX4_cell_ok, flX4_ok, fun _ h => absurd h List.not_mem_nil, tw215, tw1, by decide +kernel, rfl, by decide +kernel, by decide +kernel⟩
def yX4_between : MethodName := ⟨RX4, "between", "(II)I"⟩
def cdX4_between_0 : List (Nat × Instr × Nat) := [(0, .aload_n 0, 1), (1, .getfield 10, 3), (4, .getfield 34, 3), (7, .iload_n 1, 1), (8, .invokevirtual 50, 3), (11, .ifCond .eq 17, 3), (14, .aload_n 0, 1), (15, .getfield 10, 3), (18, .getfield 34, 3), (21, .iload_n 2, 1), (22, .invokevirtual 50, 3), (25, .ifCond .ne 5, 3), (28, .iconst (-1), 1), (29, .ireturn, 1), (30, .aload_n 0, 1), (31, .getfield 10, 3), (34, .getfield 34, 3), (37, .iload_n 1, 1), (38, .iload_n 2, 1), (39, .invokevirtual 83, 3), (42, .ireturn, 1)]
theorem cdX4_between_0_ok : ∀ x ∈ cdX4_between_0, decode prog_1_method_6_code x.1 = .ok x.2 := by decide +kernel
def cdX4_between : List (Nat × Instr × Nat) := cdX4_between_0
theorem cdX4_between_ok : ∀ x ∈ cdX4_between, decode prog_1_method_6_code x.1 = .ok x.2 := fun x h => cdX4_between_0_ok x h
def qX4_between : MI := (RX4, yX4_between, prog_1_method_6_code, 3, some .int, cdX4_between, flX4, [], 2, 43)
theorem qX4_between_ok : MOk qX4_between := ⟨cdX4_between_ok, flX4_ok, fun _ h => absurd h List.not_mem_nil, tw232, tw1, by decide +kernel, rfl, by decide +kernel, by decide +kernel⟩
def yX4_way : MethodName := ⟨RX4, "way", "(II)I"⟩
def cdX4_way_0 : List (Nat × Instr × Nat) := [(0, .aload_n 0, 1), (1, .getfield 10, 3), (4, .getfield 34, 3), (7, .iload_n 1, 1), (8, .invokevirtual 86, 3), (11, .ifCond .eq 17, 3), (14, .aload_n 0, 1), (15, .getfield 10, 3), (18, .getfield 34, 3), (21, .iload_n 2, 1), (22, .invokevirtual 86, 3), (25, .ifCond .ne 5, 3), (28, .iconst (-1), 1), (29, .ireturn, 1), (30, .aload_n 0, 1), (31, .getfield 10, 3), (34, .getfield 34, 3), (37, .iload_n 1, 1), (38, .iload_n 2, 1), (39, .invokevirtual 89, 3), (42, .ireturn, 1)]
theorem cdX4_way_0_ok : ∀ x ∈ cdX4_way_0, decode prog_1_method_7_code x.1 = .ok x.2 := by decide +kernel
def cdX4_way : List (Nat × Instr × Nat) := cdX4_way_0
theorem cdX4_way_ok : ∀ x ∈ cdX4_way, decode prog_1_method_7_code x.1 = .ok x.2 := fun x h => cdX4_way_0_ok x h
def qX4_way : MI := (RX4, yX4_way, prog_1_method_7_code, 3, some .int, cdX4_way, flX4, [], 4, 94)
theorem qX4_way_ok : MOk qX4_way := ⟨cdX4_way_ok, flX4_ok, fun _ h => absurd h List.not_mem_nil, tw240, tw1, by decide +kernel, rfl, by decide +kernel, by decide +kernel⟩
def yX4_fix : MethodName := ⟨RX4, "fix", "(II)I"⟩
def cdX4_fix_0 : List (Nat × Instr × Nat) := [(0, .iload_n 1, 1), (1, .iload_n 2, 1), (2, .invokestatic 20, 3), (5, .ifCond .ne 6, 3), (8, .bipush (-2), 2), (10, .ireturn, 1), (11, .aload_n 0, 1), (12, .getfield 10, 3), (15, .getfield 24, 3), (18, .getfield 28, 3), (21, .bipush 16, 2), (23, .if_icmp .lt 6, 3), (26, .bipush (-4), 2), (28, .ireturn, 1), (29, .aload_n 0, 1), (30, .getfield 10, 3), (33, .getfield 24, 3), (36, .iload_n 1, 1), (37, .iload_n 2, 1), (38, .invokevirtual 92, 3), (41, .aload_n 0, 1), (42, .getfield 10, 3), (45, .getfield 24, 3), (48, .getfield 28, 3), (51, .ireturn, 1)]
theorem cdX4_fix_0_ok : ∀ x ∈ cdX4_fix_0, decode prog_1_method_8_code x.1 = .ok x.2 := by decide +kernel
def cdX4_fix : List (Nat × Instr × Nat) := cdX4_fix_0
theorem cdX4_fix_ok : ∀ x ∈ cdX4_fix, decode prog_1_method_8_code x.1 = .ok x.2 := fun x h => cdX4_fix_0_ok x h
def qX4_fix : MI := (RX4, yX4_fix, prog_1_method_8_code, 3, some .int, cdX4_fix, flX4, [], 7, 172)
theorem qX4_fix_ok : MOk qX4_fix := ⟨cdX4_fix_ok, flX4_ok, fun _ h => absurd h List.not_mem_nil, tw279, tw1, by decide +kernel, rfl, by decide +kernel, by decide +kernel⟩
def yX4_drop : MethodName := ⟨RX4, "drop", "()I"⟩
def cdX4_drop_0 : List (Nat × Instr × Nat) := [(0, .aload_n 0, 1), (1, .getfield 10, 3), (4, .getfield 24, 3), (7, .getfield 28, 3), (10, .ifCond .gt 6, 3), (13, .bipush (-5), 2), (15, .ireturn, 1), (16, .aload_n 0, 1), (17, .getfield 10, 3), (20, .getfield 24, 3), (23, .invokevirtual 95, 3), (26, .aload_n 0, 1), (27, .getfield 10, 3), (30, .getfield 24, 3), (33, .getfield 28, 3), (36, .ireturn, 1)]
theorem cdX4_drop_0_ok : ∀ x ∈ cdX4_drop_0, decode prog_1_method_9_code x.1 = .ok x.2 := by decide +kernel
def cdX4_drop : List (Nat × Instr × Nat) := cdX4_drop_0
theorem cdX4_drop_ok : ∀ x ∈ cdX4_drop, decode prog_1_method_9_code x.1 = .ok x.2 := fun x h => cdX4_drop_0_ok x h
def qX4_drop : MI := (RX4, yX4_drop, prog_1_method_9_code, 1, some .int, cdX4_drop, flX4, [], 5, 109)
theorem qX4_drop_ok : MOk qX4_drop := ⟨cdX4_drop_ok, flX4_ok, fun _ h => absurd h List.not_mem_nil, tw373, tw1, by decide +kernel, rfl, by decide +kernel, by decide +kernel⟩
def yX4_candidate : MethodName := ⟨RX4, "candidate", "(III)I"⟩
def cdX4_candidate_0 : List (Nat × Instr × Nat) := [(0, .aload_n 0, 1), (1, .getfield 10, 3), (4, .getfield 24, 3), (7, .iload_n 1, 1), (8, .invokevirtual 98, 3), (11, .ifCond .ne 5, 3), (14, .iconst (-1), 1), (15, .ireturn, 1), (16, .iload_n 3, 1), (17, .ifCond .lt 8, 3), (20, .iload_n 3, 1), (21, .iconst 3, 1), (22, .if_icmp .le 6, 3), (25, .bipush (-2), 2), (27, .ireturn, 1), (28, .iload_n 2, 1), (29, .iconst (-1), 1), (30, .if_icmp .ne 16, 3), (33, .aload_n 0, 1), (34, .getfield 10, 3), (37, .getfield 24, 3), (40, .getfield 101, 3), (43, .iload_n 1, 1), (44, .iaload, 1), (45, .ireturn, 1), (46, .aload_n 0, 1), (47, .getfield 10, 3), (50, .getfield 24, 3), (53, .iload_n 1, 1), (54, .iload_n 2, 1), (55, .iload_n 3, 1), (56, .invokevirtual 105, 3), (59, .ireturn, 1)]
theorem cdX4_candidate_0_ok : ∀ x ∈ cdX4_candidate_0, decode prog_1_method_10_code x.1 = .ok x.2 := by decide +kernel
def cdX4_candidate : List (Nat × Instr × Nat) := cdX4_candidate_0
theorem cdX4_candidate_ok : ∀ x ∈ cdX4_candidate, decode prog_1_method_10_code x.1 = .ok x.2 := fun x h => cdX4_candidate_0_ok x h
def qX4_candidate : MI := (RX4, yX4_candidate, prog_1_method_10_code, 4, some .int, cdX4_candidate, flX4, [], 3, 66)
theorem qX4_candidate_ok : MOk qX4_candidate := ⟨cdX4_candidate_ok, flX4_ok, fun _ h => absurd h List.not_mem_nil, tw381, tw1, by decide +kernel, rfl, by decide +kernel, by decide +kernel⟩
def yX4_best : MethodName := ⟨RX4, "best", "(I)I"⟩
def cdX4_best_0 : List (Nat × Instr × Nat) := [(0, .aload_n 0, 1), (1, .getfield 10, 3), (4, .getfield 24, 3), (7, .iload_n 1, 1), (8, .invokevirtual 98, 3), (11, .ifCond .ne 5, 3), (14, .iconst (-1), 1), (15, .ireturn, 1), (16, .aload_n 0, 1), (17, .getfield 10, 3), (20, .getfield 24, 3), (23, .iload_n 1, 1), (24, .invokevirtual 109, 3), (27, .ireturn, 1)]
theorem cdX4_best_0_ok : ∀ x ∈ cdX4_best_0, decode prog_1_method_11_code x.1 = .ok x.2 := by decide +kernel
def cdX4_best : List (Nat × Instr × Nat) := cdX4_best_0
theorem cdX4_best_ok : ∀ x ∈ cdX4_best, decode prog_1_method_11_code x.1 = .ok x.2 := fun x h => cdX4_best_0_ok x h
def qX4_best : MI := (RX4, yX4_best, prog_1_method_11_code, 2, some .int, cdX4_best, flX4, [], 3, 65)
theorem qX4_best_ok : MOk qX4_best := ⟨cdX4_best_ok, flX4_ok, fun _ h => absurd h List.not_mem_nil, tw390, tw1, by decide +kernel, rfl, by decide +kernel, by decide +kernel⟩
def yX4_decided : MethodName := ⟨RX4, "decided", "(I)I"⟩
def cdX4_decided_0 : List (Nat × Instr × Nat) := [(0, .aload_n 0, 1), (1, .getfield 10, 3), (4, .getfield 24, 3), (7, .iload_n 1, 1), (8, .invokevirtual 98, 3), (11, .ifCond .ne 5, 3), (14, .iconst (-1), 1), (15, .ireturn, 1), (16, .aload_n 0, 1), (17, .getfield 10, 3), (20, .getfield 24, 3), (23, .getfield 113, 3), (26, .iload_n 1, 1), (27, .baload, 1), (28, .ifCond .eq 17, 3), (31, .aload_n 0, 1), (32, .getfield 10, 3), (35, .getfield 24, 3), (38, .iload_n 1, 1), (39, .invokevirtual 109, 3), (42, .goto 5, 3), (45, .bipush (-6), 2), (47, .ireturn, 1)]
theorem cdX4_decided_0_ok : ∀ x ∈ cdX4_decided_0, decode prog_1_method_12_code x.1 = .ok x.2 := by decide +kernel
def cdX4_decided : List (Nat × Instr × Nat) := cdX4_decided_0
theorem cdX4_decided_ok : ∀ x ∈ cdX4_decided, decode prog_1_method_12_code x.1 = .ok x.2 := fun x h => cdX4_decided_0_ok x h
def qX4_decided : MI := (RX4, yX4_decided, prog_1_method_12_code, 2, some .int, cdX4_decided, flX4, [], 3, 65)
theorem qX4_decided_ok : MOk qX4_decided := ⟨cdX4_decided_ok, flX4_ok, fun _ h => absurd h List.not_mem_nil, tw398, tw1, by decide +kernel, rfl, by decide +kernel, by decide +kernel⟩
def yX4_piece : MethodName := ⟨RX4, "piece", "(I)I"⟩
def cdX4_piece_0 : List (Nat × Instr × Nat) := [(0, .aload_n 0, 1), (1, .getfield 10, 3), (4, .getfield 24, 3), (7, .iload_n 1, 1), (8, .invokevirtual 98, 3), (11, .ifCond .ne 5, 3), (14, .iconst (-1), 1), (15, .ireturn, 1), (16, .aload_n 0, 1), (17, .getfield 10, 3), (20, .getfield 24, 3), (23, .getfield 117, 3), (26, .iload_n 1, 1), (27, .iaload, 1), (28, .ireturn, 1)]
theorem cdX4_piece_0_ok : ∀ x ∈ cdX4_piece_0, decode prog_1_method_13_code x.1 = .ok x.2 := by decide +kernel
def cdX4_piece : List (Nat × Instr × Nat) := cdX4_piece_0
theorem cdX4_piece_ok : ∀ x ∈ cdX4_piece, decode prog_1_method_13_code x.1 = .ok x.2 := fun x h => cdX4_piece_0_ok x h
def qX4_piece : MI := (RX4, yX4_piece, prog_1_method_13_code, 2, some .int, cdX4_piece, flX4, [], 1, 21)
theorem qX4_piece_ok : MOk qX4_piece := ⟨cdX4_piece_ok, flX4_ok, fun _ h => absurd h List.not_mem_nil, tw402, tw1, by decide +kernel, rfl, by decide +kernel, by decide +kernel⟩
def yX4_step : MethodName := ⟨RX4, "step", "(I)I"⟩
def cdX4_step_0 : List (Nat × Instr × Nat) := [(0, .aload_n 0, 1), (1, .getfield 10, 3), (4, .getfield 24, 3), (7, .iload_n 1, 1), (8, .invokevirtual 98, 3), (11, .ifCond .ne 5, 3), (14, .iconst (-1), 1), (15, .ireturn, 1), (16, .aload_n 0, 1), (17, .getfield 10, 3), (20, .getfield 24, 3), (23, .iload_n 1, 1), (24, .invokevirtual 120, 3), (27, .ireturn, 1)]
theorem cdX4_step_0_ok : ∀ x ∈ cdX4_step_0, decode prog_1_method_14_code x.1 = .ok x.2 := by decide +kernel
def cdX4_step : List (Nat × Instr × Nat) := cdX4_step_0
theorem cdX4_step_ok : ∀ x ∈ cdX4_step, decode prog_1_method_14_code x.1 = .ok x.2 := fun x h => cdX4_step_0_ok x h
def qX4_step : MI := (RX4, yX4_step, prog_1_method_14_code, 2, some .int, cdX4_step, flX4, [], 5, 116)
theorem qX4_step_ok : MOk qX4_step := ⟨cdX4_step_ok, flX4_ok, fun _ h => absurd h List.not_mem_nil, tw406, tw1, by decide +kernel, rfl, by decide +kernel, by decide +kernel⟩
def yX4_through : MethodName := ⟨RX4, "through", "(II)I"⟩
def cdX4_through_0 : List (Nat × Instr × Nat) := [(0, .aload_n 0, 1), (1, .getfield 10, 3), (4, .getfield 24, 3), (7, .iload_n 1, 1), (8, .invokevirtual 98, 3), (11, .ifCond .ne 5, 3), (14, .iconst (-1), 1), (15, .ireturn, 1), (16, .aload_n 0, 1), (17, .getfield 10, 3), (20, .getfield 24, 3), (23, .iload_n 1, 1), (24, .iload_n 2, 1), (25, .invokevirtual 123, 3), (28, .ireturn, 1)]
theorem cdX4_through_0_ok : ∀ x ∈ cdX4_through_0, decode prog_1_method_15_code x.1 = .ok x.2 := by decide +kernel
def cdX4_through : List (Nat × Instr × Nat) := cdX4_through_0
theorem cdX4_through_ok : ∀ x ∈ cdX4_through, decode prog_1_method_15_code x.1 = .ok x.2 := fun x h => cdX4_through_0_ok x h
def qX4_through : MI := (RX4, yX4_through, prog_1_method_15_code, 3, some .int, cdX4_through, flX4, [], 7, 168)
theorem qX4_through_ok : MOk qX4_through := ⟨cdX4_through_ok, flX4_ok, fun _ h => absurd h List.not_mem_nil, tw419, tw1, by decide +kernel, rfl, by decide +kernel, by decide +kernel⟩
def yX4_total : MethodName := ⟨RX4, "total", "(I)I"⟩
def cdX4_total_0 : List (Nat × Instr × Nat) := [(0, .iload_n 1, 1), (1, .tableswitch 90 0 4 #[35, 46, 57, 68, 79], 35), (36, .aload_n 0, 1), (37, .getfield 10, 3), (40, .getfield 24, 3), (43, .invokevirtual 126, 3), (46, .ireturn, 1), (47, .aload_n 0, 1), (48, .getfield 10, 3), (51, .getfield 24, 3), (54, .invokevirtual 130, 3), (57, .ireturn, 1), (58, .aload_n 0, 1), (59, .getfield 10, 3), (62, .getfield 24, 3), (65, .invokevirtual 133, 3), (68, .ireturn, 1), (69, .aload_n 0, 1), (70, .getfield 10, 3), (73, .getfield 24, 3), (76, .invokevirtual 136, 3), (79, .ireturn, 1), (80, .aload_n 0, 1), (81, .getfield 10, 3), (84, .getfield 24, 3), (87, .invokevirtual 139, 3), (90, .ireturn, 1), (91, .bipush (-2), 2), (93, .ireturn, 1)]
theorem cdX4_total_0_ok : ∀ x ∈ cdX4_total_0, decode prog_1_method_16_code x.1 = .ok x.2 := by decide +kernel
def cdX4_total : List (Nat × Instr × Nat) := cdX4_total_0
theorem cdX4_total_ok : ∀ x ∈ cdX4_total, decode prog_1_method_16_code x.1 = .ok x.2 := fun x h => cdX4_total_0_ok x h
def qX4_total : MI := (RX4, yX4_total, prog_1_method_16_code, 2, some .int, cdX4_total, flX4, [], 6, 139)
theorem qX4_total_ok : MOk qX4_total := ⟨cdX4_total_ok, flX4_ok, fun _ h => absurd h List.not_mem_nil, tw445, tw1, by decide +kernel, rfl, by decide +kernel, by decide +kernel⟩
def yX4_image : MethodName := ⟨RX4, "image", "(I)I"⟩
def cdX4_image_0 : List (Nat × Instr × Nat) := [(0, .iload_n 1, 1), (1, .ifCond .lt 8, 3), (4, .iload_n 1, 1), (5, .iconst 2, 1), (6, .if_icmp .lt 6, 3), (9, .bipush (-2), 2), (11, .ireturn, 1), (12, .aload_n 0, 1), (13, .getfield 16, 3), (16, .iload_n 1, 1), (17, .aaload, 1), (18, .aload_n 0, 1), (19, .getfield 10, 3), (22, .invokevirtual 142, 3), (25, .aload_n 0, 1), (26, .getfield 16, 3), (29, .iload_n 1, 1), (30, .aaload, 1), (31, .iconst 1, 1), (32, .putfield 146, 3), (35, .iconst 1, 1), (36, .ireturn, 1)]
theorem cdX4_image_0_ok : ∀ x ∈ cdX4_image_0, decode prog_1_method_17_code x.1 = .ok x.2 := by decide +kernel
def cdX4_image : List (Nat × Instr × Nat) := cdX4_image_0
theorem cdX4_image_ok : ∀ x ∈ cdX4_image, decode prog_1_method_17_code x.1 = .ok x.2 := fun x h => cdX4_image_0_ok x h
def qX4_image : MI := (RX4, yX4_image, prog_1_method_17_code, 2, some .int, cdX4_image, flX4, [], 6, 131)
theorem qX4_image_ok : MOk qX4_image := ⟨cdX4_image_ok, flX4_ok, fun _ h => absurd h List.not_mem_nil, tw474, tw1, by decide +kernel, rfl, by decide +kernel, by decide +kernel⟩
def yX4_restore : MethodName := ⟨RX4, "restore", "(I)I"⟩
def cdX4_restore_0 : List (Nat × Instr × Nat) := [(0, .iload_n 1, 1), (1, .ifCond .lt 8, 3), (4, .iload_n 1, 1), (5, .iconst 2, 1), (6, .if_icmp .lt 6, 3), (9, .bipush (-2), 2), (11, .ireturn, 1), (12, .aload_n 0, 1), (13, .getfield 16, 3), (16, .iload_n 1, 1), (17, .aaload, 1), (18, .getfield 146, 3), (21, .ifCond .ne 6, 3), (24, .bipush (-3), 2), (26, .ireturn, 1), (27, .aload_n 0, 1), (28, .getfield 10, 3), (31, .aload_n 0, 1), (32, .getfield 16, 3), (35, .iload_n 1, 1), (36, .aaload, 1), (37, .invokevirtual 142, 3), (40, .iconst 1, 1), (41, .ireturn, 1)]
theorem cdX4_restore_0_ok : ∀ x ∈ cdX4_restore_0, decode prog_1_method_18_code x.1 = .ok x.2 := by decide +kernel
def cdX4_restore : List (Nat × Instr × Nat) := cdX4_restore_0
theorem cdX4_restore_ok : ∀ x ∈ cdX4_restore, decode prog_1_method_18_code x.1 = .ok x.2 := fun x h => cdX4_restore_0_ok x h
def qX4_restore : MI := (RX4, yX4_restore, prog_1_method_18_code, 2, some .int, cdX4_restore, flX4, [], 6, 131)
theorem qX4_restore_ok : MOk qX4_restore := ⟨cdX4_restore_ok, flX4_ok, fun _ h => absurd h List.not_mem_nil, tw499, tw1, by decide +kernel, rfl, by decide +kernel, by decide +kernel⟩
def yX4_told : MethodName := ⟨RX4, "told", "(I)I"⟩
def cdX4_told_0 : List (Nat × Instr × Nat) := [(0, .iload_n 1, 1), (1, .ifCond .ge 6, 3), (4, .bipush (-2), 2), (6, .ireturn, 1), (7, .iload_n 1, 1), (8, .bipush 100, 2), (10, .irem, 1), (11, .istore_n 2, 1), (12, .iload_n 1, 1), (13, .bipush 100, 2), (15, .idiv, 1), (16, .tableswitch 74 0 3 #[32, 38, 50, 62], 32), (48, .aload_n 0, 1), (49, .iload_n 2, 1), (50, .invokevirtual 150, 3), (53, .ireturn, 1), (54, .aload_n 0, 1), (55, .getfield 10, 3), (58, .getfield 34, 3), (61, .iload_n 2, 1), (62, .invokevirtual 153, 3), (65, .ireturn, 1), (66, .aload_n 0, 1), (67, .getfield 10, 3), (70, .getfield 34, 3), (73, .iload_n 2, 1), (74, .invokevirtual 156, 3), (77, .ireturn, 1), (78, .aload_n 0, 1), (79, .getfield 10, 3), (82, .getfield 24, 3), (85, .iload_n 2, 1), (86, .invokevirtual 159, 3), (89, .ireturn, 1), (90, .bipush (-2), 2), (92, .ireturn, 1)]
theorem cdX4_told_0_ok : ∀ x ∈ cdX4_told_0, decode prog_1_method_19_code x.1 = .ok x.2 := by decide +kernel
def cdX4_told : List (Nat × Instr × Nat) := cdX4_told_0
theorem cdX4_told_ok : ∀ x ∈ cdX4_told, decode prog_1_method_19_code x.1 = .ok x.2 := fun x h => cdX4_told_0_ok x h
def qX4_told : MI := (RX4, yX4_told, prog_1_method_19_code, 3, some .int, cdX4_told, flX4, [], 2, 42)
theorem qX4_told_ok : MOk qX4_told := ⟨cdX4_told_ok, flX4_ok, fun _ h => absurd h List.not_mem_nil, tw503, tw1, by decide +kernel, rfl, by decide +kernel, by decide +kernel⟩
def yX4_tellCount : MethodName := ⟨RX4, "tellCount", "(I)I"⟩
def cdX4_tellCount_0 : List (Nat × Instr × Nat) := [(0, .iload_n 1, 1), (1, .tableswitch 60 0 2 #[27, 38, 49], 27), (28, .aload_n 0, 1), (29, .getfield 10, 3), (32, .getfield 34, 3), (35, .getfield 43, 3), (38, .ireturn, 1), (39, .aload_n 0, 1), (40, .getfield 10, 3), (43, .getfield 34, 3), (46, .getfield 60, 3), (49, .ireturn, 1), (50, .aload_n 0, 1), (51, .getfield 10, 3), (54, .getfield 24, 3), (57, .getfield 28, 3), (60, .ireturn, 1), (61, .aload_n 0, 1), (62, .getfield 10, 3), (65, .getfield 67, 3), (68, .iload_n 1, 1), (69, .iconst 3, 1), (70, .isub, 1), (71, .invokevirtual 162, 3), (74, .ireturn, 1)]
theorem cdX4_tellCount_0_ok : ∀ x ∈ cdX4_tellCount_0, decode prog_1_method_20_code x.1 = .ok x.2 := by decide +kernel
def cdX4_tellCount : List (Nat × Instr × Nat) := cdX4_tellCount_0
theorem cdX4_tellCount_ok : ∀ x ∈ cdX4_tellCount, decode prog_1_method_20_code x.1 = .ok x.2 := fun x h => cdX4_tellCount_0_ok x h
def qX4_tellCount : MI := (RX4, yX4_tellCount, prog_1_method_20_code, 2, some .int, cdX4_tellCount, flX4, [], 1, 21)
theorem qX4_tellCount_ok : MOk qX4_tellCount := ⟨cdX4_tellCount_ok, flX4_ok, fun _ h => absurd h List.not_mem_nil, tw507, tw1, by decide +kernel, rfl, by decide +kernel, by decide +kernel⟩
def yX4_isPlace : MethodName := ⟨RX4, "isPlace", "(II)Z"⟩
def cdX4_isPlace_0 : List (Nat × Instr × Nat) := [(0, .iload_n 0, 1), (1, .ifCond .lt 23, 3), (4, .iload_n 0, 1), (5, .bipush 63, 2), (7, .if_icmp .gt 17, 3), (10, .iload_n 1, 1), (11, .ifCond .lt 13, 3), (14, .iload_n 1, 1), (15, .bipush 63, 2), (17, .if_icmp .gt 7, 3), (20, .iconst 1, 1), (21, .goto 4, 3), (24, .iconst 0, 1), (25, .ireturn, 1)]
theorem cdX4_isPlace_0_ok : ∀ x ∈ cdX4_isPlace_0, decode prog_1_method_21_code x.1 = .ok x.2 := by decide +kernel
def cdX4_isPlace : List (Nat × Instr × Nat) := cdX4_isPlace_0
theorem cdX4_isPlace_ok : ∀ x ∈ cdX4_isPlace, decode prog_1_method_21_code x.1 = .ok x.2 := fun x h => cdX4_isPlace_0_ok x h
def qX4_isPlace : MI := (RX4, yX4_isPlace, prog_1_method_21_code, 2, some .boolean, cdX4_isPlace, flX4, [], 0, 0)
theorem qX4_isPlace_ok : MOk qX4_isPlace := ⟨cdX4_isPlace_ok, flX4_ok, fun _ h => absurd h List.not_mem_nil, tw158, tw1, by decide +kernel, rfl, by decide +kernel, by decide +kernel⟩
def yX5_in : MethodName := ⟨RX5, "in", "(III)Z"⟩
def cdX5_in_0 : List (Nat × Instr × Nat) := [(0, .iload_n 0, 1), (1, .iload_n 1, 1), (2, .if_icmp .lt 12, 3), (5, .iload_n 0, 1), (6, .iload_n 2, 1), (7, .if_icmp .gt 7, 3), (10, .iconst 1, 1), (11, .goto 4, 3), (14, .iconst 0, 1), (15, .ireturn, 1)]
theorem cdX5_in_0_ok : ∀ x ∈ cdX5_in_0, decode prog_7_method_2_code x.1 = .ok x.2 := by decide +kernel
def cdX5_in : List (Nat × Instr × Nat) := cdX5_in_0
theorem cdX5_in_ok : ∀ x ∈ cdX5_in, decode prog_7_method_2_code x.1 = .ok x.2 := fun x h => cdX5_in_0_ok x h
def qX5_in : MI := (RX5, yX5_in, prog_7_method_2_code, 3, some .boolean, cdX5_in, flX5, [], 0, 0)
theorem qX5_in_ok : MOk qX5_in := ⟨cdX5_in_ok, flX5_ok, fun _ h => absurd h List.not_mem_nil, tw606, tw6, by decide +kernel, rfl, by decide +kernel, by decide +kernel⟩
def yX5_off : MethodName := ⟨RX5, "off", "(II)I"⟩
def cdX5_off_0 : List (Nat × Instr × Nat) := [(0, .iload_n 0, 1), (1, .iload_n 1, 1), (2, .if_icmp .ge 9, 3), (5, .iload_n 1, 1), (6, .iload_n 0, 1), (7, .isub, 1), (8, .goto 6, 3), (11, .iload_n 0, 1), (12, .iload_n 1, 1), (13, .isub, 1), (14, .ireturn, 1)]
theorem cdX5_off_0_ok : ∀ x ∈ cdX5_off_0, decode prog_7_method_3_code x.1 = .ok x.2 := by decide +kernel
def cdX5_off : List (Nat × Instr × Nat) := cdX5_off_0
theorem cdX5_off_ok : ∀ x ∈ cdX5_off, decode prog_7_method_3_code x.1 = .ok x.2 := fun x h => cdX5_off_0_ok x h
def qX5_off : MI := (RX5, yX5_off, prog_7_method_3_code, 2, some .int, cdX5_off, flX5, [], 0, 0)
theorem qX5_off_ok : MOk qX5_off := ⟨cdX5_off_ok, flX5_ok, fun _ h => absurd h List.not_mem_nil, tw632, tw6, by decide +kernel, rfl, by decide +kernel, by decide +kernel⟩
def yX5_apart : MethodName := ⟨RX5, "apart", "(IIII)I"⟩
def cdX5_apart_0 : List (Nat × Instr × Nat) := [(0, .iload_n 0, 1), (1, .iload_n 2, 1), (2, .invokestatic 68, 3), (5, .iload_n 1, 1), (6, .iload_n 3, 1), (7, .invokestatic 68, 3), (10, .iadd, 1), (11, .ireturn, 1)]
theorem cdX5_apart_0_ok : ∀ x ∈ cdX5_apart_0, decode prog_7_method_4_code x.1 = .ok x.2 := by decide +kernel
def cdX5_apart : List (Nat × Instr × Nat) := cdX5_apart_0
theorem cdX5_apart_ok : ∀ x ∈ cdX5_apart, decode prog_7_method_4_code x.1 = .ok x.2 := fun x h => cdX5_apart_0_ok x h
def qX5_apart : MI := (RX5, yX5_apart, prog_7_method_4_code, 4, some .int, cdX5_apart, flX5, [], 1, 21)
theorem qX5_apart_ok : MOk qX5_apart := ⟨cdX5_apart_ok, flX5_ok, fun _ h => absurd h List.not_mem_nil, tw629, tw6, by decide +kernel, rfl, by decide +kernel, by decide +kernel⟩
def yX5_isCrossing : MethodName := ⟨RX5, "isCrossing", "(I)Z"⟩
def cdX5_isCrossing_0 : List (Nat × Instr × Nat) := [(0, .iload_n 1, 1), (1, .iconst 0, 1), (2, .aload_n 0, 1), (3, .getfield 72, 3), (6, .iconst 1, 1), (7, .isub, 1), (8, .invokestatic 76, 3), (11, .ireturn, 1)]
theorem cdX5_isCrossing_0_ok : ∀ x ∈ cdX5_isCrossing_0, decode prog_7_method_5_code x.1 = .ok x.2 := by decide +kernel
def cdX5_isCrossing : List (Nat × Instr × Nat) := cdX5_isCrossing_0
theorem cdX5_isCrossing_ok : ∀ x ∈ cdX5_isCrossing, decode prog_7_method_5_code x.1 = .ok x.2 := fun x h => cdX5_isCrossing_0_ok x h
def qX5_isCrossing : MI := (RX5, yX5_isCrossing, prog_7_method_5_code, 2, some .boolean, cdX5_isCrossing, flX5, [], 1, 22)
theorem qX5_isCrossing_ok : MOk qX5_isCrossing := ⟨cdX5_isCrossing_ok, flX5_ok, fun _ h => absurd h List.not_mem_nil, tw614, tw6, by decide +kernel, rfl, by decide +kernel, by decide +kernel⟩
def yX5_crossing : MethodName := ⟨RX5, "crossing", "(II)I"⟩
def cdX5_crossing_0 : List (Nat × Instr × Nat) := [(0, .iload_n 1, 1), (1, .iconst 0, 1), (2, .bipush 63, 2), (4, .invokestatic 76, 3), (7, .ifCond .eq 13, 3), (10, .iload_n 2, 1), (11, .iconst 0, 1), (12, .bipush 63, 2), (14, .invokestatic 76, 3), (17, .ifCond .ne 6, 3), (20, .bipush (-2), 2), (22, .ireturn, 1), (23, .aload_n 0, 1), (24, .getfield 80, 3), (27, .ifCond .le 6, 3), (30, .bipush (-3), 2), (32, .ireturn, 1), (33, .iconst 0, 1), (34, .istore_n 3, 1), (35, .iload_n 3, 1), (36, .aload_n 0, 1), (37, .getfield 72, 3), (40, .if_icmp .ge 32, 3), (43, .aload_n 0, 1), (44, .getfield 7, 3), (47, .iload_n 3, 1), (48, .iaload, 1), (49, .iload_n 1, 1), (50, .if_icmp .ne 16, 3), (53, .aload_n 0, 1), (54, .getfield 13, 3), (57, .iload_n 3, 1), (58, .iaload, 1), (59, .iload_n 2, 1), (60, .if_icmp .ne 6, 3), (63, .bipush (-5), 2), (65, .ireturn, 1), (66, .iinc 3 1, 3), (69, .goto (-34), 3), (72, .aload_n 0, 1), (73, .getfield 72, 3), (76, .bipush 12, 2), (78, .if_icmp .ne 6, 3), (81, .bipush (-4), 2), (83, .ireturn, 1), (84, .aload_n 0, 1), (85, .getfield 7, 3), (88, .aload_n 0, 1), (89, .getfield 72, 3), (92, .iload_n 1, 1), (93, .iastore, 1), (94, .aload_n 0, 1), (95, .getfield 13, 3), (98, .aload_n 0, 1), (99, .getfield 72, 3), (102, .iload_n 2, 1), (103, .iastore, 1), (104, .aload_n 0, 1), (105, .dup, 1), (106, .getfield 72, 3)]
theorem cdX5_crossing_0_ok : ∀ x ∈ cdX5_crossing_0, decode prog_7_method_6_code x.1 = .ok x.2 := by decide +kernel
def cdX5_crossing_1 : List (Nat × Instr × Nat) := [(109, .iconst 1, 1), (110, .iadd, 1), (111, .putfield 72, 3), (114, .aload_n 0, 1), (115, .getfield 72, 3), (118, .ireturn, 1)]
theorem cdX5_crossing_1_ok : ∀ x ∈ cdX5_crossing_1, decode prog_7_method_6_code x.1 = .ok x.2 := by decide +kernel
def cdX5_crossing : List (Nat × Instr × Nat) := cdX5_crossing_0 ++ (cdX5_crossing_1)
theorem cdX5_crossing_ok : ∀ x ∈ cdX5_crossing, decode prog_7_method_6_code x.1 = .ok x.2 := fun x h => (List.mem_append.mp h).elim (fun h => cdX5_crossing_0_ok x h) (fun h => cdX5_crossing_1_ok x h)
def qX5_crossing : MI := (RX5, yX5_crossing, prog_7_method_6_code, 4, some .int, cdX5_crossing, flX5, [], 1, 22)
theorem qX5_crossing_ok : MOk qX5_crossing := ⟨cdX5_crossing_ok, flX5_ok, fun _ h => absurd h List.not_mem_nil, tw603, tw6, by decide +kernel, rfl, by decide +kernel, by decide +kernel⟩
def yX5_road : MethodName := ⟨RX5, "road", "(III)I"⟩
def cdX5_road_0 : List (Nat × Instr × Nat) := [(0, .aload_n 0, 1), (1, .iload_n 1, 1), (2, .invokevirtual 83, 3), (5, .ifCond .eq 11, 3), (8, .aload_n 0, 1), (9, .iload_n 2, 1), (10, .invokevirtual 83, 3), (13, .ifCond .ne 5, 3), (16, .iconst (-1), 1), (17, .ireturn, 1), (18, .iload_n 3, 1), (19, .iconst 0, 1), (20, .iconst 1, 1), (21, .invokestatic 76, 3), (24, .ifCond .ne 6, 3), (27, .bipush (-2), 2), (29, .ireturn, 1), (30, .aload_n 0, 1), (31, .getfield 80, 3), (34, .ifCond .le 6, 3), (37, .bipush (-3), 2), (39, .ireturn, 1), (40, .iload_n 1, 1), (41, .iload_n 2, 1), (42, .if_icmp .eq 37, 3), (45, .aload_n 0, 1), (46, .getfield 7, 3), (49, .iload_n 1, 1), (50, .iaload, 1), (51, .aload_n 0, 1), (52, .getfield 7, 3), (55, .iload_n 2, 1), (56, .iaload, 1), (57, .if_icmp .eq 18, 3), (60, .aload_n 0, 1), (61, .getfield 13, 3), (64, .iload_n 1, 1), (65, .iaload, 1), (66, .aload_n 0, 1), (67, .getfield 13, 3), (70, .iload_n 2, 1), (71, .iaload, 1), (72, .if_icmp .ne 7, 3), (75, .iconst 1, 1), (76, .goto 4, 3), (79, .iconst 0, 1), (80, .istore 4, 2), (82, .iconst 0, 1), (83, .istore 5, 2), (85, .iload 5, 2), (87, .aload_n 0, 1), (88, .getfield 87, 3), (91, .if_icmp .ge 65, 3), (94, .iload 4, 2), (96, .ifCond .eq 51, 3), (99, .aload_n 0, 1), (100, .getfield 16, 3), (103, .iload 5, 2), (105, .iaload, 1), (106, .iload_n 1, 1)]
theorem cdX5_road_0_ok : ∀ x ∈ cdX5_road_0, decode prog_7_method_7_code x.1 = .ok x.2 := by decide +kernel
def cdX5_road_1 : List (Nat × Instr × Nat) := [(107, .if_icmp .ne 14, 3), (110, .aload_n 0, 1), (111, .getfield 19, 3), (114, .iload 5, 2), (116, .iaload, 1), (117, .iload_n 2, 1), (118, .if_icmp .eq 29, 3), (121, .aload_n 0, 1), (122, .getfield 16, 3), (125, .iload 5, 2), (127, .iaload, 1), (128, .iload_n 2, 1), (129, .if_icmp .ne 14, 3), (132, .aload_n 0, 1), (133, .getfield 19, 3), (136, .iload 5, 2), (138, .iaload, 1), (139, .iload_n 1, 1), (140, .if_icmp .eq 7, 3), (143, .iconst 1, 1), (144, .goto 4, 3), (147, .iconst 0, 1), (148, .istore 4, 2), (150, .iinc 5 1, 3), (153, .goto (-68), 3), (156, .iload 4, 2), (158, .ifCond .ne 6, 3), (161, .bipush (-5), 2), (163, .ireturn, 1), (164, .aload_n 0, 1), (165, .getfield 87, 3), (168, .bipush 20, 2), (170, .if_icmp .ne 6, 3), (173, .bipush (-4), 2), (175, .ireturn, 1), (176, .aload_n 0, 1), (177, .getfield 16, 3), (180, .aload_n 0, 1), (181, .getfield 87, 3), (184, .iload_n 1, 1), (185, .iastore, 1), (186, .aload_n 0, 1), (187, .getfield 19, 3), (190, .aload_n 0, 1), (191, .getfield 87, 3), (194, .iload_n 2, 1), (195, .iastore, 1), (196, .aload_n 0, 1), (197, .getfield 22, 3), (200, .aload_n 0, 1), (201, .getfield 87, 3), (204, .iload_n 3, 1), (205, .iastore, 1), (206, .aload_n 0, 1), (207, .dup, 1), (208, .getfield 87, 3), (211, .iconst 1, 1), (212, .iadd, 1), (213, .putfield 87, 3), (216, .aload_n 0, 1)]
theorem cdX5_road_1_ok : ∀ x ∈ cdX5_road_1, decode prog_7_method_7_code x.1 = .ok x.2 := by decide +kernel
def cdX5_road_2 : List (Nat × Instr × Nat) := [(217, .getfield 87, 3), (220, .ireturn, 1)]
theorem cdX5_road_2_ok : ∀ x ∈ cdX5_road_2, decode prog_7_method_7_code x.1 = .ok x.2 := by decide +kernel
def cdX5_road : List (Nat × Instr × Nat) := cdX5_road_0 ++ (cdX5_road_1 ++ (cdX5_road_2))
theorem cdX5_road_ok : ∀ x ∈ cdX5_road, decode prog_7_method_7_code x.1 = .ok x.2 := fun x h => (List.mem_append.mp h).elim (fun h => cdX5_road_0_ok x h) (fun h => (List.mem_append.mp h).elim (fun h => cdX5_road_1_ok x h) (fun h => cdX5_road_2_ok x h))
def qX5_road : MI := (RX5, yX5_road, prog_7_method_7_code, 6, some .int, cdX5_road, flX5, [], 2, 43)
theorem qX5_road_ok : MOk qX5_road := ⟨cdX5_road_ok, flX5_ok, fun _ h => absurd h List.not_mem_nil, tw610, tw6, by decide +kernel, rfl, by decide +kernel, by decide +kernel⟩
def yX5_rule : MethodName := ⟨RX5, "rule", "(II)I"⟩
def cdX5_rule_0 : List (Nat × Instr × Nat) := [(0, .iload_n 1, 1), (1, .iconst 0, 1), (2, .iconst 3, 1), (3, .invokestatic 76, 3), (6, .ifCond .eq 32, 3), (9, .iload_n 2, 1), (10, .iconst 0, 1), (11, .iload_n 1, 1), (12, .ifCond .ne 8, 3), (15, .bipush 8, 2), (17, .goto 15, 3), (20, .iload_n 1, 1), (21, .iconst 3, 1), (22, .if_icmp .ne 8, 3), (25, .bipush 99, 2), (27, .goto 5, 3), (30, .bipush 9, 2), (32, .invokestatic 76, 3), (35, .ifCond .ne 6, 3), (38, .bipush (-2), 2), (40, .ireturn, 1), (41, .aload_n 0, 1), (42, .getfield 80, 3), (45, .ifCond .le 6, 3), (48, .bipush (-3), 2), (50, .ireturn, 1), (51, .aload_n 0, 1), (52, .getfield 25, 3), (55, .iload_n 1, 1), (56, .iaload, 1), (57, .istore_n 3, 1), (58, .aload_n 0, 1), (59, .getfield 25, 3), (62, .iload_n 1, 1), (63, .iload_n 2, 1), (64, .iastore, 1), (65, .iload_n 3, 1), (66, .ireturn, 1)]
theorem cdX5_rule_0_ok : ∀ x ∈ cdX5_rule_0, decode prog_7_method_8_code x.1 = .ok x.2 := by decide +kernel
def cdX5_rule : List (Nat × Instr × Nat) := cdX5_rule_0
theorem cdX5_rule_ok : ∀ x ∈ cdX5_rule, decode prog_7_method_8_code x.1 = .ok x.2 := fun x h => cdX5_rule_0_ok x h
def qX5_rule : MI := (RX5, yX5_rule, prog_7_method_8_code, 4, some .int, cdX5_rule, flX5, [], 1, 22)
theorem qX5_rule_ok : MOk qX5_rule := ⟨cdX5_rule_ok, flX5_ok, fun _ h => absurd h List.not_mem_nil, tw618, tw6, by decide +kernel, rfl, by decide +kernel, by decide +kernel⟩
def yX5_length : MethodName := ⟨RX5, "length", "(I)I"⟩
def cdX5_length_0 : List (Nat × Instr × Nat) := [(0, .aload_n 0, 1), (1, .getfield 7, 3), (4, .aload_n 0, 1), (5, .getfield 16, 3), (8, .iload_n 1, 1), (9, .iaload, 1), (10, .iaload, 1), (11, .aload_n 0, 1), (12, .getfield 13, 3), (15, .aload_n 0, 1), (16, .getfield 16, 3), (19, .iload_n 1, 1), (20, .iaload, 1), (21, .iaload, 1), (22, .aload_n 0, 1), (23, .getfield 7, 3), (26, .aload_n 0, 1), (27, .getfield 19, 3), (30, .iload_n 1, 1), (31, .iaload, 1), (32, .iaload, 1), (33, .aload_n 0, 1), (34, .getfield 13, 3), (37, .aload_n 0, 1), (38, .getfield 19, 3), (41, .iload_n 1, 1), (42, .iaload, 1), (43, .iaload, 1), (44, .invokestatic 90, 3), (47, .ireturn, 1)]
theorem cdX5_length_0_ok : ∀ x ∈ cdX5_length_0, decode prog_7_method_9_code x.1 = .ok x.2 := by decide +kernel
def cdX5_length : List (Nat × Instr × Nat) := cdX5_length_0
theorem cdX5_length_ok : ∀ x ∈ cdX5_length, decode prog_7_method_9_code x.1 = .ok x.2 := fun x h => cdX5_length_0_ok x h
def qX5_length : MI := (RX5, yX5_length, prog_7_method_9_code, 2, some .int, cdX5_length, flX5, [], 2, 44)
theorem qX5_length_ok : MOk qX5_length := ⟨cdX5_length_ok, flX5_ok, fun _ h => absurd h List.not_mem_nil, tw626, tw6, by decide +kernel, rfl, by decide +kernel, by decide +kernel⟩
def yX5_towards : MethodName := ⟨RX5, "towards", "(III)I"⟩
def cdX5_towards_0 : List (Nat × Instr × Nat) := [(0, .iload_n 0, 1), (1, .iload_n 1, 1), (2, .if_icmp .ne 7, 3), (5, .iload_n 0, 1), (6, .goto 17, 3), (9, .iload_n 0, 1), (10, .iload_n 1, 1), (11, .if_icmp .ge 9, 3), (14, .iload_n 0, 1), (15, .iload_n 2, 1), (16, .iadd, 1), (17, .goto 6, 3), (20, .iload_n 0, 1), (21, .iload_n 2, 1), (22, .isub, 1), (23, .ireturn, 1)]
theorem cdX5_towards_0_ok : ∀ x ∈ cdX5_towards_0, decode prog_7_method_10_code x.1 = .ok x.2 := by decide +kernel
def cdX5_towards : List (Nat × Instr × Nat) := cdX5_towards_0
theorem cdX5_towards_ok : ∀ x ∈ cdX5_towards, decode prog_7_method_10_code x.1 = .ok x.2 := fun x h => cdX5_towards_0_ok x h
def qX5_towards : MI := (RX5, yX5_towards, prog_7_method_10_code, 3, some .int, cdX5_towards, flX5, [], 0, 0)
theorem qX5_towards_ok : MOk qX5_towards := ⟨cdX5_towards_ok, flX5_ok, fun _ h => absurd h List.not_mem_nil, tw639, tw6, by decide +kernel, rfl, by decide +kernel, by decide +kernel⟩
def yX5_spotX : MethodName := ⟨RX5, "spotX", "(II)I"⟩
def cdX5_spotX_0 : List (Nat × Instr × Nat) := [(0, .aload_n 0, 1), (1, .getfield 7, 3), (4, .aload_n 0, 1), (5, .getfield 16, 3), (8, .iload_n 1, 1), (9, .iaload, 1), (10, .iaload, 1), (11, .aload_n 0, 1), (12, .getfield 7, 3), (15, .aload_n 0, 1), (16, .getfield 19, 3), (19, .iload_n 1, 1), (20, .iaload, 1), (21, .iaload, 1), (22, .iload_n 2, 1), (23, .invokestatic 94, 3), (26, .ireturn, 1)]
theorem cdX5_spotX_0_ok : ∀ x ∈ cdX5_spotX_0, decode prog_7_method_11_code x.1 = .ok x.2 := by decide +kernel
def cdX5_spotX : List (Nat × Instr × Nat) := cdX5_spotX_0
theorem cdX5_spotX_ok : ∀ x ∈ cdX5_spotX, decode prog_7_method_11_code x.1 = .ok x.2 := fun x h => cdX5_spotX_0_ok x h
def qX5_spotX : MI := (RX5, yX5_spotX, prog_7_method_11_code, 3, some .int, cdX5_spotX, flX5, [], 1, 22)
theorem qX5_spotX_ok : MOk qX5_spotX := ⟨cdX5_spotX_ok, flX5_ok, fun _ h => absurd h List.not_mem_nil, tw636, tw6, by decide +kernel, rfl, by decide +kernel, by decide +kernel⟩
def yX5_spotY : MethodName := ⟨RX5, "spotY", "(II)I"⟩
def cdX5_spotY_0 : List (Nat × Instr × Nat) := [(0, .aload_n 0, 1), (1, .getfield 13, 3), (4, .aload_n 0, 1), (5, .getfield 16, 3), (8, .iload_n 1, 1), (9, .iaload, 1), (10, .iaload, 1), (11, .aload_n 0, 1), (12, .getfield 13, 3), (15, .aload_n 0, 1), (16, .getfield 19, 3), (19, .iload_n 1, 1), (20, .iaload, 1), (21, .iaload, 1), (22, .iload_n 2, 1), (23, .invokestatic 94, 3), (26, .ireturn, 1)]
theorem cdX5_spotY_0_ok : ∀ x ∈ cdX5_spotY_0, decode prog_7_method_12_code x.1 = .ok x.2 := by decide +kernel
def cdX5_spotY : List (Nat × Instr × Nat) := cdX5_spotY_0
theorem cdX5_spotY_ok : ∀ x ∈ cdX5_spotY, decode prog_7_method_12_code x.1 = .ok x.2 := fun x h => cdX5_spotY_0_ok x h
def qX5_spotY : MI := (RX5, yX5_spotY, prog_7_method_12_code, 3, some .int, cdX5_spotY, flX5, [], 1, 22)
theorem qX5_spotY_ok : MOk qX5_spotY := ⟨cdX5_spotY_ok, flX5_ok, fun _ h => absurd h List.not_mem_nil, tw643, tw6, by decide +kernel, rfl, by decide +kernel, by decide +kernel⟩
def yX5_cell : MethodName := ⟨RX5, "cell", "(II)I"⟩
def cdX5_cell_0 : List (Nat × Instr × Nat) := [(0, .iload_n 1, 1), (1, .iconst 0, 1), (2, .bipush 7, 2), (4, .invokestatic 76, 3), (7, .ifCond .eq 13, 3), (10, .iload_n 2, 1), (11, .iconst 0, 1), (12, .bipush 7, 2), (14, .invokestatic 76, 3), (17, .ifCond .ne 6, 3), (20, .bipush (-2), 2), (22, .ireturn, 1), (23, .iconst 0, 1), (24, .istore_n 3, 1), (25, .iconst 0, 1), (26, .istore 4, 2), (28, .iload 4, 2), (30, .aload_n 0, 1), (31, .getfield 87, 3), (34, .if_icmp .ge 87, 3), (37, .iconst 0, 1), (38, .istore 5, 2), (40, .iconst 0, 1), (41, .istore 6, 2), (43, .iload 6, 2), (45, .aload_n 0, 1), (46, .iload 4, 2), (48, .invokevirtual 98, 3), (51, .if_icmp .gt 51, 3), (54, .iload 5, 2), (56, .ifCond .ne 33, 3), (59, .aload_n 0, 1), (60, .iload 4, 2), (62, .iload 6, 2), (64, .invokevirtual 102, 3), (67, .bipush 8, 2), (69, .idiv, 1), (70, .iload_n 1, 1), (71, .if_icmp .ne 22, 3), (74, .aload_n 0, 1), (75, .iload 4, 2), (77, .iload 6, 2), (79, .invokevirtual 105, 3), (82, .bipush 8, 2), (84, .idiv, 1), (85, .iload_n 2, 1), (86, .if_icmp .ne 7, 3), (89, .iconst 1, 1), (90, .goto 4, 3), (93, .iconst 0, 1), (94, .istore 5, 2), (96, .iinc 6 1, 3), (99, .goto (-56), 3), (102, .iload_n 3, 1), (103, .iload 5, 2), (105, .ifCond .eq 7, 3), (108, .iconst 1, 1), (109, .goto 4, 3), (112, .iconst 0, 1), (113, .iadd, 1)]
theorem cdX5_cell_0_ok : ∀ x ∈ cdX5_cell_0, decode prog_7_method_13_code x.1 = .ok x.2 := by decide +kernel
def cdX5_cell_1 : List (Nat × Instr × Nat) := [(114, .istore_n 3, 1), (115, .iinc 4 1, 3), (118, .goto (-90), 3), (121, .iload_n 3, 1), (122, .ireturn, 1)]
theorem cdX5_cell_1_ok : ∀ x ∈ cdX5_cell_1, decode prog_7_method_13_code x.1 = .ok x.2 := by decide +kernel
def cdX5_cell : List (Nat × Instr × Nat) := cdX5_cell_0 ++ (cdX5_cell_1)
theorem cdX5_cell_ok : ∀ x ∈ cdX5_cell, decode prog_7_method_13_code x.1 = .ok x.2 := fun x h => (List.mem_append.mp h).elim (fun h => cdX5_cell_0_ok x h) (fun h => cdX5_cell_1_ok x h)
def qX5_cell : MI := (RX5, yX5_cell, prog_7_method_13_code, 7, some .int, cdX5_cell, flX5, [], 3, 65)
theorem qX5_cell_ok : MOk qX5_cell := ⟨cdX5_cell_ok, flX5_ok, fun _ h => absurd h List.not_mem_nil, tw622, tw6, by decide +kernel, rfl, by decide +kernel, by decide +kernel⟩
def yX5_layFar : MethodName := ⟨RX5, "layFar", "()V"⟩
def cdX5_layFar_0 : List (Nat × Instr × Nat) := [(0, .iconst 0, 1), (1, .istore_n 1, 1), (2, .iload_n 1, 1), (3, .aload_n 0, 1), (4, .getfield 72, 3), (7, .if_icmp .ge 47, 3), (10, .iconst 0, 1), (11, .istore_n 2, 1), (12, .iload_n 2, 1), (13, .aload_n 0, 1), (14, .getfield 72, 3), (17, .if_icmp .ge 31, 3), (20, .aload_n 0, 1), (21, .getfield 34, 3), (24, .bipush 12, 2), (26, .iload_n 1, 1), (27, .imul, 1), (28, .iload_n 2, 1), (29, .iadd, 1), (30, .iload_n 1, 1), (31, .iload_n 2, 1), (32, .if_icmp .ne 7, 3), (35, .iconst 0, 1), (36, .goto 5, 3), (39, .ldc 108, 2), (41, .iastore, 1), (42, .iinc 2 1, 3), (45, .goto (-33), 3), (48, .iinc 1 1, 3), (51, .goto (-49), 3), (54, .iconst 0, 1), (55, .istore_n 1, 1), (56, .iload_n 1, 1), (57, .aload_n 0, 1), (58, .getfield 87, 3), (61, .if_icmp .ge 70, 3), (64, .aload_n 0, 1), (65, .getfield 34, 3), (68, .bipush 12, 2), (70, .aload_n 0, 1), (71, .getfield 16, 3), (74, .iload_n 1, 1), (75, .iaload, 1), (76, .imul, 1), (77, .aload_n 0, 1), (78, .getfield 19, 3), (81, .iload_n 1, 1), (82, .iaload, 1), (83, .iadd, 1), (84, .aload_n 0, 1), (85, .iload_n 1, 1), (86, .invokevirtual 98, 3), (89, .iastore, 1), (90, .aload_n 0, 1), (91, .getfield 22, 3), (94, .iload_n 1, 1), (95, .iaload, 1), (96, .ifCond .ne 29, 3), (99, .aload_n 0, 1), (100, .getfield 34, 3)]
theorem cdX5_layFar_0_ok : ∀ x ∈ cdX5_layFar_0, decode prog_7_method_14_code x.1 = .ok x.2 := by decide +kernel
def cdX5_layFar_1 : List (Nat × Instr × Nat) := [(103, .bipush 12, 2), (105, .aload_n 0, 1), (106, .getfield 19, 3), (109, .iload_n 1, 1), (110, .iaload, 1), (111, .imul, 1), (112, .aload_n 0, 1), (113, .getfield 16, 3), (116, .iload_n 1, 1), (117, .iaload, 1), (118, .iadd, 1), (119, .aload_n 0, 1), (120, .iload_n 1, 1), (121, .invokevirtual 98, 3), (124, .iastore, 1), (125, .iinc 1 1, 3), (128, .goto (-72), 3), (131, .iconst 0, 1), (132, .istore_n 1, 1), (133, .iload_n 1, 1), (134, .aload_n 0, 1), (135, .getfield 72, 3), (138, .if_icmp .ge 109, 3), (141, .iconst 0, 1), (142, .istore_n 2, 1), (143, .iload_n 2, 1), (144, .aload_n 0, 1), (145, .getfield 72, 3), (148, .if_icmp .ge 93, 3), (151, .iconst 0, 1), (152, .istore_n 3, 1), (153, .iload_n 3, 1), (154, .aload_n 0, 1), (155, .getfield 72, 3), (158, .if_icmp .ge 77, 3), (161, .aload_n 0, 1), (162, .getfield 34, 3), (165, .bipush 12, 2), (167, .iload_n 2, 1), (168, .imul, 1), (169, .iload_n 1, 1), (170, .iadd, 1), (171, .iaload, 1), (172, .aload_n 0, 1), (173, .getfield 34, 3), (176, .bipush 12, 2), (178, .iload_n 1, 1), (179, .imul, 1), (180, .iload_n 3, 1), (181, .iadd, 1), (182, .iaload, 1), (183, .iadd, 1), (184, .istore 4, 2), (186, .aload_n 0, 1), (187, .getfield 34, 3), (190, .bipush 12, 2), (192, .iload_n 2, 1), (193, .imul, 1), (194, .iload_n 3, 1), (195, .iadd, 1)]
theorem cdX5_layFar_1_ok : ∀ x ∈ cdX5_layFar_1, decode prog_7_method_14_code x.1 = .ok x.2 := by decide +kernel
def cdX5_layFar_2 : List (Nat × Instr × Nat) := [(196, .iload 4, 2), (198, .aload_n 0, 1), (199, .getfield 34, 3), (202, .bipush 12, 2), (204, .iload_n 2, 1), (205, .imul, 1), (206, .iload_n 3, 1), (207, .iadd, 1), (208, .iaload, 1), (209, .if_icmp .ge 8, 3), (212, .iload 4, 2), (214, .goto 14, 3), (217, .aload_n 0, 1), (218, .getfield 34, 3), (221, .bipush 12, 2), (223, .iload_n 2, 1), (224, .imul, 1), (225, .iload_n 3, 1), (226, .iadd, 1), (227, .iaload, 1), (228, .iastore, 1), (229, .iinc 3 1, 3), (232, .goto (-79), 3), (235, .iinc 2 1, 3), (238, .goto (-95), 3), (241, .iinc 1 1, 3), (244, .goto (-111), 3), (247, .return_, 1)]
theorem cdX5_layFar_2_ok : ∀ x ∈ cdX5_layFar_2, decode prog_7_method_14_code x.1 = .ok x.2 := by decide +kernel
def cdX5_layFar : List (Nat × Instr × Nat) := cdX5_layFar_0 ++ (cdX5_layFar_1 ++ (cdX5_layFar_2))
theorem cdX5_layFar_ok : ∀ x ∈ cdX5_layFar, decode prog_7_method_14_code x.1 = .ok x.2 := fun x h => (List.mem_append.mp h).elim (fun h => cdX5_layFar_0_ok x h) (fun h => (List.mem_append.mp h).elim (fun h => cdX5_layFar_1_ok x h) (fun h => cdX5_layFar_2_ok x h))
def qX5_layFar : MI := (RX5, yX5_layFar, prog_7_method_14_code, 5, none, cdX5_layFar, flX5, [(108, 1000000)], 3, 65)
theorem qX5_layFar_ok : MOk qX5_layFar := ⟨cdX5_layFar_ok, flX5_ok, List.forall_mem_cons.mpr ⟨⟨by decide, tw652⟩, fun _ h => absurd h List.not_mem_nil⟩, tw651, tw6, by decide +kernel, rfl, by decide +kernel, by decide +kernel⟩
def yX5_between : MethodName := ⟨RX5, "between", "(II)I"⟩
def cdX5_between_0 : List (Nat × Instr × Nat) := [(0, .aload_n 0, 1), (1, .iload_n 1, 1), (2, .invokevirtual 83, 3), (5, .ifCond .eq 11, 3), (8, .aload_n 0, 1), (9, .iload_n 2, 1), (10, .invokevirtual 83, 3), (13, .ifCond .ne 5, 3), (16, .iconst (-1), 1), (17, .ireturn, 1), (18, .aload_n 0, 1), (19, .invokevirtual 109, 3), (22, .aload_n 0, 1), (23, .getfield 34, 3), (26, .bipush 12, 2), (28, .iload_n 1, 1), (29, .imul, 1), (30, .iload_n 2, 1), (31, .iadd, 1), (32, .iaload, 1), (33, .ldc 108, 2), (35, .if_icmp .ge 17, 3), (38, .aload_n 0, 1), (39, .getfield 34, 3), (42, .bipush 12, 2), (44, .iload_n 1, 1), (45, .imul, 1), (46, .iload_n 2, 1), (47, .iadd, 1), (48, .iaload, 1), (49, .goto 5, 3), (52, .bipush (-6), 2), (54, .ireturn, 1)]
theorem cdX5_between_0_ok : ∀ x ∈ cdX5_between_0, decode prog_7_method_15_code x.1 = .ok x.2 := by decide +kernel
def cdX5_between : List (Nat × Instr × Nat) := cdX5_between_0
theorem cdX5_between_ok : ∀ x ∈ cdX5_between, decode prog_7_method_15_code x.1 = .ok x.2 := fun x h => cdX5_between_0_ok x h
def qX5_between : MI := (RX5, yX5_between, prog_7_method_15_code, 3, some .int, cdX5_between, flX5, [(108, 1000000)], 4, 89)
theorem qX5_between_ok : MOk qX5_between := ⟨cdX5_between_ok, flX5_ok, List.forall_mem_cons.mpr ⟨⟨by decide, tw652⟩, fun _ h => absurd h List.not_mem_nil⟩, tw647, tw6, by decide +kernel, rfl, by decide +kernel, by decide +kernel⟩
def yX5_isSpot : MethodName := ⟨RX5, "isSpot", "(I)Z"⟩
def cdX5_isSpot_0 : List (Nat × Instr × Nat) := [(0, .iload_n 1, 1), (1, .iconst 0, 1), (2, .bipush 100, 2), (4, .aload_n 0, 1), (5, .getfield 87, 3), (8, .imul, 1), (9, .iconst 1, 1), (10, .isub, 1), (11, .invokestatic 76, 3), (14, .ifCond .eq 22, 3), (17, .iload_n 1, 1), (18, .bipush 100, 2), (20, .irem, 1), (21, .aload_n 0, 1), (22, .iload_n 1, 1), (23, .bipush 100, 2), (25, .idiv, 1), (26, .invokevirtual 98, 3), (29, .if_icmp .gt 7, 3), (32, .iconst 1, 1), (33, .goto 4, 3), (36, .iconst 0, 1), (37, .ireturn, 1)]
theorem cdX5_isSpot_0_ok : ∀ x ∈ cdX5_isSpot_0, decode prog_7_method_16_code x.1 = .ok x.2 := by decide +kernel
def cdX5_isSpot : List (Nat × Instr × Nat) := cdX5_isSpot_0
theorem cdX5_isSpot_ok : ∀ x ∈ cdX5_isSpot, decode prog_7_method_16_code x.1 = .ok x.2 := fun x h => cdX5_isSpot_0_ok x h
def qX5_isSpot : MI := (RX5, yX5_isSpot, prog_7_method_16_code, 2, some .boolean, cdX5_isSpot, flX5, [], 3, 65)
theorem qX5_isSpot_ok : MOk qX5_isSpot := ⟨cdX5_isSpot_ok, flX5_ok, fun _ h => absurd h List.not_mem_nil, tw660, tw6, by decide +kernel, rfl, by decide +kernel, by decide +kernel⟩
def yX5_out : MethodName := ⟨RX5, "out", "(III)I"⟩
def cdX5_out_0 : List (Nat × Instr × Nat) := [(0, .iload_n 2, 1), (1, .bipush 100, 2), (3, .idiv, 1), (4, .istore 4, 2), (6, .iload_n 2, 1), (7, .bipush 100, 2), (9, .irem, 1), (10, .istore 5, 2), (12, .iload_n 3, 1), (13, .bipush 100, 2), (15, .idiv, 1), (16, .istore 6, 2), (18, .iload_n 3, 1), (19, .bipush 100, 2), (21, .irem, 1), (22, .istore 7, 2), (24, .iload_n 1, 1), (25, .ifCond .ne 40, 3), (28, .iload 4, 2), (30, .iload 6, 2), (32, .if_icmp .ne 30, 3), (35, .iload 7, 2), (37, .iload 5, 2), (39, .if_icmp .ge 13, 3), (42, .aload_n 0, 1), (43, .getfield 22, 3), (46, .iload 4, 2), (48, .iaload, 1), (49, .ifCond .ne 13, 3), (52, .iload 5, 2), (54, .iload 7, 2), (56, .invokestatic 68, 3), (59, .goto 5, 3), (62, .ldc 108, 2), (64, .ireturn, 1), (65, .iload_n 1, 1), (66, .iconst 3, 1), (67, .if_icmp .ge 7, 3), (70, .iconst 1, 1), (71, .goto 4, 3), (74, .iconst 0, 1), (75, .istore 8, 2), (77, .iload_n 1, 1), (78, .iconst 2, 1), (79, .irem, 1), (80, .ifCond .ne 7, 3), (83, .iconst 1, 1), (84, .goto 4, 3), (87, .iconst 0, 1), (88, .istore 9, 2), (90, .iload 8, 2), (92, .ifCond .eq 14, 3), (95, .aload_n 0, 1), (96, .getfield 22, 3), (99, .iload 4, 2), (101, .iaload, 1), (102, .iconst 1, 1), (103, .if_icmp .eq 19, 3), (106, .iload 9, 2), (108, .ifCond .eq 17, 3)]
theorem cdX5_out_0_ok : ∀ x ∈ cdX5_out_0, decode prog_7_method_17_code x.1 = .ok x.2 := by decide +kernel
def cdX5_out_1 : List (Nat × Instr × Nat) := [(111, .aload_n 0, 1), (112, .getfield 22, 3), (115, .iload 6, 2), (117, .iaload, 1), (118, .iconst 1, 1), (119, .if_icmp .ne 6, 3), (122, .ldc 108, 2), (124, .ireturn, 1), (125, .iload 8, 2), (127, .ifCond .eq 13, 3), (130, .aload_n 0, 1), (131, .getfield 16, 3), (134, .iload 4, 2), (136, .iaload, 1), (137, .goto 10, 3), (140, .aload_n 0, 1), (141, .getfield 19, 3), (144, .iload 4, 2), (146, .iaload, 1), (147, .istore 10, 2), (149, .iload 9, 2), (151, .ifCond .eq 13, 3), (154, .aload_n 0, 1), (155, .getfield 19, 3), (158, .iload 6, 2), (160, .iaload, 1), (161, .goto 10, 3), (164, .aload_n 0, 1), (165, .getfield 16, 3), (168, .iload 6, 2), (170, .iaload, 1), (171, .istore 11, 2), (173, .iload 8, 2), (175, .ifCond .eq 8, 3), (178, .iload 5, 2), (180, .goto 12, 3), (183, .aload_n 0, 1), (184, .iload 4, 2), (186, .invokevirtual 98, 3), (189, .iload 5, 2), (191, .isub, 1), (192, .aload_n 0, 1), (193, .getfield 34, 3), (196, .bipush 12, 2), (198, .iload 10, 2), (200, .imul, 1), (201, .iload 11, 2), (203, .iadd, 1), (204, .iaload, 1), (205, .iadd, 1), (206, .iload 9, 2), (208, .ifCond .eq 15, 3), (211, .aload_n 0, 1), (212, .iload 6, 2), (214, .invokevirtual 98, 3), (217, .iload 7, 2), (219, .isub, 1), (220, .goto 5, 3), (223, .iload 7, 2), (225, .iadd, 1)]
theorem cdX5_out_1_ok : ∀ x ∈ cdX5_out_1, decode prog_7_method_17_code x.1 = .ok x.2 := by decide +kernel
def cdX5_out_2 : List (Nat × Instr × Nat) := [(226, .istore 12, 2), (228, .iload 12, 2), (230, .ldc 108, 2), (232, .if_icmp .ge 8, 3), (235, .iload 12, 2), (237, .goto 5, 3), (240, .ldc 108, 2), (242, .ireturn, 1)]
theorem cdX5_out_2_ok : ∀ x ∈ cdX5_out_2, decode prog_7_method_17_code x.1 = .ok x.2 := by decide +kernel
def cdX5_out : List (Nat × Instr × Nat) := cdX5_out_0 ++ (cdX5_out_1 ++ (cdX5_out_2))
theorem cdX5_out_ok : ∀ x ∈ cdX5_out, decode prog_7_method_17_code x.1 = .ok x.2 := fun x h => (List.mem_append.mp h).elim (fun h => cdX5_out_0_ok x h) (fun h => (List.mem_append.mp h).elim (fun h => cdX5_out_1_ok x h) (fun h => cdX5_out_2_ok x h))
def qX5_out : MI := (RX5, yX5_out, prog_7_method_17_code, 13, some .int, cdX5_out, flX5, [(108, 1000000)], 3, 65)
theorem qX5_out_ok : MOk qX5_out := ⟨cdX5_out_ok, flX5_ok, List.forall_mem_cons.mpr ⟨⟨by decide, tw652⟩, fun _ h => absurd h List.not_mem_nil⟩, tw672, tw6, by decide +kernel, rfl, by decide +kernel, by decide +kernel⟩
def yX5_leastOut : MethodName := ⟨RX5, "leastOut", "(II)I"⟩
def cdX5_leastOut_0 : List (Nat × Instr × Nat) := [(0, .bipush (-6), 2), (2, .istore_n 3, 1), (3, .iconst 0, 1), (4, .istore 4, 2), (6, .iload 4, 2), (8, .iconst 5, 1), (9, .if_icmp .ge 49, 3), (12, .aload_n 0, 1), (13, .iload 4, 2), (15, .iload_n 1, 1), (16, .iload_n 2, 1), (17, .invokevirtual 112, 3), (20, .istore 5, 2), (22, .iload 5, 2), (24, .ldc 108, 2), (26, .if_icmp .ge 24, 3), (29, .iload_n 3, 1), (30, .ifCond .lt 15, 3), (33, .iload 5, 2), (35, .aload_n 0, 1), (36, .iload_n 3, 1), (37, .iload_n 1, 1), (38, .iload_n 2, 1), (39, .invokevirtual 112, 3), (42, .if_icmp .ge 8, 3), (45, .iload 4, 2), (47, .goto 4, 3), (50, .iload_n 3, 1), (51, .istore_n 3, 1), (52, .iinc 4 1, 3), (55, .goto (-49), 3), (58, .iload_n 3, 1), (59, .ireturn, 1)]
theorem cdX5_leastOut_0_ok : ∀ x ∈ cdX5_leastOut_0, decode prog_7_method_18_code x.1 = .ok x.2 := by decide +kernel
def cdX5_leastOut : List (Nat × Instr × Nat) := cdX5_leastOut_0
theorem cdX5_leastOut_ok : ∀ x ∈ cdX5_leastOut, decode prog_7_method_18_code x.1 = .ok x.2 := fun x h => cdX5_leastOut_0_ok x h
def qX5_leastOut : MI := (RX5, yX5_leastOut, prog_7_method_18_code, 6, some .int, cdX5_leastOut, flX5, [(108, 1000000)], 4, 97)
theorem qX5_leastOut_ok : MOk qX5_leastOut := ⟨cdX5_leastOut_ok, flX5_ok, List.forall_mem_cons.mpr ⟨⟨by decide, tw652⟩, fun _ h => absurd h List.not_mem_nil⟩, tw668, tw6, by decide +kernel, rfl, by decide +kernel, by decide +kernel⟩
def yX5_wayOf : MethodName := ⟨RX5, "wayOf", "(II)I"⟩
def cdX5_wayOf_0 : List (Nat × Instr × Nat) := [(0, .aload_n 0, 1), (1, .iload_n 1, 1), (2, .iload_n 2, 1), (3, .invokevirtual 115, 3), (6, .istore_n 3, 1), (7, .iload_n 3, 1), (8, .ifCond .ge 8, 3), (11, .bipush (-6), 2), (13, .goto 10, 3), (16, .aload_n 0, 1), (17, .iload_n 3, 1), (18, .iload_n 1, 1), (19, .iload_n 2, 1), (20, .invokevirtual 112, 3), (23, .ireturn, 1)]
theorem cdX5_wayOf_0_ok : ∀ x ∈ cdX5_wayOf_0, decode prog_7_method_19_code x.1 = .ok x.2 := by decide +kernel
def cdX5_wayOf : List (Nat × Instr × Nat) := cdX5_wayOf_0
theorem cdX5_wayOf_ok : ∀ x ∈ cdX5_wayOf, decode prog_7_method_19_code x.1 = .ok x.2 := fun x h => cdX5_wayOf_0_ok x h
def qX5_wayOf : MI := (RX5, yX5_wayOf, prog_7_method_19_code, 4, some .int, cdX5_wayOf, flX5, [], 5, 122)
theorem qX5_wayOf_ok : MOk qX5_wayOf := ⟨cdX5_wayOf_ok, flX5_ok, fun _ h => absurd h List.not_mem_nil, tw664, tw6, by decide +kernel, rfl, by decide +kernel, by decide +kernel⟩
def yX5_way : MethodName := ⟨RX5, "way", "(II)I"⟩
def cdX5_way_0 : List (Nat × Instr × Nat) := [(0, .aload_n 0, 1), (1, .iload_n 1, 1), (2, .invokevirtual 118, 3), (5, .ifCond .eq 11, 3), (8, .aload_n 0, 1), (9, .iload_n 2, 1), (10, .invokevirtual 118, 3), (13, .ifCond .ne 5, 3), (16, .iconst (-1), 1), (17, .ireturn, 1), (18, .aload_n 0, 1), (19, .invokevirtual 109, 3), (22, .aload_n 0, 1), (23, .iload_n 1, 1), (24, .iload_n 2, 1), (25, .invokevirtual 121, 3), (28, .ireturn, 1)]
theorem cdX5_way_0_ok : ∀ x ∈ cdX5_way_0, decode prog_7_method_20_code x.1 = .ok x.2 := by decide +kernel
def cdX5_way : List (Nat × Instr × Nat) := cdX5_way_0
theorem cdX5_way_ok : ∀ x ∈ cdX5_way, decode prog_7_method_20_code x.1 = .ok x.2 := fun x h => cdX5_way_0_ok x h
def qX5_way : MI := (RX5, yX5_way, prog_7_method_20_code, 3, some .int, cdX5_way, flX5, [], 6, 145)
theorem qX5_way_ok : MOk qX5_way := ⟨cdX5_way_ok, flX5_ok, fun _ h => absurd h List.not_mem_nil, tw656, tw6, by decide +kernel, rfl, by decide +kernel, by decide +kernel⟩
def yX5_fix : MethodName := ⟨RX5, "fix", "(II)I"⟩
def cdX5_fix_0 : List (Nat × Instr × Nat) := [(0, .iload_n 1, 1), (1, .iconst 0, 1), (2, .bipush 63, 2), (4, .invokestatic 76, 3), (7, .ifCond .eq 13, 3), (10, .iload_n 2, 1), (11, .iconst 0, 1), (12, .bipush 63, 2), (14, .invokestatic 76, 3), (17, .ifCond .ne 6, 3), (20, .bipush (-2), 2), (22, .ireturn, 1), (23, .aload_n 0, 1), (24, .getfield 80, 3), (27, .bipush 16, 2), (29, .if_icmp .ne 6, 3), (32, .bipush (-4), 2), (34, .ireturn, 1), (35, .aload_n 0, 1), (36, .getfield 28, 3), (39, .aload_n 0, 1), (40, .getfield 80, 3), (43, .iload_n 1, 1), (44, .iastore, 1), (45, .aload_n 0, 1), (46, .getfield 31, 3), (49, .aload_n 0, 1), (50, .getfield 80, 3), (53, .iload_n 2, 1), (54, .iastore, 1), (55, .aload_n 0, 1), (56, .dup, 1), (57, .getfield 80, 3), (60, .iconst 1, 1), (61, .iadd, 1), (62, .putfield 80, 3), (65, .aload_n 0, 1), (66, .getfield 80, 3), (69, .ireturn, 1)]
theorem cdX5_fix_0_ok : ∀ x ∈ cdX5_fix_0, decode prog_7_method_21_code x.1 = .ok x.2 := by decide +kernel
def cdX5_fix : List (Nat × Instr × Nat) := cdX5_fix_0
theorem cdX5_fix_ok : ∀ x ∈ cdX5_fix, decode prog_7_method_21_code x.1 = .ok x.2 := fun x h => cdX5_fix_0_ok x h
def qX5_fix : MI := (RX5, yX5_fix, prog_7_method_21_code, 3, some .int, cdX5_fix, flX5, [], 1, 22)
theorem qX5_fix_ok : MOk qX5_fix := ⟨cdX5_fix_ok, flX5_ok, fun _ h => absurd h List.not_mem_nil, tw676, tw6, by decide +kernel, rfl, by decide +kernel, by decide +kernel⟩
def yX5_drop : MethodName := ⟨RX5, "drop", "()I"⟩
def cdX5_drop_0 : List (Nat × Instr × Nat) := [(0, .aload_n 0, 1), (1, .getfield 80, 3), (4, .ifCond .ne 6, 3), (7, .bipush (-5), 2), (9, .ireturn, 1), (10, .aload_n 0, 1), (11, .dup, 1), (12, .getfield 80, 3), (15, .iconst 1, 1), (16, .isub, 1), (17, .putfield 80, 3), (20, .aload_n 0, 1), (21, .getfield 80, 3), (24, .ireturn, 1)]
theorem cdX5_drop_0_ok : ∀ x ∈ cdX5_drop_0, decode prog_7_method_22_code x.1 = .ok x.2 := by decide +kernel
def cdX5_drop : List (Nat × Instr × Nat) := cdX5_drop_0
theorem cdX5_drop_ok : ∀ x ∈ cdX5_drop, decode prog_7_method_22_code x.1 = .ok x.2 := fun x h => cdX5_drop_0_ok x h
def qX5_drop : MI := (RX5, yX5_drop, prog_7_method_22_code, 1, some .int, cdX5_drop, flX5, [], 0, 0)
theorem qX5_drop_ok : MOk qX5_drop := ⟨cdX5_drop_ok, flX5_ok, fun _ h => absurd h List.not_mem_nil, tw680, tw6, by decide +kernel, rfl, by decide +kernel, by decide +kernel⟩
def yX5_nearest : MethodName := ⟨RX5, "nearest", "(III)I"⟩
def cdX5_nearest_0 : List (Nat × Instr × Nat) := [(0, .iconst 0, 1), (1, .istore 4, 2), (3, .iconst 1, 1), (4, .istore 5, 2), (6, .iload 5, 2), (8, .aload_n 0, 1), (9, .iload_n 1, 1), (10, .invokevirtual 98, 3), (13, .if_icmp .gt 54, 3), (16, .aload_n 0, 1), (17, .iload_n 1, 1), (18, .iload 5, 2), (20, .invokevirtual 102, 3), (23, .aload_n 0, 1), (24, .iload_n 1, 1), (25, .iload 5, 2), (27, .invokevirtual 105, 3), (30, .iload_n 2, 1), (31, .iload_n 3, 1), (32, .invokestatic 90, 3), (35, .aload_n 0, 1), (36, .iload_n 1, 1), (37, .iload 4, 2), (39, .invokevirtual 102, 3), (42, .aload_n 0, 1), (43, .iload_n 1, 1), (44, .iload 4, 2), (46, .invokevirtual 105, 3), (49, .iload_n 2, 1), (50, .iload_n 3, 1), (51, .invokestatic 90, 3), (54, .if_icmp .ge 7, 3), (57, .iload 5, 2), (59, .istore 4, 2), (61, .iinc 5 1, 3), (64, .goto (-58), 3), (67, .iload 4, 2), (69, .ireturn, 1)]
theorem cdX5_nearest_0_ok : ∀ x ∈ cdX5_nearest_0, decode prog_7_method_23_code x.1 = .ok x.2 := by decide +kernel
def cdX5_nearest : List (Nat × Instr × Nat) := cdX5_nearest_0
theorem cdX5_nearest_ok : ∀ x ∈ cdX5_nearest, decode prog_7_method_23_code x.1 = .ok x.2 := fun x h => cdX5_nearest_0_ok x h
def qX5_nearest : MI := (RX5, yX5_nearest, prog_7_method_23_code, 6, some .int, cdX5_nearest, flX5, [], 3, 65)
theorem qX5_nearest_ok : MOk qX5_nearest := ⟨cdX5_nearest_ok, flX5_ok, fun _ h => absurd h List.not_mem_nil, tw700, tw6, by decide +kernel, rfl, by decide +kernel, by decide +kernel⟩
def yX5_layCandidates : MethodName := ⟨RX5, "layCandidates", "(I)V"⟩
def cdX5_layCandidates_0 : List (Nat × Instr × Nat) := [(0, .aload_n 0, 1), (1, .getfield 49, 3), (4, .iload_n 1, 1), (5, .iconst 0, 1), (6, .iastore, 1), (7, .iconst 0, 1), (8, .istore_n 2, 1), (9, .iload_n 2, 1), (10, .aload_n 0, 1), (11, .getfield 87, 3), (14, .if_icmp .ge 117, 3), (17, .aload_n 0, 1), (18, .iload_n 2, 1), (19, .aload_n 0, 1), (20, .getfield 28, 3), (23, .iload_n 1, 1), (24, .iaload, 1), (25, .aload_n 0, 1), (26, .getfield 31, 3), (29, .iload_n 1, 1), (30, .iaload, 1), (31, .invokevirtual 124, 3), (34, .istore_n 3, 1), (35, .aload_n 0, 1), (36, .iload_n 2, 1), (37, .iload_n 3, 1), (38, .invokevirtual 102, 3), (41, .aload_n 0, 1), (42, .iload_n 2, 1), (43, .iload_n 3, 1), (44, .invokevirtual 105, 3), (47, .aload_n 0, 1), (48, .getfield 28, 3), (51, .iload_n 1, 1), (52, .iaload, 1), (53, .aload_n 0, 1), (54, .getfield 31, 3), (57, .iload_n 1, 1), (58, .iaload, 1), (59, .invokestatic 90, 3), (62, .istore 4, 2), (64, .iload 4, 2), (66, .aload_n 0, 1), (67, .getfield 25, 3), (70, .iconst 0, 1), (71, .iaload, 1), (72, .if_icmp .gt 53, 3), (75, .aload_n 0, 1), (76, .getfield 37, 3), (79, .bipush 20, 2), (81, .iload_n 1, 1), (82, .imul, 1), (83, .aload_n 0, 1), (84, .getfield 49, 3), (87, .iload_n 1, 1), (88, .iaload, 1), (89, .iadd, 1), (90, .bipush 100, 2), (92, .iload_n 2, 1), (93, .imul, 1)]
theorem cdX5_layCandidates_0_ok : ∀ x ∈ cdX5_layCandidates_0, decode prog_7_method_24_code x.1 = .ok x.2 := by decide +kernel
def cdX5_layCandidates_1 : List (Nat × Instr × Nat) := [(94, .iload_n 3, 1), (95, .iadd, 1), (96, .iastore, 1), (97, .aload_n 0, 1), (98, .getfield 40, 3), (101, .bipush 20, 2), (103, .iload_n 1, 1), (104, .imul, 1), (105, .aload_n 0, 1), (106, .getfield 49, 3), (109, .iload_n 1, 1), (110, .iaload, 1), (111, .iadd, 1), (112, .iload 4, 2), (114, .iastore, 1), (115, .aload_n 0, 1), (116, .getfield 49, 3), (119, .iload_n 1, 1), (120, .dup2, 1), (121, .iaload, 1), (122, .iconst 1, 1), (123, .iadd, 1), (124, .iastore, 1), (125, .iinc 2 1, 3), (128, .goto (-119), 3), (131, .return_, 1)]
theorem cdX5_layCandidates_1_ok : ∀ x ∈ cdX5_layCandidates_1, decode prog_7_method_24_code x.1 = .ok x.2 := by decide +kernel
def cdX5_layCandidates : List (Nat × Instr × Nat) := cdX5_layCandidates_0 ++ (cdX5_layCandidates_1)
theorem cdX5_layCandidates_ok : ∀ x ∈ cdX5_layCandidates, decode prog_7_method_24_code x.1 = .ok x.2 := fun x h => (List.mem_append.mp h).elim (fun h => cdX5_layCandidates_0_ok x h) (fun h => cdX5_layCandidates_1_ok x h)
def qX5_layCandidates : MI := (RX5, yX5_layCandidates, prog_7_method_24_code, 5, none, cdX5_layCandidates, flX5, [], 4, 90)
theorem qX5_layCandidates_ok : MOk qX5_layCandidates := ⟨cdX5_layCandidates_ok, flX5_ok, fun _ h => absurd h List.not_mem_nil, tw696, tw6, by decide +kernel, rfl, by decide +kernel, by decide +kernel⟩
def yX5_goOn : MethodName := ⟨RX5, "goOn", "(II)Z"⟩
def cdX5_goOn_0 : List (Nat × Instr × Nat) := [(0, .aload_n 0, 1), (1, .getfield 28, 3), (4, .iload_n 1, 1), (5, .iaload, 1), (6, .aload_n 0, 1), (7, .getfield 31, 3), (10, .iload_n 1, 1), (11, .iaload, 1), (12, .aload_n 0, 1), (13, .getfield 28, 3), (16, .iload_n 2, 1), (17, .iaload, 1), (18, .aload_n 0, 1), (19, .getfield 31, 3), (22, .iload_n 2, 1), (23, .iaload, 1), (24, .invokestatic 90, 3), (27, .istore_n 3, 1), (28, .iconst 0, 1), (29, .istore 4, 2), (31, .bipush 20, 2), (33, .iload_n 1, 1), (34, .imul, 1), (35, .istore 5, 2), (37, .iload 5, 2), (39, .bipush 20, 2), (41, .iload_n 1, 1), (42, .imul, 1), (43, .aload_n 0, 1), (44, .getfield 49, 3), (47, .iload_n 1, 1), (48, .iaload, 1), (49, .iadd, 1), (50, .if_icmp .ge 213, 3), (53, .aload_n 0, 1), (54, .getfield 43, 3), (57, .iload 5, 2), (59, .bipush (-6), 2), (61, .iastore, 1), (62, .aload_n 0, 1), (63, .getfield 46, 3), (66, .iload 5, 2), (68, .bipush (-6), 2), (70, .iastore, 1), (71, .bipush 20, 2), (73, .iload_n 2, 1), (74, .imul, 1), (75, .istore 6, 2), (77, .iload 6, 2), (79, .bipush 20, 2), (81, .iload_n 2, 1), (82, .imul, 1), (83, .aload_n 0, 1), (84, .getfield 49, 3), (87, .iload_n 2, 1), (88, .iaload, 1), (89, .iadd, 1), (90, .if_icmp .ge 145, 3), (93, .aload_n 0, 1), (94, .getfield 43, 3)]
theorem cdX5_goOn_0_ok : ∀ x ∈ cdX5_goOn_0, decode prog_7_method_25_code x.1 = .ok x.2 := by decide +kernel
def cdX5_goOn_1 : List (Nat × Instr × Nat) := [(97, .iload 6, 2), (99, .iaload, 1), (100, .ifCond .ge 8, 3), (103, .bipush (-6), 2), (105, .goto 21, 3), (108, .aload_n 0, 1), (109, .aload_n 0, 1), (110, .getfield 37, 3), (113, .iload 6, 2), (115, .iaload, 1), (116, .aload_n 0, 1), (117, .getfield 37, 3), (120, .iload 5, 2), (122, .iaload, 1), (123, .invokevirtual 121, 3), (126, .istore 7, 2), (128, .iload 7, 2), (130, .ifCond .lt 99, 3), (133, .iload 7, 2), (135, .iload_n 3, 1), (136, .aload_n 0, 1), (137, .getfield 25, 3), (140, .iconst 3, 1), (141, .iaload, 1), (142, .iadd, 1), (143, .if_icmp .gt 86, 3), (146, .aload_n 0, 1), (147, .getfield 43, 3), (150, .iload 6, 2), (152, .iaload, 1), (153, .aload_n 0, 1), (154, .getfield 25, 3), (157, .iconst 2, 1), (158, .iaload, 1), (159, .iload 7, 2), (161, .iload_n 3, 1), (162, .invokestatic 68, 3), (165, .imul, 1), (166, .iadd, 1), (167, .aload_n 0, 1), (168, .getfield 25, 3), (171, .iconst 1, 1), (172, .iaload, 1), (173, .aload_n 0, 1), (174, .getfield 40, 3), (177, .iload 5, 2), (179, .iaload, 1), (180, .imul, 1), (181, .iadd, 1), (182, .istore 8, 2), (184, .aload_n 0, 1), (185, .getfield 43, 3), (188, .iload 5, 2), (190, .iaload, 1), (191, .ifCond .lt 15, 3), (194, .iload 8, 2), (196, .aload_n 0, 1), (197, .getfield 43, 3), (200, .iload 5, 2), (202, .iaload, 1)]
theorem cdX5_goOn_1_ok : ∀ x ∈ cdX5_goOn_1, decode prog_7_method_25_code x.1 = .ok x.2 := by decide +kernel
def cdX5_goOn_2 : List (Nat × Instr × Nat) := [(203, .if_icmp .ge 26, 3), (206, .aload_n 0, 1), (207, .getfield 43, 3), (210, .iload 5, 2), (212, .iload 8, 2), (214, .iastore, 1), (215, .aload_n 0, 1), (216, .getfield 46, 3), (219, .iload 5, 2), (221, .iload 6, 2), (223, .bipush 20, 2), (225, .iload_n 2, 1), (226, .imul, 1), (227, .isub, 1), (228, .iastore, 1), (229, .iinc 6 1, 3), (232, .goto (-155), 3), (235, .iload 4, 2), (237, .ifCond .ne 13, 3), (240, .aload_n 0, 1), (241, .getfield 43, 3), (244, .iload 5, 2), (246, .iaload, 1), (247, .ifCond .lt 7, 3), (250, .iconst 1, 1), (251, .goto 4, 3), (254, .iconst 0, 1), (255, .istore 4, 2), (257, .iinc 5 1, 3), (260, .goto (-223), 3), (263, .iload 4, 2), (265, .ireturn, 1)]
theorem cdX5_goOn_2_ok : ∀ x ∈ cdX5_goOn_2, decode prog_7_method_25_code x.1 = .ok x.2 := by decide +kernel
def cdX5_goOn : List (Nat × Instr × Nat) := cdX5_goOn_0 ++ (cdX5_goOn_1 ++ (cdX5_goOn_2))
theorem cdX5_goOn_ok : ∀ x ∈ cdX5_goOn, decode prog_7_method_25_code x.1 = .ok x.2 := fun x h => (List.mem_append.mp h).elim (fun h => cdX5_goOn_0_ok x h) (fun h => (List.mem_append.mp h).elim (fun h => cdX5_goOn_1_ok x h) (fun h => cdX5_goOn_2_ok x h))
def qX5_goOn : MI := (RX5, yX5_goOn, prog_7_method_25_code, 9, some .boolean, cdX5_goOn, flX5, [], 6, 145)
theorem qX5_goOn_ok : MOk qX5_goOn := ⟨cdX5_goOn_ok, flX5_ok, fun _ h => absurd h List.not_mem_nil, tw704, tw6, by decide +kernel, rfl, by decide +kernel, by decide +kernel⟩
def yX5_begin : MethodName := ⟨RX5, "begin", "(I)V"⟩
def cdX5_begin_0 : List (Nat × Instr × Nat) := [(0, .bipush 20, 2), (2, .iload_n 1, 1), (3, .imul, 1), (4, .istore_n 2, 1), (5, .iload_n 2, 1), (6, .bipush 20, 2), (8, .iload_n 1, 1), (9, .imul, 1), (10, .aload_n 0, 1), (11, .getfield 49, 3), (14, .iload_n 1, 1), (15, .iaload, 1), (16, .iadd, 1), (17, .if_icmp .ge 36, 3), (20, .aload_n 0, 1), (21, .getfield 43, 3), (24, .iload_n 2, 1), (25, .aload_n 0, 1), (26, .getfield 25, 3), (29, .iconst 1, 1), (30, .iaload, 1), (31, .aload_n 0, 1), (32, .getfield 40, 3), (35, .iload_n 2, 1), (36, .iaload, 1), (37, .imul, 1), (38, .iastore, 1), (39, .aload_n 0, 1), (40, .getfield 46, 3), (43, .iload_n 2, 1), (44, .bipush (-6), 2), (46, .iastore, 1), (47, .iinc 2 1, 3), (50, .goto (-45), 3), (53, .aload_n 0, 1), (54, .getfield 55, 3), (57, .iload_n 1, 1), (58, .bipush (-6), 2), (60, .iastore, 1), (61, .aload_n 0, 1), (62, .dup, 1), (63, .getfield 127, 3), (66, .iconst 1, 1), (67, .iadd, 1), (68, .putfield 127, 3), (71, .return_, 1)]
theorem cdX5_begin_0_ok : ∀ x ∈ cdX5_begin_0, decode prog_7_method_26_code x.1 = .ok x.2 := by decide +kernel
def cdX5_begin : List (Nat × Instr × Nat) := cdX5_begin_0
theorem cdX5_begin_ok : ∀ x ∈ cdX5_begin, decode prog_7_method_26_code x.1 = .ok x.2 := fun x h => cdX5_begin_0_ok x h
def qX5_begin : MI := (RX5, yX5_begin, prog_7_method_26_code, 3, none, cdX5_begin, flX5, [], 0, 0)
theorem qX5_begin_ok : MOk qX5_begin := ⟨cdX5_begin_ok, flX5_ok, fun _ h => absurd h List.not_mem_nil, tw708, tw6, by decide +kernel, rfl, by decide +kernel, by decide +kernel⟩
def yX5_layAll : MethodName := ⟨RX5, "layAll", "()V"⟩
def cdX5_layAll_0 : List (Nat × Instr × Nat) := [(0, .aload_n 0, 1), (1, .invokevirtual 109, 3), (4, .aload_n 0, 1), (5, .iconst 0, 1), (6, .putfield 127, 3), (9, .bipush (-6), 2), (11, .istore_n 1, 1), (12, .iconst 0, 1), (13, .istore_n 2, 1), (14, .iload_n 2, 1), (15, .aload_n 0, 1), (16, .getfield 80, 3), (19, .if_icmp .ge 70, 3), (22, .aload_n 0, 1), (23, .iload_n 2, 1), (24, .invokevirtual 130, 3), (27, .aload_n 0, 1), (28, .getfield 52, 3), (31, .iload_n 2, 1), (32, .bipush (-6), 2), (34, .iastore, 1), (35, .aload_n 0, 1), (36, .getfield 49, 3), (39, .iload_n 2, 1), (40, .iaload, 1), (41, .ifCond .le 42, 3), (44, .aload_n 0, 1), (45, .getfield 55, 3), (48, .iload_n 2, 1), (49, .iload_n 1, 1), (50, .iastore, 1), (51, .iload_n 1, 1), (52, .ifCond .lt 12, 3), (55, .aload_n 0, 1), (56, .iload_n 2, 1), (57, .iload_n 1, 1), (58, .invokevirtual 134, 3), (61, .ifCond .ne 8, 3), (64, .aload_n 0, 1), (65, .iload_n 2, 1), (66, .invokevirtual 138, 3), (69, .aload_n 0, 1), (70, .getfield 52, 3), (73, .iload_n 2, 1), (74, .aload_n 0, 1), (75, .getfield 127, 3), (78, .iconst 1, 1), (79, .isub, 1), (80, .iastore, 1), (81, .iload_n 2, 1), (82, .istore_n 1, 1), (83, .iinc 2 1, 3), (86, .goto (-72), 3), (89, .aload_n 0, 1), (90, .getfield 80, 3), (93, .iconst 1, 1), (94, .isub, 1), (95, .istore_n 2, 1), (96, .iload_n 2, 1), (97, .ifCond .lt 58, 3)]
theorem cdX5_layAll_0_ok : ∀ x ∈ cdX5_layAll_0, decode prog_7_method_27_code x.1 = .ok x.2 := by decide +kernel
def cdX5_layAll_1 : List (Nat × Instr × Nat) := [(100, .aload_n 0, 1), (101, .iload_n 2, 1), (102, .invokevirtual 141, 3), (105, .istore_n 3, 1), (106, .aload_n 0, 1), (107, .getfield 52, 3), (110, .iload_n 2, 1), (111, .iaload, 1), (112, .ifCond .lt 37, 3), (115, .aload_n 0, 1), (116, .getfield 58, 3), (119, .iload_n 2, 1), (120, .iload_n 3, 1), (121, .ifCond .lt 22, 3), (124, .aload_n 0, 1), (125, .getfield 46, 3), (128, .bipush 20, 2), (130, .iload_n 3, 1), (131, .imul, 1), (132, .aload_n 0, 1), (133, .getfield 58, 3), (136, .iload_n 3, 1), (137, .iaload, 1), (138, .iadd, 1), (139, .iaload, 1), (140, .goto 8, 3), (143, .aload_n 0, 1), (144, .iload_n 2, 1), (145, .invokevirtual 144, 3), (148, .iastore, 1), (149, .iinc 2 (-1), 3), (152, .goto (-56), 3), (155, .return_, 1)]
theorem cdX5_layAll_1_ok : ∀ x ∈ cdX5_layAll_1, decode prog_7_method_27_code x.1 = .ok x.2 := by decide +kernel
def cdX5_layAll : List (Nat × Instr × Nat) := cdX5_layAll_0 ++ (cdX5_layAll_1)
theorem cdX5_layAll_ok : ∀ x ∈ cdX5_layAll, decode prog_7_method_27_code x.1 = .ok x.2 := fun x h => (List.mem_append.mp h).elim (fun h => cdX5_layAll_0_ok x h) (fun h => cdX5_layAll_1_ok x h)
def qX5_layAll : MI := (RX5, yX5_layAll, prog_7_method_27_code, 4, none, cdX5_layAll, flX5, [], 7, 173)
theorem qX5_layAll_ok : MOk qX5_layAll := ⟨cdX5_layAll_ok, flX5_ok, fun _ h => absurd h List.not_mem_nil, tw692, tw6, by decide +kernel, rfl, by decide +kernel, by decide +kernel⟩
def yX5_next : MethodName := ⟨RX5, "next", "(I)I"⟩
def cdX5_next_0 : List (Nat × Instr × Nat) := [(0, .iload_n 1, 1), (1, .iconst 1, 1), (2, .iadd, 1), (3, .istore_n 2, 1), (4, .iload_n 2, 1), (5, .aload_n 0, 1), (6, .getfield 80, 3), (9, .if_icmp .ge 40, 3), (12, .aload_n 0, 1), (13, .getfield 52, 3), (16, .iload_n 2, 1), (17, .iaload, 1), (18, .ifCond .lt 25, 3), (21, .aload_n 0, 1), (22, .getfield 52, 3), (25, .iload_n 2, 1), (26, .iaload, 1), (27, .aload_n 0, 1), (28, .getfield 52, 3), (31, .iload_n 1, 1), (32, .iaload, 1), (33, .if_icmp .ne 7, 3), (36, .iload_n 2, 1), (37, .goto 5, 3), (40, .bipush (-6), 2), (42, .ireturn, 1), (43, .iinc 2 1, 3), (46, .goto (-42), 3), (49, .bipush (-6), 2), (51, .ireturn, 1)]
theorem cdX5_next_0_ok : ∀ x ∈ cdX5_next_0, decode prog_7_method_28_code x.1 = .ok x.2 := by decide +kernel
def cdX5_next : List (Nat × Instr × Nat) := cdX5_next_0
theorem cdX5_next_ok : ∀ x ∈ cdX5_next, decode prog_7_method_28_code x.1 = .ok x.2 := fun x h => cdX5_next_0_ok x h
def qX5_next : MI := (RX5, yX5_next, prog_7_method_28_code, 3, some .int, cdX5_next, flX5, [], 0, 0)
theorem qX5_next_ok : MOk qX5_next := ⟨cdX5_next_ok, flX5_ok, fun _ h => absurd h List.not_mem_nil, tw712, tw6, by decide +kernel, rfl, by decide +kernel, by decide +kernel⟩
def yX5_leastAt : MethodName := ⟨RX5, "leastAt", "(I)I"⟩
def cdX5_leastAt_0 : List (Nat × Instr × Nat) := [(0, .bipush (-6), 2), (2, .istore_n 2, 1), (3, .iconst 0, 1), (4, .istore_n 3, 1), (5, .iload_n 3, 1), (6, .aload_n 0, 1), (7, .getfield 49, 3), (10, .iload_n 1, 1), (11, .iaload, 1), (12, .if_icmp .ge 53, 3), (15, .aload_n 0, 1), (16, .getfield 43, 3), (19, .bipush 20, 2), (21, .iload_n 1, 1), (22, .imul, 1), (23, .iload_n 3, 1), (24, .iadd, 1), (25, .iaload, 1), (26, .istore 4, 2), (28, .iload 4, 2), (30, .ifCond .lt 27, 3), (33, .iload_n 2, 1), (34, .ifCond .lt 19, 3), (37, .iload 4, 2), (39, .aload_n 0, 1), (40, .getfield 43, 3), (43, .bipush 20, 2), (45, .iload_n 1, 1), (46, .imul, 1), (47, .iload_n 2, 1), (48, .iadd, 1), (49, .iaload, 1), (50, .if_icmp .ge 7, 3), (53, .iload_n 3, 1), (54, .goto 4, 3), (57, .iload_n 2, 1), (58, .istore_n 2, 1), (59, .iinc 3 1, 3), (62, .goto (-57), 3), (65, .iload_n 2, 1), (66, .ireturn, 1)]
theorem cdX5_leastAt_0_ok : ∀ x ∈ cdX5_leastAt_0, decode prog_7_method_29_code x.1 = .ok x.2 := by decide +kernel
def cdX5_leastAt : List (Nat × Instr × Nat) := cdX5_leastAt_0
theorem cdX5_leastAt_ok : ∀ x ∈ cdX5_leastAt, decode prog_7_method_29_code x.1 = .ok x.2 := fun x h => cdX5_leastAt_0_ok x h
def qX5_leastAt : MI := (RX5, yX5_leastAt, prog_7_method_29_code, 5, some .int, cdX5_leastAt, flX5, [], 0, 0)
theorem qX5_leastAt_ok : MOk qX5_leastAt := ⟨cdX5_leastAt_ok, flX5_ok, fun _ h => absurd h List.not_mem_nil, tw716, tw6, by decide +kernel, rfl, by decide +kernel, by decide +kernel⟩
def yX5_isFix : MethodName := ⟨RX5, "isFix", "(I)Z"⟩
def cdX5_isFix_0 : List (Nat × Instr × Nat) := [(0, .iload_n 1, 1), (1, .iconst 0, 1), (2, .aload_n 0, 1), (3, .getfield 80, 3), (6, .iconst 1, 1), (7, .isub, 1), (8, .invokestatic 76, 3), (11, .ireturn, 1)]
theorem cdX5_isFix_0_ok : ∀ x ∈ cdX5_isFix_0, decode prog_7_method_30_code x.1 = .ok x.2 := by decide +kernel
def cdX5_isFix : List (Nat × Instr × Nat) := cdX5_isFix_0
theorem cdX5_isFix_ok : ∀ x ∈ cdX5_isFix, decode prog_7_method_30_code x.1 = .ok x.2 := fun x h => cdX5_isFix_0_ok x h
def qX5_isFix : MI := (RX5, yX5_isFix, prog_7_method_30_code, 2, some .boolean, cdX5_isFix, flX5, [], 1, 22)
theorem qX5_isFix_ok : MOk qX5_isFix := ⟨cdX5_isFix_ok, flX5_ok, fun _ h => absurd h List.not_mem_nil, tw688, tw6, by decide +kernel, rfl, by decide +kernel, by decide +kernel⟩
def yX5_candidate : MethodName := ⟨RX5, "candidate", "(III)I"⟩
def cdX5_candidate_0 : List (Nat × Instr × Nat) := [(0, .aload_n 0, 1), (1, .iload_n 1, 1), (2, .invokevirtual 147, 3), (5, .ifCond .ne 5, 3), (8, .iconst (-1), 1), (9, .ireturn, 1), (10, .iload_n 3, 1), (11, .iconst 0, 1), (12, .iconst 3, 1), (13, .invokestatic 76, 3), (16, .ifCond .ne 6, 3), (19, .bipush (-2), 2), (21, .ireturn, 1), (22, .aload_n 0, 1), (23, .invokevirtual 150, 3), (26, .iload_n 2, 1), (27, .iconst (-1), 1), (28, .if_icmp .ne 10, 3), (31, .aload_n 0, 1), (32, .getfield 49, 3), (35, .iload_n 1, 1), (36, .iaload, 1), (37, .ireturn, 1), (38, .iload_n 2, 1), (39, .iconst 0, 1), (40, .aload_n 0, 1), (41, .getfield 49, 3), (44, .iload_n 1, 1), (45, .iaload, 1), (46, .iconst 1, 1), (47, .isub, 1), (48, .invokestatic 76, 3), (51, .ifCond .ne 6, 3), (54, .bipush (-6), 2), (56, .ireturn, 1), (57, .bipush 20, 2), (59, .iload_n 1, 1), (60, .imul, 1), (61, .iload_n 2, 1), (62, .iadd, 1), (63, .istore 4, 2), (65, .iload_n 3, 1), (66, .ifCond .ne 13, 3), (69, .aload_n 0, 1), (70, .getfield 37, 3), (73, .iload 4, 2), (75, .iaload, 1), (76, .goto 40, 3), (79, .iload_n 3, 1), (80, .iconst 1, 1), (81, .if_icmp .ne 13, 3), (84, .aload_n 0, 1), (85, .getfield 40, 3), (88, .iload 4, 2), (90, .iaload, 1), (91, .goto 25, 3), (94, .iload_n 3, 1), (95, .iconst 2, 1), (96, .if_icmp .ne 13, 3), (99, .aload_n 0, 1)]
theorem cdX5_candidate_0_ok : ∀ x ∈ cdX5_candidate_0, decode prog_7_method_31_code x.1 = .ok x.2 := by decide +kernel
def cdX5_candidate_1 : List (Nat × Instr × Nat) := [(100, .getfield 43, 3), (103, .iload 4, 2), (105, .iaload, 1), (106, .goto 10, 3), (109, .aload_n 0, 1), (110, .getfield 46, 3), (113, .iload 4, 2), (115, .iaload, 1), (116, .ireturn, 1)]
theorem cdX5_candidate_1_ok : ∀ x ∈ cdX5_candidate_1, decode prog_7_method_31_code x.1 = .ok x.2 := by decide +kernel
def cdX5_candidate : List (Nat × Instr × Nat) := cdX5_candidate_0 ++ (cdX5_candidate_1)
theorem cdX5_candidate_ok : ∀ x ∈ cdX5_candidate, decode prog_7_method_31_code x.1 = .ok x.2 := fun x h => (List.mem_append.mp h).elim (fun h => cdX5_candidate_0_ok x h) (fun h => cdX5_candidate_1_ok x h)
def qX5_candidate : MI := (RX5, yX5_candidate, prog_7_method_31_code, 5, some .int, cdX5_candidate, flX5, [], 8, 196)
theorem qX5_candidate_ok : MOk qX5_candidate := ⟨cdX5_candidate_ok, flX5_ok, fun _ h => absurd h List.not_mem_nil, tw684, tw6, by decide +kernel, rfl, by decide +kernel, by decide +kernel⟩
def yX5_best : MethodName := ⟨RX5, "best", "(I)I"⟩
def cdX5_best_0 : List (Nat × Instr × Nat) := [(0, .aload_n 0, 1), (1, .iload_n 1, 1), (2, .invokevirtual 147, 3), (5, .ifCond .ne 5, 3), (8, .iconst (-1), 1), (9, .ireturn, 1), (10, .aload_n 0, 1), (11, .invokevirtual 150, 3), (14, .aload_n 0, 1), (15, .getfield 52, 3), (18, .iload_n 1, 1), (19, .iaload, 1), (20, .ifCond .ge 8, 3), (23, .bipush (-6), 2), (25, .goto 19, 3), (28, .aload_n 0, 1), (29, .getfield 37, 3), (32, .bipush 20, 2), (34, .iload_n 1, 1), (35, .imul, 1), (36, .aload_n 0, 1), (37, .getfield 58, 3), (40, .iload_n 1, 1), (41, .iaload, 1), (42, .iadd, 1), (43, .iaload, 1), (44, .ireturn, 1)]
theorem cdX5_best_0_ok : ∀ x ∈ cdX5_best_0, decode prog_7_method_32_code x.1 = .ok x.2 := by decide +kernel
def cdX5_best : List (Nat × Instr × Nat) := cdX5_best_0
theorem cdX5_best_ok : ∀ x ∈ cdX5_best, decode prog_7_method_32_code x.1 = .ok x.2 := fun x h => cdX5_best_0_ok x h
def qX5_best : MI := (RX5, yX5_best, prog_7_method_32_code, 2, some .int, cdX5_best, flX5, [], 8, 196)
theorem qX5_best_ok : MOk qX5_best := ⟨cdX5_best_ok, flX5_ok, fun _ h => absurd h List.not_mem_nil, tw720, tw6, by decide +kernel, rfl, by decide +kernel, by decide +kernel⟩
def yX5_origin : MethodName := ⟨RX5, "origin", "(III)I"⟩
def cdX5_origin_0 : List (Nat × Instr × Nat) := [(0, .iload_n 3, 1), (1, .istore 4, 2), (3, .iload_n 2, 1), (4, .istore 5, 2), (6, .iload 5, 2), (8, .iload_n 1, 1), (9, .if_icmp .le 30, 3), (12, .aload_n 0, 1), (13, .getfield 46, 3), (16, .bipush 20, 2), (18, .iload 5, 2), (20, .imul, 1), (21, .iload 4, 2), (23, .iadd, 1), (24, .iaload, 1), (25, .istore 4, 2), (27, .aload_n 0, 1), (28, .getfield 55, 3), (31, .iload 5, 2), (33, .iaload, 1), (34, .istore 5, 2), (36, .goto (-30), 3), (39, .iload 4, 2), (41, .ireturn, 1)]
theorem cdX5_origin_0_ok : ∀ x ∈ cdX5_origin_0, decode prog_7_method_33_code x.1 = .ok x.2 := by decide +kernel
def cdX5_origin : List (Nat × Instr × Nat) := cdX5_origin_0
theorem cdX5_origin_ok : ∀ x ∈ cdX5_origin, decode prog_7_method_33_code x.1 = .ok x.2 := fun x h => cdX5_origin_0_ok x h
def qX5_origin : MI := (RX5, yX5_origin, prog_7_method_33_code, 6, some .int, cdX5_origin, flX5, [], 0, 0)
theorem qX5_origin_ok : MOk qX5_origin := ⟨cdX5_origin_ok, flX5_ok, fun _ h => absurd h List.not_mem_nil, tw732, tw6, by decide +kernel, rfl, by decide +kernel, by decide +kernel⟩
def yX5_isDecided : MethodName := ⟨RX5, "isDecided", "(I)Z"⟩
def cdX5_isDecided_0 : List (Nat × Instr × Nat) := [(0, .aload_n 0, 1), (1, .getfield 52, 3), (4, .iload_n 1, 1), (5, .iaload, 1), (6, .ifCond .ge 5, 3), (9, .iconst 0, 1), (10, .ireturn, 1), (11, .aload_n 0, 1), (12, .getfield 52, 3), (15, .iload_n 1, 1), (16, .iaload, 1), (17, .aload_n 0, 1), (18, .getfield 127, 3), (21, .iconst 1, 1), (22, .isub, 1), (23, .if_icmp .ge 5, 3), (26, .iconst 1, 1), (27, .ireturn, 1), (28, .iload_n 1, 1), (29, .istore_n 2, 1), (30, .aload_n 0, 1), (31, .iload_n 2, 1), (32, .invokevirtual 141, 3), (35, .ifCond .lt 12, 3), (38, .aload_n 0, 1), (39, .iload_n 2, 1), (40, .invokevirtual 141, 3), (43, .istore_n 2, 1), (44, .goto (-14), 3), (47, .bipush (-6), 2), (49, .istore_n 3, 1), (50, .iconst 0, 1), (51, .istore 4, 2), (53, .iload 4, 2), (55, .aload_n 0, 1), (56, .getfield 49, 3), (59, .iload_n 2, 1), (60, .iaload, 1), (61, .if_icmp .ge 49, 3), (64, .aload_n 0, 1), (65, .getfield 43, 3), (68, .bipush 20, 2), (70, .iload_n 2, 1), (71, .imul, 1), (72, .iload 4, 2), (74, .iadd, 1), (75, .iaload, 1), (76, .ifCond .lt 28, 3), (79, .aload_n 0, 1), (80, .iload_n 1, 1), (81, .iload_n 2, 1), (82, .iload 4, 2), (84, .invokevirtual 153, 3), (87, .istore 5, 2), (89, .iload_n 3, 1), (90, .ifCond .lt 11, 3), (93, .iload 5, 2), (95, .iload_n 3, 1), (96, .if_icmp .eq 5, 3), (99, .iconst 0, 1)]
theorem cdX5_isDecided_0_ok : ∀ x ∈ cdX5_isDecided_0, decode prog_7_method_34_code x.1 = .ok x.2 := by decide +kernel
def cdX5_isDecided_1 : List (Nat × Instr × Nat) := [(100, .ireturn, 1), (101, .iload 5, 2), (103, .istore_n 3, 1), (104, .iinc 4 1, 3), (107, .goto (-54), 3), (110, .iconst 1, 1), (111, .ireturn, 1)]
theorem cdX5_isDecided_1_ok : ∀ x ∈ cdX5_isDecided_1, decode prog_7_method_34_code x.1 = .ok x.2 := by decide +kernel
def cdX5_isDecided : List (Nat × Instr × Nat) := cdX5_isDecided_0 ++ (cdX5_isDecided_1)
theorem cdX5_isDecided_ok : ∀ x ∈ cdX5_isDecided, decode prog_7_method_34_code x.1 = .ok x.2 := fun x h => (List.mem_append.mp h).elim (fun h => cdX5_isDecided_0_ok x h) (fun h => cdX5_isDecided_1_ok x h)
def qX5_isDecided : MI := (RX5, yX5_isDecided, prog_7_method_34_code, 6, some .boolean, cdX5_isDecided, flX5, [], 1, 25)
theorem qX5_isDecided_ok : MOk qX5_isDecided := ⟨cdX5_isDecided_ok, flX5_ok, fun _ h => absurd h List.not_mem_nil, tw728, tw6, by decide +kernel, rfl, by decide +kernel, by decide +kernel⟩
def yX5_decided : MethodName := ⟨RX5, "decided", "(I)I"⟩
def cdX5_decided_0 : List (Nat × Instr × Nat) := [(0, .aload_n 0, 1), (1, .iload_n 1, 1), (2, .invokevirtual 147, 3), (5, .ifCond .ne 5, 3), (8, .iconst (-1), 1), (9, .ireturn, 1), (10, .aload_n 0, 1), (11, .invokevirtual 150, 3), (14, .aload_n 0, 1), (15, .iload_n 1, 1), (16, .invokevirtual 156, 3), (19, .ifCond .eq 22, 3), (22, .aload_n 0, 1), (23, .getfield 37, 3), (26, .bipush 20, 2), (28, .iload_n 1, 1), (29, .imul, 1), (30, .aload_n 0, 1), (31, .getfield 58, 3), (34, .iload_n 1, 1), (35, .iaload, 1), (36, .iadd, 1), (37, .iaload, 1), (38, .goto 5, 3), (41, .bipush (-6), 2), (43, .ireturn, 1)]
theorem cdX5_decided_0_ok : ∀ x ∈ cdX5_decided_0, decode prog_7_method_35_code x.1 = .ok x.2 := by decide +kernel
def cdX5_decided : List (Nat × Instr × Nat) := cdX5_decided_0
theorem cdX5_decided_ok : ∀ x ∈ cdX5_decided, decode prog_7_method_35_code x.1 = .ok x.2 := fun x h => cdX5_decided_0_ok x h
def qX5_decided : MI := (RX5, yX5_decided, prog_7_method_35_code, 2, some .int, cdX5_decided, flX5, [], 8, 196)
theorem qX5_decided_ok : MOk qX5_decided := ⟨cdX5_decided_ok, flX5_ok, fun _ h => absurd h List.not_mem_nil, tw724, tw6, by decide +kernel, rfl, by decide +kernel, by decide +kernel⟩
def yX5_piece : MethodName := ⟨RX5, "piece", "(I)I"⟩
def cdX5_piece_0 : List (Nat × Instr × Nat) := [(0, .aload_n 0, 1), (1, .iload_n 1, 1), (2, .invokevirtual 147, 3), (5, .ifCond .ne 5, 3), (8, .iconst (-1), 1), (9, .ireturn, 1), (10, .aload_n 0, 1), (11, .invokevirtual 150, 3), (14, .aload_n 0, 1), (15, .getfield 52, 3), (18, .iload_n 1, 1), (19, .iaload, 1), (20, .ireturn, 1)]
theorem cdX5_piece_0_ok : ∀ x ∈ cdX5_piece_0, decode prog_7_method_36_code x.1 = .ok x.2 := by decide +kernel
def cdX5_piece : List (Nat × Instr × Nat) := cdX5_piece_0
theorem cdX5_piece_ok : ∀ x ∈ cdX5_piece, decode prog_7_method_36_code x.1 = .ok x.2 := fun x h => cdX5_piece_0_ok x h
def qX5_piece : MI := (RX5, yX5_piece, prog_7_method_36_code, 2, some .int, cdX5_piece, flX5, [], 8, 196)
theorem qX5_piece_ok : MOk qX5_piece := ⟨cdX5_piece_ok, flX5_ok, fun _ h => absurd h List.not_mem_nil, tw736, tw6, by decide +kernel, rfl, by decide +kernel, by decide +kernel⟩
def yX5_stepOf : MethodName := ⟨RX5, "stepOf", "(I)I"⟩
def cdX5_stepOf_0 : List (Nat × Instr × Nat) := [(0, .aload_n 0, 1), (1, .getfield 52, 3), (4, .iload_n 1, 1), (5, .iaload, 1), (6, .ifCond .lt 12, 3), (9, .aload_n 0, 1), (10, .getfield 55, 3), (13, .iload_n 1, 1), (14, .iaload, 1), (15, .ifCond .ge 8, 3), (18, .bipush (-6), 2), (20, .goto 49, 3), (23, .aload_n 0, 1), (24, .aload_n 0, 1), (25, .getfield 37, 3), (28, .bipush 20, 2), (30, .aload_n 0, 1), (31, .getfield 55, 3), (34, .iload_n 1, 1), (35, .iaload, 1), (36, .imul, 1), (37, .aload_n 0, 1), (38, .getfield 58, 3), (41, .aload_n 0, 1), (42, .getfield 55, 3), (45, .iload_n 1, 1), (46, .iaload, 1), (47, .iaload, 1), (48, .iadd, 1), (49, .iaload, 1), (50, .aload_n 0, 1), (51, .getfield 37, 3), (54, .bipush 20, 2), (56, .iload_n 1, 1), (57, .imul, 1), (58, .aload_n 0, 1), (59, .getfield 58, 3), (62, .iload_n 1, 1), (63, .iaload, 1), (64, .iadd, 1), (65, .iaload, 1), (66, .invokevirtual 121, 3), (69, .ireturn, 1)]
theorem cdX5_stepOf_0_ok : ∀ x ∈ cdX5_stepOf_0, decode prog_7_method_37_code x.1 = .ok x.2 := by decide +kernel
def cdX5_stepOf : List (Nat × Instr × Nat) := cdX5_stepOf_0
theorem cdX5_stepOf_ok : ∀ x ∈ cdX5_stepOf, decode prog_7_method_37_code x.1 = .ok x.2 := fun x h => cdX5_stepOf_0_ok x h
def qX5_stepOf : MI := (RX5, yX5_stepOf, prog_7_method_37_code, 2, some .int, cdX5_stepOf, flX5, [], 6, 145)
theorem qX5_stepOf_ok : MOk qX5_stepOf := ⟨cdX5_stepOf_ok, flX5_ok, fun _ h => absurd h List.not_mem_nil, tw744, tw6, by decide +kernel, rfl, by decide +kernel, by decide +kernel⟩
def yX5_step : MethodName := ⟨RX5, "step", "(I)I"⟩
def cdX5_step_0 : List (Nat × Instr × Nat) := [(0, .aload_n 0, 1), (1, .iload_n 1, 1), (2, .invokevirtual 147, 3), (5, .ifCond .ne 5, 3), (8, .iconst (-1), 1), (9, .ireturn, 1), (10, .aload_n 0, 1), (11, .invokevirtual 150, 3), (14, .aload_n 0, 1), (15, .iload_n 1, 1), (16, .invokevirtual 159, 3), (19, .ireturn, 1)]
theorem cdX5_step_0_ok : ∀ x ∈ cdX5_step_0, decode prog_7_method_38_code x.1 = .ok x.2 := by decide +kernel
def cdX5_step : List (Nat × Instr × Nat) := cdX5_step_0
theorem cdX5_step_ok : ∀ x ∈ cdX5_step, decode prog_7_method_38_code x.1 = .ok x.2 := fun x h => cdX5_step_0_ok x h
def qX5_step : MI := (RX5, yX5_step, prog_7_method_38_code, 2, some .int, cdX5_step, flX5, [], 8, 196)
theorem qX5_step_ok : MOk qX5_step := ⟨cdX5_step_ok, flX5_ok, fun _ h => absurd h List.not_mem_nil, tw740, tw6, by decide +kernel, rfl, by decide +kernel, by decide +kernel⟩
def yX5_onward : MethodName := ⟨RX5, "onward", "(II)I"⟩
def cdX5_onward_0 : List (Nat × Instr × Nat) := [(0, .bipush (-6), 2), (2, .istore_n 3, 1), (3, .iconst 0, 1), (4, .istore 4, 2), (6, .iload 4, 2), (8, .aload_n 0, 1), (9, .getfield 87, 3), (12, .if_icmp .ge 120, 3), (15, .aload_n 0, 1), (16, .getfield 16, 3), (19, .iload 4, 2), (21, .iaload, 1), (22, .iload_n 1, 1), (23, .if_icmp .ne 13, 3), (26, .aload_n 0, 1), (27, .getfield 19, 3), (30, .iload 4, 2), (32, .iaload, 1), (33, .goto 36, 3), (36, .aload_n 0, 1), (37, .getfield 19, 3), (40, .iload 4, 2), (42, .iaload, 1), (43, .iload_n 1, 1), (44, .if_icmp .ne 23, 3), (47, .aload_n 0, 1), (48, .getfield 22, 3), (51, .iload 4, 2), (53, .iaload, 1), (54, .ifCond .ne 13, 3), (57, .aload_n 0, 1), (58, .getfield 16, 3), (61, .iload 4, 2), (63, .iaload, 1), (64, .goto 5, 3), (67, .bipush (-6), 2), (69, .istore 5, 2), (71, .iload 5, 2), (73, .ifCond .lt 53, 3), (76, .aload_n 0, 1), (77, .iload 4, 2), (79, .invokevirtual 98, 3), (82, .aload_n 0, 1), (83, .getfield 34, 3), (86, .bipush 12, 2), (88, .iload 5, 2), (90, .imul, 1), (91, .iload_n 2, 1), (92, .iadd, 1), (93, .iaload, 1), (94, .iadd, 1), (95, .aload_n 0, 1), (96, .getfield 34, 3), (99, .bipush 12, 2), (101, .iload_n 1, 1), (102, .imul, 1), (103, .iload_n 2, 1), (104, .iadd, 1), (105, .iaload, 1), (106, .if_icmp .ne 20, 3)]
theorem cdX5_onward_0_ok : ∀ x ∈ cdX5_onward_0, decode prog_7_method_39_code x.1 = .ok x.2 := by decide +kernel
def cdX5_onward_1 : List (Nat × Instr × Nat) := [(109, .iload_n 3, 1), (110, .ifCond .lt 9, 3), (113, .iload 5, 2), (115, .iload_n 3, 1), (116, .if_icmp .ge 8, 3), (119, .iload 5, 2), (121, .goto 4, 3), (124, .iload_n 3, 1), (125, .istore_n 3, 1), (126, .iinc 4 1, 3), (129, .goto (-123), 3), (132, .iload_n 3, 1), (133, .ireturn, 1)]
theorem cdX5_onward_1_ok : ∀ x ∈ cdX5_onward_1, decode prog_7_method_39_code x.1 = .ok x.2 := by decide +kernel
def cdX5_onward : List (Nat × Instr × Nat) := cdX5_onward_0 ++ (cdX5_onward_1)
theorem cdX5_onward_ok : ∀ x ∈ cdX5_onward, decode prog_7_method_39_code x.1 = .ok x.2 := fun x h => (List.mem_append.mp h).elim (fun h => cdX5_onward_0_ok x h) (fun h => cdX5_onward_1_ok x h)
def qX5_onward : MI := (RX5, yX5_onward, prog_7_method_39_code, 6, some .int, cdX5_onward, flX5, [], 3, 65)
theorem qX5_onward_ok : MOk qX5_onward := ⟨cdX5_onward_ok, flX5_ok, fun _ h => absurd h List.not_mem_nil, tw752, tw6, by decide +kernel, rfl, by decide +kernel, by decide +kernel⟩
def yX5_through : MethodName := ⟨RX5, "through", "(II)I"⟩
def cdX5_through_0 : List (Nat × Instr × Nat) := [(0, .aload_n 0, 1), (1, .iload_n 1, 1), (2, .invokevirtual 147, 3), (5, .ifCond .ne 5, 3), (8, .iconst (-1), 1), (9, .ireturn, 1), (10, .aload_n 0, 1), (11, .invokevirtual 150, 3), (14, .aload_n 0, 1), (15, .iload_n 1, 1), (16, .invokevirtual 159, 3), (19, .ifCond .ge 6, 3), (22, .bipush (-6), 2), (24, .ireturn, 1), (25, .aload_n 0, 1), (26, .getfield 37, 3), (29, .bipush 20, 2), (31, .aload_n 0, 1), (32, .getfield 55, 3), (35, .iload_n 1, 1), (36, .iaload, 1), (37, .imul, 1), (38, .aload_n 0, 1), (39, .getfield 58, 3), (42, .aload_n 0, 1), (43, .getfield 55, 3), (46, .iload_n 1, 1), (47, .iaload, 1), (48, .iaload, 1), (49, .iadd, 1), (50, .iaload, 1), (51, .istore_n 3, 1), (52, .aload_n 0, 1), (53, .getfield 37, 3), (56, .bipush 20, 2), (58, .iload_n 1, 1), (59, .imul, 1), (60, .aload_n 0, 1), (61, .getfield 58, 3), (64, .iload_n 1, 1), (65, .iaload, 1), (66, .iadd, 1), (67, .iaload, 1), (68, .istore 4, 2), (70, .aload_n 0, 1), (71, .iload_n 3, 1), (72, .iload 4, 2), (74, .invokevirtual 115, 3), (77, .istore 5, 2), (79, .iload 5, 2), (81, .ifCond .eq 7, 3), (84, .iload_n 2, 1), (85, .ifCond .ge 6, 3), (88, .bipush (-6), 2), (90, .ireturn, 1), (91, .iload 5, 2), (93, .iconst 3, 1), (94, .if_icmp .ge 15, 3), (97, .aload_n 0, 1), (98, .getfield 16, 3)]
theorem cdX5_through_0_ok : ∀ x ∈ cdX5_through_0, decode prog_7_method_40_code x.1 = .ok x.2 := by decide +kernel
def cdX5_through_1 : List (Nat × Instr × Nat) := [(101, .iload_n 3, 1), (102, .bipush 100, 2), (104, .idiv, 1), (105, .iaload, 1), (106, .goto 12, 3), (109, .aload_n 0, 1), (110, .getfield 19, 3), (113, .iload_n 3, 1), (114, .bipush 100, 2), (116, .idiv, 1), (117, .iaload, 1), (118, .istore 6, 2), (120, .iload 5, 2), (122, .iconst 2, 1), (123, .irem, 1), (124, .ifCond .ne 16, 3), (127, .aload_n 0, 1), (128, .getfield 19, 3), (131, .iload 4, 2), (133, .bipush 100, 2), (135, .idiv, 1), (136, .iaload, 1), (137, .goto 13, 3), (140, .aload_n 0, 1), (141, .getfield 16, 3), (144, .iload 4, 2), (146, .bipush 100, 2), (148, .idiv, 1), (149, .iaload, 1), (150, .istore 7, 2), (152, .iconst 0, 1), (153, .istore 8, 2), (155, .iload 8, 2), (157, .iload_n 2, 1), (158, .if_icmp .ge 29, 3), (161, .iload 6, 2), (163, .iload 7, 2), (165, .if_icmp .ne 6, 3), (168, .bipush (-6), 2), (170, .ireturn, 1), (171, .aload_n 0, 1), (172, .iload 6, 2), (174, .iload 7, 2), (176, .invokevirtual 162, 3), (179, .istore 6, 2), (181, .iinc 8 1, 3), (184, .goto (-29), 3), (187, .iload 6, 2), (189, .ireturn, 1)]
theorem cdX5_through_1_ok : ∀ x ∈ cdX5_through_1, decode prog_7_method_40_code x.1 = .ok x.2 := by decide +kernel
def cdX5_through : List (Nat × Instr × Nat) := cdX5_through_0 ++ (cdX5_through_1)
theorem cdX5_through_ok : ∀ x ∈ cdX5_through, decode prog_7_method_40_code x.1 = .ok x.2 := fun x h => (List.mem_append.mp h).elim (fun h => cdX5_through_0_ok x h) (fun h => cdX5_through_1_ok x h)
def qX5_through : MI := (RX5, yX5_through, prog_7_method_40_code, 9, some .int, cdX5_through, flX5, [], 8, 196)
theorem qX5_through_ok : MOk qX5_through := ⟨cdX5_through_ok, flX5_ok, fun _ h => absurd h List.not_mem_nil, tw748, tw6, by decide +kernel, rfl, by decide +kernel, by decide +kernel⟩
def yX5_total : MethodName := ⟨RX5, "total", "(I)I"⟩
def cdX5_total_0 : List (Nat × Instr × Nat) := [(0, .iload_n 1, 1), (1, .iconst 0, 1), (2, .iconst 4, 1), (3, .invokestatic 76, 3), (6, .ifCond .ne 6, 3), (9, .bipush (-2), 2), (11, .ireturn, 1), (12, .aload_n 0, 1), (13, .invokevirtual 150, 3), (16, .iconst 0, 1), (17, .istore_n 2, 1), (18, .iconst 0, 1), (19, .istore_n 3, 1), (20, .iload_n 3, 1), (21, .aload_n 0, 1), (22, .getfield 80, 3), (25, .if_icmp .ge 155, 3), (28, .iload_n 1, 1), (29, .tableswitch 140 0 4 #[35, 140, 78, 98, 117], 35), (64, .iload_n 2, 1), (65, .aload_n 0, 1), (66, .getfield 52, 3), (69, .iload_n 3, 1), (70, .iaload, 1), (71, .ifCond .lt 30, 3), (74, .aload_n 0, 1), (75, .iload_n 3, 1), (76, .invokevirtual 141, 3), (79, .ifCond .ge 22, 3), (82, .aload_n 0, 1), (83, .getfield 43, 3), (86, .bipush 20, 2), (88, .iload_n 3, 1), (89, .imul, 1), (90, .aload_n 0, 1), (91, .getfield 58, 3), (94, .iload_n 3, 1), (95, .iaload, 1), (96, .iadd, 1), (97, .iaload, 1), (98, .goto 4, 3), (101, .iconst 0, 1), (102, .iadd, 1), (103, .istore_n 2, 1), (104, .goto 70, 3), (107, .iload_n 2, 1), (108, .aload_n 0, 1), (109, .getfield 52, 3), (112, .iload_n 3, 1), (113, .iaload, 1), (114, .ifCond .ge 7, 3), (117, .iconst 1, 1), (118, .goto 4, 3), (121, .iconst 0, 1), (122, .iadd, 1), (123, .istore_n 2, 1), (124, .goto 50, 3), (127, .iload_n 2, 1), (128, .aload_n 0, 1), (129, .iload_n 3, 1)]
theorem cdX5_total_0_ok : ∀ x ∈ cdX5_total_0, decode prog_7_method_41_code x.1 = .ok x.2 := by decide +kernel
def cdX5_total_1 : List (Nat × Instr × Nat) := [(130, .invokevirtual 156, 3), (133, .ifCond .eq 7, 3), (136, .iconst 1, 1), (137, .goto 4, 3), (140, .iconst 0, 1), (141, .iadd, 1), (142, .istore_n 2, 1), (143, .goto 31, 3), (146, .iload_n 2, 1), (147, .aload_n 0, 1), (148, .iload_n 3, 1), (149, .invokevirtual 159, 3), (152, .ifCond .lt 11, 3), (155, .aload_n 0, 1), (156, .iload_n 3, 1), (157, .invokevirtual 159, 3), (160, .goto 4, 3), (163, .iconst 0, 1), (164, .iadd, 1), (165, .istore_n 2, 1), (166, .goto 8, 3), (169, .aload_n 0, 1), (170, .getfield 127, 3), (173, .istore_n 2, 1), (174, .iinc 3 1, 3), (177, .goto (-157), 3), (180, .iload_n 2, 1), (181, .ireturn, 1)]
theorem cdX5_total_1_ok : ∀ x ∈ cdX5_total_1, decode prog_7_method_41_code x.1 = .ok x.2 := by decide +kernel
def cdX5_total : List (Nat × Instr × Nat) := cdX5_total_0 ++ (cdX5_total_1)
theorem cdX5_total_ok : ∀ x ∈ cdX5_total, decode prog_7_method_41_code x.1 = .ok x.2 := fun x h => (List.mem_append.mp h).elim (fun h => cdX5_total_0_ok x h) (fun h => cdX5_total_1_ok x h)
def qX5_total : MI := (RX5, yX5_total, prog_7_method_41_code, 4, some .int, cdX5_total, flX5, [], 8, 196)
theorem qX5_total_ok : MOk qX5_total := ⟨cdX5_total_ok, flX5_ok, fun _ h => absurd h List.not_mem_nil, tw756, tw6, by decide +kernel, rfl, by decide +kernel, by decide +kernel⟩
def yX5_image : MethodName := ⟨RX5, "image", "(I)I"⟩
def cdX5_image_0 : List (Nat × Instr × Nat) := [(0, .iload_n 1, 1), (1, .iconst 0, 1), (2, .iconst 1, 1), (3, .invokestatic 76, 3), (6, .ifCond .ne 6, 3), (9, .bipush (-2), 2), (11, .ireturn, 1), (12, .sipush 130, 3), (15, .iload_n 1, 1), (16, .imul, 1), (17, .istore_n 2, 1), (18, .iconst 0, 1), (19, .istore_n 3, 1), (20, .iload_n 3, 1), (21, .bipush 12, 2), (23, .if_icmp .ge 40, 3), (26, .aload_n 0, 1), (27, .getfield 61, 3), (30, .iload_n 2, 1), (31, .iload_n 3, 1), (32, .iadd, 1), (33, .aload_n 0, 1), (34, .getfield 7, 3), (37, .iload_n 3, 1), (38, .iaload, 1), (39, .iastore, 1), (40, .aload_n 0, 1), (41, .getfield 61, 3), (44, .iload_n 2, 1), (45, .bipush 12, 2), (47, .iadd, 1), (48, .iload_n 3, 1), (49, .iadd, 1), (50, .aload_n 0, 1), (51, .getfield 13, 3), (54, .iload_n 3, 1), (55, .iaload, 1), (56, .iastore, 1), (57, .iinc 3 1, 3), (60, .goto (-40), 3), (63, .iconst 0, 1), (64, .istore_n 3, 1), (65, .iload_n 3, 1), (66, .bipush 20, 2), (68, .if_icmp .ge 60, 3), (71, .aload_n 0, 1), (72, .getfield 61, 3), (75, .iload_n 2, 1), (76, .bipush 24, 2), (78, .iadd, 1), (79, .iload_n 3, 1), (80, .iadd, 1), (81, .aload_n 0, 1), (82, .getfield 16, 3), (85, .iload_n 3, 1), (86, .iaload, 1), (87, .iastore, 1), (88, .aload_n 0, 1), (89, .getfield 61, 3), (92, .iload_n 2, 1)]
theorem cdX5_image_0_ok : ∀ x ∈ cdX5_image_0, decode prog_7_method_42_code x.1 = .ok x.2 := by decide +kernel
def cdX5_image_1 : List (Nat × Instr × Nat) := [(93, .bipush 44, 2), (95, .iadd, 1), (96, .iload_n 3, 1), (97, .iadd, 1), (98, .aload_n 0, 1), (99, .getfield 19, 3), (102, .iload_n 3, 1), (103, .iaload, 1), (104, .iastore, 1), (105, .aload_n 0, 1), (106, .getfield 61, 3), (109, .iload_n 2, 1), (110, .bipush 64, 2), (112, .iadd, 1), (113, .iload_n 3, 1), (114, .iadd, 1), (115, .aload_n 0, 1), (116, .getfield 22, 3), (119, .iload_n 3, 1), (120, .iaload, 1), (121, .iastore, 1), (122, .iinc 3 1, 3), (125, .goto (-60), 3), (128, .iconst 0, 1), (129, .istore_n 3, 1), (130, .iload_n 3, 1), (131, .bipush 16, 2), (133, .if_icmp .ge 43, 3), (136, .aload_n 0, 1), (137, .getfield 61, 3), (140, .iload_n 2, 1), (141, .bipush 84, 2), (143, .iadd, 1), (144, .iload_n 3, 1), (145, .iadd, 1), (146, .aload_n 0, 1), (147, .getfield 28, 3), (150, .iload_n 3, 1), (151, .iaload, 1), (152, .iastore, 1), (153, .aload_n 0, 1), (154, .getfield 61, 3), (157, .iload_n 2, 1), (158, .bipush 100, 2), (160, .iadd, 1), (161, .iload_n 3, 1), (162, .iadd, 1), (163, .aload_n 0, 1), (164, .getfield 31, 3), (167, .iload_n 3, 1), (168, .iaload, 1), (169, .iastore, 1), (170, .iinc 3 1, 3), (173, .goto (-43), 3), (176, .iconst 0, 1), (177, .istore_n 3, 1), (178, .iload_n 3, 1), (179, .iconst 4, 1), (180, .if_icmp .ge 26, 3), (183, .aload_n 0, 1)]
theorem cdX5_image_1_ok : ∀ x ∈ cdX5_image_1, decode prog_7_method_42_code x.1 = .ok x.2 := by decide +kernel
def cdX5_image_2 : List (Nat × Instr × Nat) := [(184, .getfield 61, 3), (187, .iload_n 2, 1), (188, .bipush 116, 2), (190, .iadd, 1), (191, .iload_n 3, 1), (192, .iadd, 1), (193, .aload_n 0, 1), (194, .getfield 25, 3), (197, .iload_n 3, 1), (198, .iaload, 1), (199, .iastore, 1), (200, .iinc 3 1, 3), (203, .goto (-25), 3), (206, .aload_n 0, 1), (207, .getfield 61, 3), (210, .iload_n 2, 1), (211, .bipush 120, 2), (213, .iadd, 1), (214, .aload_n 0, 1), (215, .getfield 72, 3), (218, .iastore, 1), (219, .aload_n 0, 1), (220, .getfield 61, 3), (223, .iload_n 2, 1), (224, .bipush 121, 2), (226, .iadd, 1), (227, .aload_n 0, 1), (228, .getfield 87, 3), (231, .iastore, 1), (232, .aload_n 0, 1), (233, .getfield 61, 3), (236, .iload_n 2, 1), (237, .bipush 122, 2), (239, .iadd, 1), (240, .aload_n 0, 1), (241, .getfield 80, 3), (244, .iastore, 1), (245, .aload_n 0, 1), (246, .getfield 64, 3), (249, .iload_n 1, 1), (250, .iconst 1, 1), (251, .bastore, 1), (252, .iconst 1, 1), (253, .ireturn, 1)]
theorem cdX5_image_2_ok : ∀ x ∈ cdX5_image_2, decode prog_7_method_42_code x.1 = .ok x.2 := by decide +kernel
def cdX5_image : List (Nat × Instr × Nat) := cdX5_image_0 ++ (cdX5_image_1 ++ (cdX5_image_2))
theorem cdX5_image_ok : ∀ x ∈ cdX5_image, decode prog_7_method_42_code x.1 = .ok x.2 := fun x h => (List.mem_append.mp h).elim (fun h => cdX5_image_0_ok x h) (fun h => (List.mem_append.mp h).elim (fun h => cdX5_image_1_ok x h) (fun h => cdX5_image_2_ok x h))
def qX5_image : MI := (RX5, yX5_image, prog_7_method_42_code, 4, some .int, cdX5_image, flX5, [], 1, 22)
theorem qX5_image_ok : MOk qX5_image := ⟨cdX5_image_ok, flX5_ok, fun _ h => absurd h List.not_mem_nil, tw760, tw6, by decide +kernel, rfl, by decide +kernel, by decide +kernel⟩
def yX5_restore : MethodName := ⟨RX5, "restore", "(I)I"⟩
def cdX5_restore_0 : List (Nat × Instr × Nat) := [(0, .iload_n 1, 1), (1, .iconst 0, 1), (2, .iconst 1, 1), (3, .invokestatic 76, 3), (6, .ifCond .ne 6, 3), (9, .bipush (-2), 2), (11, .ireturn, 1), (12, .aload_n 0, 1), (13, .getfield 64, 3), (16, .iload_n 1, 1), (17, .baload, 1), (18, .ifCond .ne 6, 3), (21, .bipush (-3), 2), (23, .ireturn, 1), (24, .sipush 130, 3), (27, .iload_n 1, 1), (28, .imul, 1), (29, .istore_n 2, 1), (30, .iconst 0, 1), (31, .istore_n 3, 1), (32, .iload_n 3, 1), (33, .bipush 12, 2), (35, .if_icmp .ge 40, 3), (38, .aload_n 0, 1), (39, .getfield 7, 3), (42, .iload_n 3, 1), (43, .aload_n 0, 1), (44, .getfield 61, 3), (47, .iload_n 2, 1), (48, .iload_n 3, 1), (49, .iadd, 1), (50, .iaload, 1), (51, .iastore, 1), (52, .aload_n 0, 1), (53, .getfield 13, 3), (56, .iload_n 3, 1), (57, .aload_n 0, 1), (58, .getfield 61, 3), (61, .iload_n 2, 1), (62, .bipush 12, 2), (64, .iadd, 1), (65, .iload_n 3, 1), (66, .iadd, 1), (67, .iaload, 1), (68, .iastore, 1), (69, .iinc 3 1, 3), (72, .goto (-40), 3), (75, .iconst 0, 1), (76, .istore_n 3, 1), (77, .iload_n 3, 1), (78, .bipush 20, 2), (80, .if_icmp .ge 60, 3), (83, .aload_n 0, 1), (84, .getfield 16, 3), (87, .iload_n 3, 1), (88, .aload_n 0, 1), (89, .getfield 61, 3), (92, .iload_n 2, 1), (93, .bipush 24, 2), (95, .iadd, 1)]
theorem cdX5_restore_0_ok : ∀ x ∈ cdX5_restore_0, decode prog_7_method_43_code x.1 = .ok x.2 := by decide +kernel
def cdX5_restore_1 : List (Nat × Instr × Nat) := [(96, .iload_n 3, 1), (97, .iadd, 1), (98, .iaload, 1), (99, .iastore, 1), (100, .aload_n 0, 1), (101, .getfield 19, 3), (104, .iload_n 3, 1), (105, .aload_n 0, 1), (106, .getfield 61, 3), (109, .iload_n 2, 1), (110, .bipush 44, 2), (112, .iadd, 1), (113, .iload_n 3, 1), (114, .iadd, 1), (115, .iaload, 1), (116, .iastore, 1), (117, .aload_n 0, 1), (118, .getfield 22, 3), (121, .iload_n 3, 1), (122, .aload_n 0, 1), (123, .getfield 61, 3), (126, .iload_n 2, 1), (127, .bipush 64, 2), (129, .iadd, 1), (130, .iload_n 3, 1), (131, .iadd, 1), (132, .iaload, 1), (133, .iastore, 1), (134, .iinc 3 1, 3), (137, .goto (-60), 3), (140, .iconst 0, 1), (141, .istore_n 3, 1), (142, .iload_n 3, 1), (143, .bipush 16, 2), (145, .if_icmp .ge 43, 3), (148, .aload_n 0, 1), (149, .getfield 28, 3), (152, .iload_n 3, 1), (153, .aload_n 0, 1), (154, .getfield 61, 3), (157, .iload_n 2, 1), (158, .bipush 84, 2), (160, .iadd, 1), (161, .iload_n 3, 1), (162, .iadd, 1), (163, .iaload, 1), (164, .iastore, 1), (165, .aload_n 0, 1), (166, .getfield 31, 3), (169, .iload_n 3, 1), (170, .aload_n 0, 1), (171, .getfield 61, 3), (174, .iload_n 2, 1), (175, .bipush 100, 2), (177, .iadd, 1), (178, .iload_n 3, 1), (179, .iadd, 1), (180, .iaload, 1), (181, .iastore, 1), (182, .iinc 3 1, 3)]
theorem cdX5_restore_1_ok : ∀ x ∈ cdX5_restore_1, decode prog_7_method_43_code x.1 = .ok x.2 := by decide +kernel
def cdX5_restore_2 : List (Nat × Instr × Nat) := [(185, .goto (-43), 3), (188, .iconst 0, 1), (189, .istore_n 3, 1), (190, .iload_n 3, 1), (191, .iconst 4, 1), (192, .if_icmp .ge 26, 3), (195, .aload_n 0, 1), (196, .getfield 25, 3), (199, .iload_n 3, 1), (200, .aload_n 0, 1), (201, .getfield 61, 3), (204, .iload_n 2, 1), (205, .bipush 116, 2), (207, .iadd, 1), (208, .iload_n 3, 1), (209, .iadd, 1), (210, .iaload, 1), (211, .iastore, 1), (212, .iinc 3 1, 3), (215, .goto (-25), 3), (218, .aload_n 0, 1), (219, .aload_n 0, 1), (220, .getfield 61, 3), (223, .iload_n 2, 1), (224, .bipush 120, 2), (226, .iadd, 1), (227, .iaload, 1), (228, .putfield 72, 3), (231, .aload_n 0, 1), (232, .aload_n 0, 1), (233, .getfield 61, 3), (236, .iload_n 2, 1), (237, .bipush 121, 2), (239, .iadd, 1), (240, .iaload, 1), (241, .putfield 87, 3), (244, .aload_n 0, 1), (245, .aload_n 0, 1), (246, .getfield 61, 3), (249, .iload_n 2, 1), (250, .bipush 122, 2), (252, .iadd, 1), (253, .iaload, 1), (254, .putfield 80, 3), (257, .iconst 1, 1), (258, .ireturn, 1)]
theorem cdX5_restore_2_ok : ∀ x ∈ cdX5_restore_2, decode prog_7_method_43_code x.1 = .ok x.2 := by decide +kernel
def cdX5_restore : List (Nat × Instr × Nat) := cdX5_restore_0 ++ (cdX5_restore_1 ++ (cdX5_restore_2))
theorem cdX5_restore_ok : ∀ x ∈ cdX5_restore, decode prog_7_method_43_code x.1 = .ok x.2 := fun x h => (List.mem_append.mp h).elim (fun h => cdX5_restore_0_ok x h) (fun h => (List.mem_append.mp h).elim (fun h => cdX5_restore_1_ok x h) (fun h => cdX5_restore_2_ok x h))
def qX5_restore : MI := (RX5, yX5_restore, prog_7_method_43_code, 4, some .int, cdX5_restore, flX5, [], 1, 22)
theorem qX5_restore_ok : MOk qX5_restore := ⟨cdX5_restore_ok, flX5_ok, fun _ h => absurd h List.not_mem_nil, tw764, tw6, by decide +kernel, rfl, by decide +kernel, by decide +kernel⟩
def yX5_told : MethodName := ⟨RX5, "told", "(I)I"⟩
def cdX5_told_0 : List (Nat × Instr × Nat) := [(0, .iload_n 1, 1), (1, .sipush 300, 3), (4, .if_icmp .lt 39, 3), (7, .iload_n 1, 1), (8, .sipush 300, 3), (11, .isub, 1), (12, .istore_n 2, 1), (13, .aload_n 0, 1), (14, .iload_n 2, 1), (15, .invokevirtual 147, 3), (18, .ifCond .eq 22, 3), (21, .bipush 100, 2), (23, .aload_n 0, 1), (24, .getfield 28, 3), (27, .iload_n 2, 1), (28, .iaload, 1), (29, .imul, 1), (30, .aload_n 0, 1), (31, .getfield 31, 3), (34, .iload_n 2, 1), (35, .iaload, 1), (36, .iadd, 1), (37, .goto 5, 3), (40, .bipush (-2), 2), (42, .ireturn, 1), (43, .iload_n 1, 1), (44, .sipush 200, 3), (47, .if_icmp .lt 56, 3), (50, .iload_n 1, 1), (51, .sipush 200, 3), (54, .isub, 1), (55, .istore_n 2, 1), (56, .iload_n 2, 1), (57, .iconst 0, 1), (58, .aload_n 0, 1), (59, .getfield 87, 3), (62, .iconst 1, 1), (63, .isub, 1), (64, .invokestatic 76, 3), (67, .ifCond .eq 33, 3), (70, .sipush 1000, 3), (73, .aload_n 0, 1), (74, .getfield 16, 3), (77, .iload_n 2, 1), (78, .iaload, 1), (79, .imul, 1), (80, .bipush 10, 2), (82, .aload_n 0, 1), (83, .getfield 19, 3), (86, .iload_n 2, 1), (87, .iaload, 1), (88, .imul, 1), (89, .iadd, 1), (90, .aload_n 0, 1), (91, .getfield 22, 3), (94, .iload_n 2, 1), (95, .iaload, 1), (96, .iadd, 1), (97, .goto 5, 3), (100, .bipush (-2), 2)]
theorem cdX5_told_0_ok : ∀ x ∈ cdX5_told_0, decode prog_7_method_44_code x.1 = .ok x.2 := by decide +kernel
def cdX5_told_1 : List (Nat × Instr × Nat) := [(102, .ireturn, 1), (103, .iload_n 1, 1), (104, .bipush 100, 2), (106, .if_icmp .lt 38, 3), (109, .iload_n 1, 1), (110, .bipush 100, 2), (112, .isub, 1), (113, .istore_n 2, 1), (114, .aload_n 0, 1), (115, .iload_n 2, 1), (116, .invokevirtual 83, 3), (119, .ifCond .eq 22, 3), (122, .bipush 100, 2), (124, .aload_n 0, 1), (125, .getfield 7, 3), (128, .iload_n 2, 1), (129, .iaload, 1), (130, .imul, 1), (131, .aload_n 0, 1), (132, .getfield 13, 3), (135, .iload_n 2, 1), (136, .iaload, 1), (137, .iadd, 1), (138, .goto 5, 3), (141, .bipush (-2), 2), (143, .ireturn, 1), (144, .iload_n 1, 1), (145, .tableswitch 42 0 2 #[27, 32, 37], 27), (172, .aload_n 0, 1), (173, .getfield 72, 3), (176, .ireturn, 1), (177, .aload_n 0, 1), (178, .getfield 87, 3), (181, .ireturn, 1), (182, .aload_n 0, 1), (183, .getfield 80, 3), (186, .ireturn, 1), (187, .iload_n 1, 1), (188, .iconst 3, 1), (189, .bipush 6, 2), (191, .invokestatic 76, 3), (194, .ifCond .eq 14, 3), (197, .aload_n 0, 1), (198, .getfield 25, 3), (201, .iload_n 1, 1), (202, .iconst 3, 1), (203, .isub, 1), (204, .iaload, 1), (205, .goto 5, 3), (208, .bipush (-2), 2), (210, .ireturn, 1)]
theorem cdX5_told_1_ok : ∀ x ∈ cdX5_told_1, decode prog_7_method_44_code x.1 = .ok x.2 := by decide +kernel
def cdX5_told : List (Nat × Instr × Nat) := cdX5_told_0 ++ (cdX5_told_1)
theorem cdX5_told_ok : ∀ x ∈ cdX5_told, decode prog_7_method_44_code x.1 = .ok x.2 := fun x h => (List.mem_append.mp h).elim (fun h => cdX5_told_0_ok x h) (fun h => cdX5_told_1_ok x h)
def qX5_told : MI := (RX5, yX5_told, prog_7_method_44_code, 3, some .int, cdX5_told, flX5, [], 2, 43)
theorem qX5_told_ok : MOk qX5_told := ⟨cdX5_told_ok, flX5_ok, fun _ h => absurd h List.not_mem_nil, tw768, tw6, by decide +kernel, rfl, by decide +kernel, by decide +kernel⟩
def yJ6_bitCount : MethodName := ⟨"java/lang/Integer", "bitCount", "(I)I"⟩
def cdJ6_bitCount_0 : List (Nat × Instr × Nat) := [(0, .iload_n 0, 1), (1, .iload_n 0, 1), (2, .iconst 1, 1), (3, .iushr, 1), (4, .ldc_w 265, 3), (7, .iand, 1), (8, .isub, 1), (9, .istore_n 0, 1), (10, .iload_n 0, 1), (11, .ldc_w 266, 3), (14, .iand, 1), (15, .iload_n 0, 1), (16, .iconst 2, 1), (17, .iushr, 1), (18, .ldc_w 266, 3), (21, .iand, 1), (22, .iadd, 1), (23, .istore_n 0, 1), (24, .iload_n 0, 1), (25, .iload_n 0, 1), (26, .iconst 4, 1), (27, .iushr, 1), (28, .iadd, 1), (29, .ldc_w 267, 3), (32, .iand, 1), (33, .istore_n 0, 1), (34, .iload_n 0, 1), (35, .iload_n 0, 1), (36, .bipush 8, 2), (38, .iushr, 1), (39, .iadd, 1), (40, .istore_n 0, 1), (41, .iload_n 0, 1), (42, .iload_n 0, 1), (43, .bipush 16, 2), (45, .iushr, 1), (46, .iadd, 1), (47, .istore_n 0, 1), (48, .iload_n 0, 1), (49, .bipush 63, 2), (51, .iand, 1), (52, .ireturn, 1)]
theorem cdJ6_bitCount_0_ok : ∀ x ∈ cdJ6_bitCount_0, decode prog_8_method_49_code x.1 = .ok x.2 := by decide +kernel
def cdJ6_bitCount : List (Nat × Instr × Nat) := cdJ6_bitCount_0
theorem cdJ6_bitCount_ok : ∀ x ∈ cdJ6_bitCount, decode prog_8_method_49_code x.1 = .ok x.2 := fun x h => cdJ6_bitCount_0_ok x h
def qJ6_bitCount : MI := ("java/lang/Integer", yJ6_bitCount, prog_8_method_49_code, 1, some .int, cdJ6_bitCount, [], [(265, 1431655765), (266, 858993459), (267, 252645135)], 0, 0)
theorem qJ6_bitCount_ok : MOk qJ6_bitCount := ⟨cdJ6_bitCount_ok, fun _ h => absurd h List.not_mem_nil, List.forall_mem_cons.mpr ⟨⟨by decide, tw367⟩, List.forall_mem_cons.mpr ⟨⟨by decide, tw368⟩, List.forall_mem_cons.mpr ⟨⟨by decide, tw369⟩, fun _ h => absurd h List.not_mem_nil⟩⟩⟩, tw366, tw8, by decide +kernel, rfl, by decide +kernel, by decide +kernel⟩
def yL_law : MethodName := ⟨RL, "law", "([I)Z"⟩
def cdL_law_0 : List (Nat × Instr × Nat) := [(0, .new 7, 3), (3, .dup, 1), (4, .invokespecial 9, 3), (7, .astore_n 1, 1), (8, .new 10, 3), (11, .dup, 1), (12, .invokespecial 12, 3), (15, .astore_n 2, 1), (16, .iconst 0, 1), (17, .istore_n 3, 1), (18, .iload_n 3, 1), (19, .aload_n 0, 1), (20, .arraylength, 1), (21, .iconst 4, 1), (22, .isub, 1), (23, .if_icmp .gt 617, 3), (26, .aload_n 0, 1), (27, .iload_n 3, 1), (28, .iaload, 1), (29, .bipush 31, 2), (31, .iand, 1), (32, .tableswitch 602 0 17 #[88, 121, 164, 197, 230, 263, 296, 329, 342, 385, 408, 431, 454, 477, 510, 533, 556, 579], 88), (120, .aload_n 1, 1), (121, .aload_n 0, 1), (122, .iload_n 3, 1), (123, .iconst 1, 1), (124, .iadd, 1), (125, .iaload, 1), (126, .aload_n 0, 1), (127, .iload_n 3, 1), (128, .iconst 2, 1), (129, .iadd, 1), (130, .iaload, 1), (131, .invokevirtual 13, 3), (134, .aload_n 2, 1), (135, .aload_n 0, 1), (136, .iload_n 3, 1), (137, .iconst 1, 1), (138, .iadd, 1), (139, .iaload, 1), (140, .aload_n 0, 1), (141, .iload_n 3, 1), (142, .iconst 2, 1), (143, .iadd, 1), (144, .iaload, 1), (145, .invokevirtual 17, 3), (148, .if_icmp .eq 486, 3), (151, .iconst 0, 1), (152, .ireturn, 1), (153, .aload_n 1, 1), (154, .aload_n 0, 1), (155, .iload_n 3, 1), (156, .iconst 1, 1), (157, .iadd, 1), (158, .iaload, 1), (159, .aload_n 0, 1), (160, .iload_n 3, 1), (161, .iconst 2, 1), (162, .iadd, 1), (163, .iaload, 1)]
theorem cdL_law_0_ok : ∀ x ∈ cdL_law_0, decode code x.1 = .ok x.2 := by decide +kernel
def cdL_law_1 : List (Nat × Instr × Nat) := [(164, .aload_n 0, 1), (165, .iload_n 3, 1), (166, .iconst 3, 1), (167, .iadd, 1), (168, .iaload, 1), (169, .invokevirtual 18, 3), (172, .aload_n 2, 1), (173, .aload_n 0, 1), (174, .iload_n 3, 1), (175, .iconst 1, 1), (176, .iadd, 1), (177, .iaload, 1), (178, .aload_n 0, 1), (179, .iload_n 3, 1), (180, .iconst 2, 1), (181, .iadd, 1), (182, .iaload, 1), (183, .aload_n 0, 1), (184, .iload_n 3, 1), (185, .iconst 3, 1), (186, .iadd, 1), (187, .iaload, 1), (188, .invokevirtual 22, 3), (191, .if_icmp .eq 443, 3), (194, .iconst 0, 1), (195, .ireturn, 1), (196, .aload_n 1, 1), (197, .aload_n 0, 1), (198, .iload_n 3, 1), (199, .iconst 1, 1), (200, .iadd, 1), (201, .iaload, 1), (202, .aload_n 0, 1), (203, .iload_n 3, 1), (204, .iconst 2, 1), (205, .iadd, 1), (206, .iaload, 1), (207, .invokevirtual 23, 3), (210, .aload_n 2, 1), (211, .aload_n 0, 1), (212, .iload_n 3, 1), (213, .iconst 1, 1), (214, .iadd, 1), (215, .iaload, 1), (216, .aload_n 0, 1), (217, .iload_n 3, 1), (218, .iconst 2, 1), (219, .iadd, 1), (220, .iaload, 1), (221, .invokevirtual 26, 3), (224, .if_icmp .eq 410, 3), (227, .iconst 0, 1), (228, .ireturn, 1), (229, .aload_n 1, 1), (230, .aload_n 0, 1), (231, .iload_n 3, 1), (232, .iconst 1, 1), (233, .iadd, 1), (234, .iaload, 1), (235, .aload_n 0, 1)]
theorem cdL_law_1_ok : ∀ x ∈ cdL_law_1, decode code x.1 = .ok x.2 := by decide +kernel
def cdL_law_2 : List (Nat × Instr × Nat) := [(236, .iload_n 3, 1), (237, .iconst 2, 1), (238, .iadd, 1), (239, .iaload, 1), (240, .invokevirtual 27, 3), (243, .aload_n 2, 1), (244, .aload_n 0, 1), (245, .iload_n 3, 1), (246, .iconst 1, 1), (247, .iadd, 1), (248, .iaload, 1), (249, .aload_n 0, 1), (250, .iload_n 3, 1), (251, .iconst 2, 1), (252, .iadd, 1), (253, .iaload, 1), (254, .invokevirtual 30, 3), (257, .if_icmp .eq 377, 3), (260, .iconst 0, 1), (261, .ireturn, 1), (262, .aload_n 1, 1), (263, .aload_n 0, 1), (264, .iload_n 3, 1), (265, .iconst 1, 1), (266, .iadd, 1), (267, .iaload, 1), (268, .aload_n 0, 1), (269, .iload_n 3, 1), (270, .iconst 2, 1), (271, .iadd, 1), (272, .iaload, 1), (273, .invokevirtual 31, 3), (276, .aload_n 2, 1), (277, .aload_n 0, 1), (278, .iload_n 3, 1), (279, .iconst 1, 1), (280, .iadd, 1), (281, .iaload, 1), (282, .aload_n 0, 1), (283, .iload_n 3, 1), (284, .iconst 2, 1), (285, .iadd, 1), (286, .iaload, 1), (287, .invokevirtual 34, 3), (290, .if_icmp .eq 344, 3), (293, .iconst 0, 1), (294, .ireturn, 1), (295, .aload_n 1, 1), (296, .aload_n 0, 1), (297, .iload_n 3, 1), (298, .iconst 1, 1), (299, .iadd, 1), (300, .iaload, 1), (301, .aload_n 0, 1), (302, .iload_n 3, 1), (303, .iconst 2, 1), (304, .iadd, 1), (305, .iaload, 1), (306, .invokevirtual 35, 3), (309, .aload_n 2, 1)]
theorem cdL_law_2_ok : ∀ x ∈ cdL_law_2, decode code x.1 = .ok x.2 := by decide +kernel
def cdL_law_3 : List (Nat × Instr × Nat) := [(310, .aload_n 0, 1), (311, .iload_n 3, 1), (312, .iconst 1, 1), (313, .iadd, 1), (314, .iaload, 1), (315, .aload_n 0, 1), (316, .iload_n 3, 1), (317, .iconst 2, 1), (318, .iadd, 1), (319, .iaload, 1), (320, .invokevirtual 38, 3), (323, .if_icmp .eq 311, 3), (326, .iconst 0, 1), (327, .ireturn, 1), (328, .aload_n 1, 1), (329, .aload_n 0, 1), (330, .iload_n 3, 1), (331, .iconst 1, 1), (332, .iadd, 1), (333, .iaload, 1), (334, .aload_n 0, 1), (335, .iload_n 3, 1), (336, .iconst 2, 1), (337, .iadd, 1), (338, .iaload, 1), (339, .invokevirtual 39, 3), (342, .aload_n 2, 1), (343, .aload_n 0, 1), (344, .iload_n 3, 1), (345, .iconst 1, 1), (346, .iadd, 1), (347, .iaload, 1), (348, .aload_n 0, 1), (349, .iload_n 3, 1), (350, .iconst 2, 1), (351, .iadd, 1), (352, .iaload, 1), (353, .invokevirtual 42, 3), (356, .if_icmp .eq 278, 3), (359, .iconst 0, 1), (360, .ireturn, 1), (361, .aload_n 1, 1), (362, .invokevirtual 43, 3), (365, .aload_n 2, 1), (366, .invokevirtual 47, 3), (369, .if_icmp .eq 265, 3), (372, .iconst 0, 1), (373, .ireturn, 1), (374, .aload_n 1, 1), (375, .aload_n 0, 1), (376, .iload_n 3, 1), (377, .iconst 1, 1), (378, .iadd, 1), (379, .iaload, 1), (380, .aload_n 0, 1), (381, .iload_n 3, 1), (382, .iconst 2, 1), (383, .iadd, 1), (384, .iaload, 1), (385, .aload_n 0, 1)]
theorem cdL_law_3_ok : ∀ x ∈ cdL_law_3, decode code x.1 = .ok x.2 := by decide +kernel
def cdL_law_4 : List (Nat × Instr × Nat) := [(386, .iload_n 3, 1), (387, .iconst 3, 1), (388, .iadd, 1), (389, .iaload, 1), (390, .invokevirtual 48, 3), (393, .aload_n 2, 1), (394, .aload_n 0, 1), (395, .iload_n 3, 1), (396, .iconst 1, 1), (397, .iadd, 1), (398, .iaload, 1), (399, .aload_n 0, 1), (400, .iload_n 3, 1), (401, .iconst 2, 1), (402, .iadd, 1), (403, .iaload, 1), (404, .aload_n 0, 1), (405, .iload_n 3, 1), (406, .iconst 3, 1), (407, .iadd, 1), (408, .iaload, 1), (409, .invokevirtual 51, 3), (412, .if_icmp .eq 222, 3), (415, .iconst 0, 1), (416, .ireturn, 1), (417, .aload_n 1, 1), (418, .aload_n 0, 1), (419, .iload_n 3, 1), (420, .iconst 1, 1), (421, .iadd, 1), (422, .iaload, 1), (423, .invokevirtual 52, 3), (426, .aload_n 2, 1), (427, .aload_n 0, 1), (428, .iload_n 3, 1), (429, .iconst 1, 1), (430, .iadd, 1), (431, .iaload, 1), (432, .invokevirtual 56, 3), (435, .if_icmp .eq 199, 3), (438, .iconst 0, 1), (439, .ireturn, 1), (440, .aload_n 1, 1), (441, .aload_n 0, 1), (442, .iload_n 3, 1), (443, .iconst 1, 1), (444, .iadd, 1), (445, .iaload, 1), (446, .invokevirtual 57, 3), (449, .aload_n 2, 1), (450, .aload_n 0, 1), (451, .iload_n 3, 1), (452, .iconst 1, 1), (453, .iadd, 1), (454, .iaload, 1), (455, .invokevirtual 60, 3), (458, .if_icmp .eq 176, 3), (461, .iconst 0, 1), (462, .ireturn, 1), (463, .aload_n 1, 1)]
theorem cdL_law_4_ok : ∀ x ∈ cdL_law_4, decode code x.1 = .ok x.2 := by decide +kernel
def cdL_law_5 : List (Nat × Instr × Nat) := [(464, .aload_n 0, 1), (465, .iload_n 3, 1), (466, .iconst 1, 1), (467, .iadd, 1), (468, .iaload, 1), (469, .invokevirtual 61, 3), (472, .aload_n 2, 1), (473, .aload_n 0, 1), (474, .iload_n 3, 1), (475, .iconst 1, 1), (476, .iadd, 1), (477, .iaload, 1), (478, .invokevirtual 64, 3), (481, .if_icmp .eq 153, 3), (484, .iconst 0, 1), (485, .ireturn, 1), (486, .aload_n 1, 1), (487, .aload_n 0, 1), (488, .iload_n 3, 1), (489, .iconst 1, 1), (490, .iadd, 1), (491, .iaload, 1), (492, .invokevirtual 65, 3), (495, .aload_n 2, 1), (496, .aload_n 0, 1), (497, .iload_n 3, 1), (498, .iconst 1, 1), (499, .iadd, 1), (500, .iaload, 1), (501, .invokevirtual 68, 3), (504, .if_icmp .eq 130, 3), (507, .iconst 0, 1), (508, .ireturn, 1), (509, .aload_n 1, 1), (510, .aload_n 0, 1), (511, .iload_n 3, 1), (512, .iconst 1, 1), (513, .iadd, 1), (514, .iaload, 1), (515, .aload_n 0, 1), (516, .iload_n 3, 1), (517, .iconst 2, 1), (518, .iadd, 1), (519, .iaload, 1), (520, .invokevirtual 69, 3), (523, .aload_n 2, 1), (524, .aload_n 0, 1), (525, .iload_n 3, 1), (526, .iconst 1, 1), (527, .iadd, 1), (528, .iaload, 1), (529, .aload_n 0, 1), (530, .iload_n 3, 1), (531, .iconst 2, 1), (532, .iadd, 1), (533, .iaload, 1), (534, .invokevirtual 72, 3), (537, .if_icmp .eq 97, 3), (540, .iconst 0, 1), (541, .ireturn, 1)]
theorem cdL_law_5_ok : ∀ x ∈ cdL_law_5, decode code x.1 = .ok x.2 := by decide +kernel
def cdL_law_6 : List (Nat × Instr × Nat) := [(542, .aload_n 1, 1), (543, .aload_n 0, 1), (544, .iload_n 3, 1), (545, .iconst 1, 1), (546, .iadd, 1), (547, .iaload, 1), (548, .invokevirtual 73, 3), (551, .aload_n 2, 1), (552, .aload_n 0, 1), (553, .iload_n 3, 1), (554, .iconst 1, 1), (555, .iadd, 1), (556, .iaload, 1), (557, .invokevirtual 76, 3), (560, .if_icmp .eq 74, 3), (563, .iconst 0, 1), (564, .ireturn, 1), (565, .aload_n 1, 1), (566, .aload_n 0, 1), (567, .iload_n 3, 1), (568, .iconst 1, 1), (569, .iadd, 1), (570, .iaload, 1), (571, .invokevirtual 77, 3), (574, .aload_n 2, 1), (575, .aload_n 0, 1), (576, .iload_n 3, 1), (577, .iconst 1, 1), (578, .iadd, 1), (579, .iaload, 1), (580, .invokevirtual 80, 3), (583, .if_icmp .eq 51, 3), (586, .iconst 0, 1), (587, .ireturn, 1), (588, .aload_n 1, 1), (589, .aload_n 0, 1), (590, .iload_n 3, 1), (591, .iconst 1, 1), (592, .iadd, 1), (593, .iaload, 1), (594, .invokevirtual 81, 3), (597, .aload_n 2, 1), (598, .aload_n 0, 1), (599, .iload_n 3, 1), (600, .iconst 1, 1), (601, .iadd, 1), (602, .iaload, 1), (603, .invokevirtual 84, 3), (606, .if_icmp .eq 28, 3), (609, .iconst 0, 1), (610, .ireturn, 1), (611, .aload_n 1, 1), (612, .aload_n 0, 1), (613, .iload_n 3, 1), (614, .iconst 1, 1), (615, .iadd, 1), (616, .iaload, 1), (617, .invokevirtual 85, 3), (620, .aload_n 2, 1), (621, .aload_n 0, 1)]
theorem cdL_law_6_ok : ∀ x ∈ cdL_law_6, decode code x.1 = .ok x.2 := by decide +kernel
def cdL_law_7 : List (Nat × Instr × Nat) := [(622, .iload_n 3, 1), (623, .iconst 1, 1), (624, .iadd, 1), (625, .iaload, 1), (626, .invokevirtual 88, 3), (629, .if_icmp .eq 5, 3), (632, .iconst 0, 1), (633, .ireturn, 1), (634, .iinc 3 4, 3), (637, .goto (-619), 3), (640, .iconst 1, 1), (641, .ireturn, 1)]
theorem cdL_law_7_ok : ∀ x ∈ cdL_law_7, decode code x.1 = .ok x.2 := by decide +kernel
def cdL_law : List (Nat × Instr × Nat) := cdL_law_0 ++ (cdL_law_1 ++ (cdL_law_2 ++ (cdL_law_3 ++ (cdL_law_4 ++ (cdL_law_5 ++ (cdL_law_6 ++ (cdL_law_7)))))))
theorem cdL_law_ok : ∀ x ∈ cdL_law, decode code x.1 = .ok x.2 := fun x h => (List.mem_append.mp h).elim (fun h => cdL_law_0_ok x h) (fun h => (List.mem_append.mp h).elim (fun h => cdL_law_1_ok x h) (fun h => (List.mem_append.mp h).elim (fun h => cdL_law_2_ok x h) (fun h => (List.mem_append.mp h).elim (fun h => cdL_law_3_ok x h) (fun h => (List.mem_append.mp h).elim (fun h => cdL_law_4_ok x h) (fun h => (List.mem_append.mp h).elim (fun h => cdL_law_5_ok x h) (fun h => (List.mem_append.mp h).elim (fun h => cdL_law_6_ok x h) (fun h => cdL_law_7_ok x h)))))))
def qL_law : MI := (RL, yL_law, code, 4, some .boolean, cdL_law, [], [], 11, 448)
theorem lkX4_20 : LkS RX4 20 yX4_isPlace := ⟨tw156, tw157⟩
theorem lkX4_38 : LkV RX4 38 yX0_isTaken := ⟨tw159, tw160, tw161⟩
theorem lkX4_46 : LkV RX4 46 yX0_addCrossing := ⟨tw163, tw164, tw165⟩
theorem lkX4_50 : LkV RX4 50 yX0_hasCrossing := ⟨tw174, tw175, tw176⟩
theorem lkX4_54 : LkV RX4 54 yX0_areInOneRow := ⟨tw178, tw179, tw180⟩
theorem lkX4_57 : LkV RX4 57 yX0_areJoined := ⟨tw183, tw184, tw185⟩
theorem lkX4_63 : LkV RX4 63 yX0_addRoad := ⟨tw187, tw188, tw189⟩
theorem lkX4_71 : LkV RX4 71 yX1_allows := ⟨tw202, tw203, tw204⟩
theorem lkX4_76 : LkV RX4 76 yX1_change := ⟨tw208, tw209, tw210⟩
theorem lkX4_80 : LkV RX4 80 yX0_roadsInCell := ⟨tw216, tw217, tw218⟩
theorem lkX4_83 : LkV RX4 83 yX0_leastBetween := ⟨tw233, tw234, tw235⟩
theorem lkX4_86 : LkV RX4 86 yX0_hasSpot := ⟨tw241, tw242, tw243⟩
theorem lkX4_89 : LkV RX4 89 yX0_wayLength := ⟨tw245, tw246, tw247⟩
theorem lkX4_92 : LkV RX4 92 yX3_addFix := ⟨tw280, tw281, tw282⟩
theorem lkX4_95 : LkV RX4 95 yX3_dropFix := ⟨tw374, tw375, tw376⟩
theorem lkX4_98 : LkV RX4 98 yX3_hasFix := ⟨tw382, tw293, tw294⟩
theorem lkX4_105 : LkV RX4 105 yX3_tellCandidate := ⟨tw383, tw384, tw385⟩
theorem lkX4_109 : LkV RX4 109 yX3_chosenSpot := ⟨tw391, tw392, tw393⟩
theorem lkX4_120 : LkV RX4 120 yX3_stepLength := ⟨tw407, tw408, tw409⟩
theorem lkX4_123 : LkV RX4 123 yX3_stepCrossing := ⟨tw420, tw421, tw422⟩
theorem lkX4_126 : LkV RX4 126 yX3_sumOfCosts := ⟨tw446, tw447, tw448⟩
theorem lkX4_130 : LkV RX4 130 yX3_countPieces := ⟨tw454, tw455, tw456⟩
theorem lkX4_133 : LkV RX4 133 yX3_countGaps := ⟨tw458, tw459, tw460⟩
theorem lkX4_136 : LkV RX4 136 yX3_countDecided := ⟨tw462, tw463, tw464⟩
theorem lkX4_139 : LkV RX4 139 yX3_sumOfSteps := ⟨tw466, tw467, tw468⟩
theorem lkX4_142 : LkV RX4 142 yX2_copyFrom := ⟨tw475, tw476, tw477⟩
theorem lkX4_150 : LkV RX4 150 yX4_tellCount := ⟨tw504, tw506, (mg (i := 25) (by decide +kernel) (by decide +kernel))⟩
theorem lkX4_153 : LkV RX4 153 yX0_tellCrossing := ⟨tw512, tw513, tw514⟩
theorem lkX4_156 : LkV RX4 156 yX0_tellRoad := ⟨tw516, tw517, tw518⟩
theorem lkX4_159 : LkV RX4 159 yX3_tellFix := ⟨tw520, tw521, tw522⟩
theorem lkX4_162 : LkV RX4 162 yX1_tellRule := ⟨tw508, tw509, tw510⟩
theorem lkX0_40 : LkV RX0 40 yX0_hasCrossing := ⟨tw182, tw175, tw176⟩
theorem lkX0_44 : LkS RX0 44 yX0_pair := ⟨tw167, tw168⟩
theorem lkX0_54 : LkV RX0 54 yX0_shortenBy := ⟨tw194, tw196, (mg (i := 0) (by decide +kernel) (by decide +kernel))⟩
theorem lkX0_58 : LkS RX0 58 yX0_spans := ⟨tw220, tw221⟩
theorem lkX0_68 : LkV RX0 68 yX0_hasRoad := ⟨tw304, tw305, tw306⟩
theorem lkX0_71 : LkV RX0 71 yX0_nearestX := ⟨tw308, tw310, (mg (i := 9) (by decide +kernel) (by decide +kernel))⟩
theorem lkX0_74 : LkV RX0 74 yX0_nearestY := ⟨tw315, tw317, (mg (i := 10) (by decide +kernel) (by decide +kernel))⟩
theorem lkX0_77 : LkS RX0 77 yX0_held := ⟨tw312, tw313⟩
theorem lkX0_81 : LkV RX0 81 yX0_hasSpot := ⟨tw249, tw242, tw243⟩
theorem lkX0_84 : LkV RX0 84 yX0_lengthOut := ⟨tw250, tw252, (mg (i := 1) (by decide +kernel) (by decide +kernel))⟩
theorem lkX0_87 : LkV RX0 87 yX0_wayLength := ⟨tw432, tw246, tw247⟩
theorem lkX0_90 : LkV RX0 90 yX0_lengthAlong := ⟨tw254, tw256, (mg (i := 2) (by decide +kernel) (by decide +kernel))⟩
theorem lkX0_93 : LkS RX0 93 yX0_leavesByLast := ⟨tw258, tw259⟩
theorem lkX0_96 : LkV RX0 96 yX0_leaveLength := ⟨tw261, tw263, (mg (i := 3) (by decide +kernel) (by decide +kernel))⟩
theorem lkX0_100 : LkV RX0 100 yX0_endOf := ⟨tw265, tw267, (mg (i := 4) (by decide +kernel) (by decide +kernel))⟩
theorem lkX0_103 : LkS RX0 103 yX0_comesByLast := ⟨tw269, tw270⟩
theorem lkX0_106 : LkV RX0 106 yX0_comeLength := ⟨tw272, tw274, (mg (i := 5) (by decide +kernel) (by decide +kernel))⟩
theorem lkX0_109 : LkV RX0 109 yX0_wayOut := ⟨tw428, tw430, (mg (i := 21) (by decide +kernel) (by decide +kernel))⟩
theorem lkX0_112 : LkV RX0 112 yX0_nextCrossing := ⟨tw433, tw435, (mg (i := 22) (by decide +kernel) (by decide +kernel))⟩
theorem lkX0_115 : LkV RX0 115 yX0_leastBetween := ⟨tw437, tw234, tw235⟩
theorem lkX0_118 : LkV RX0 118 yX0_leadsFrom := ⟨tw438, tw440, (mg (i := 23) (by decide +kernel) (by decide +kernel))⟩
theorem lkX2_36 : LkV RX2 36 yX0_copyFrom := ⟨tw479, tw480, tw481⟩
theorem lkX2_40 : LkV RX2 40 yX1_copyFrom := ⟨tw486, tw487, tw488⟩
theorem lkX2_43 : LkV RX2 43 yX3_copyFrom := ⟨tw491, tw492, tw493⟩
theorem lkX3_58 : LkV RX3 58 yX3_hasFix := ⟨tw292, tw293, tw294⟩
theorem lkX3_62 : LkV RX3 62 yX3_lastFixed := ⟨tw284, tw286, (mg (i := 6) (by decide +kernel) (by decide +kernel))⟩
theorem lkX3_66 : LkV RX3 66 yX3_findCandidates := ⟨tw296, tw298, (mg (i := 8) (by decide +kernel) (by decide +kernel))⟩
theorem lkX3_70 : LkV RX3 70 yX3_beginPiece := ⟨tw326, tw328, (mg (i := 11) (by decide +kernel) (by decide +kernel))⟩
theorem lkX3_74 : LkV RX3 74 yX3_goesOn := ⟨tw330, tw332, (mg (i := 12) (by decide +kernel) (by decide +kernel))⟩
theorem lkX3_78 : LkV RX3 78 yX3_settle := ⟨tw340, tw342, (mg (i := 14) (by decide +kernel) (by decide +kernel))⟩
theorem lkX3_81 : LkV RX3 81 yX3_isGap := ⟨tw288, tw290, (mg (i := 7) (by decide +kernel) (by decide +kernel))⟩
theorem lkX3_89 : LkV RX3 89 yX0_apartFromRoad := ⟨tw300, tw301, tw302⟩
theorem lkX3_98 : LkS RX3 98 yX3_slot := ⟨tw319, tw320⟩
theorem lkX3_102 : LkV RX3 102 yX0_nearestSpot := ⟨tw322, tw323, tw324⟩
theorem lkX3_105 : LkV RX3 105 yX3_joinCandidate := ⟨tw334, tw336, (mg (i := 13) (by decide +kernel) (by decide +kernel))⟩
theorem lkX3_115 : LkV RX3 115 yX0_wayLength := ⟨tw339, tw246, tw247⟩
theorem lkX3_118 : LkV RX3 118 yX3_hasCandidate := ⟨tw348, tw350, (mg (i := 16) (by decide +kernel) (by decide +kernel))⟩
theorem lkX3_121 : LkV RX3 121 yX3_backOf := ⟨tw344, tw346, (mg (i := 15) (by decide +kernel) (by decide +kernel))⟩
theorem lkX3_124 : LkV RX3 124 yX3_backsOf := ⟨tw352, tw354, (mg (i := 17) (by decide +kernel) (by decide +kernel))⟩
theorem lkX3_127 : LkV RX3 127 yX3_cheapest := ⟨tw356, tw358, (mg (i := 18) (by decide +kernel) (by decide +kernel))⟩
theorem lkX3_130 : LkV RX3 130 yX3_alive := ⟨tw360, tw362, (mg (i := 19) (by decide +kernel) (by decide +kernel))⟩
theorem lkX3_133 : LkS RX3 133 yJ6_bitCount := ⟨tw364, tw365⟩
theorem lkX3_138 : LkV RX3 138 yX3_stepStart := ⟨tw411, tw413, (mg (i := 20) (by decide +kernel) (by decide +kernel))⟩
theorem lkX3_141 : LkV RX3 141 yX3_chosenSpot := ⟨tw415, tw392, tw393⟩
theorem lkX3_144 : LkV RX3 144 yX0_crossingOnWay := ⟨tw424, tw425, tw426⟩
theorem lkX3_147 : LkV RX3 147 yX3_endsPiece := ⟨tw450, tw452, (mg (i := 24) (by decide +kernel) (by decide +kernel))⟩
theorem lkX3_150 : LkV RX3 150 yX3_stepLength := ⟨tw470, tw408, tw409⟩
theorem lkL_13 : LkV RL 13 yX4_crossing := ⟨tw152, tw153, tw154⟩
theorem lkL_17 : LkV RL 17 yX5_crossing := ⟨tw600, tw601, tw602⟩
theorem lkL_18 : LkV RL 18 yX4_road := ⟨tw170, tw171, tw172⟩
theorem lkL_22 : LkV RL 22 yX5_road := ⟨tw607, tw608, tw609⟩
theorem lkL_23 : LkV RL 23 yX4_rule := ⟨tw198, tw199, tw200⟩
theorem lkL_26 : LkV RL 26 yX5_rule := ⟨tw615, tw616, tw617⟩
theorem lkL_27 : LkV RL 27 yX4_cell := ⟨tw212, tw213, tw214⟩
theorem lkL_30 : LkV RL 30 yX5_cell := ⟨tw619, tw620, tw621⟩
theorem lkL_31 : LkV RL 31 yX4_between := ⟨tw229, tw230, tw231⟩
theorem lkL_34 : LkV RL 34 yX5_between := ⟨tw644, tw645, tw646⟩
theorem lkL_35 : LkV RL 35 yX4_way := ⟨tw237, tw238, tw239⟩
theorem lkL_38 : LkV RL 38 yX5_way := ⟨tw653, tw654, tw655⟩
theorem lkL_39 : LkV RL 39 yX4_fix := ⟨tw276, tw277, tw278⟩
theorem lkL_42 : LkV RL 42 yX5_fix := ⟨tw673, tw674, tw675⟩
theorem lkL_43 : LkV RL 43 yX4_drop := ⟨tw370, tw371, tw372⟩
theorem lkL_47 : LkV RL 47 yX5_drop := ⟨tw677, tw678, tw679⟩
theorem lkL_48 : LkV RL 48 yX4_candidate := ⟨tw378, tw379, tw380⟩
theorem lkL_51 : LkV RL 51 yX5_candidate := ⟨tw681, tw682, tw683⟩
theorem lkL_52 : LkV RL 52 yX4_best := ⟨tw387, tw388, tw389⟩
theorem lkL_56 : LkV RL 56 yX5_best := ⟨tw717, tw718, tw719⟩
theorem lkL_57 : LkV RL 57 yX4_decided := ⟨tw395, tw396, tw397⟩
theorem lkL_60 : LkV RL 60 yX5_decided := ⟨tw721, tw722, tw723⟩
theorem lkL_61 : LkV RL 61 yX4_piece := ⟨tw399, tw400, tw401⟩
theorem lkL_64 : LkV RL 64 yX5_piece := ⟨tw733, tw734, tw735⟩
theorem lkL_65 : LkV RL 65 yX4_step := ⟨tw403, tw404, tw405⟩
theorem lkL_68 : LkV RL 68 yX5_step := ⟨tw737, tw738, tw739⟩
theorem lkL_69 : LkV RL 69 yX4_through := ⟨tw416, tw417, tw418⟩
theorem lkL_72 : LkV RL 72 yX5_through := ⟨tw745, tw746, tw747⟩
theorem lkL_73 : LkV RL 73 yX4_total := ⟨tw442, tw443, tw444⟩
theorem lkL_76 : LkV RL 76 yX5_total := ⟨tw753, tw754, tw755⟩
theorem lkL_77 : LkV RL 77 yX4_image := ⟨tw471, tw472, tw473⟩
theorem lkL_80 : LkV RL 80 yX5_image := ⟨tw757, tw758, tw759⟩
theorem lkL_81 : LkV RL 81 yX4_restore := ⟨tw496, tw497, tw498⟩
theorem lkL_84 : LkV RL 84 yX5_restore := ⟨tw761, tw762, tw763⟩
theorem lkL_85 : LkV RL 85 yX4_told := ⟨tw500, tw501, tw502⟩
theorem lkL_88 : LkV RL 88 yX5_told := ⟨tw765, tw766, tw767⟩
theorem lkX5_68 : LkS RX5 68 yX5_off := ⟨tw630, tw631⟩
theorem lkX5_76 : LkS RX5 76 yX5_in := ⟨tw604, tw605⟩
theorem lkX5_83 : LkV RX5 83 yX5_isCrossing := ⟨tw611, tw613, (mg (i := 26) (by decide +kernel) (by decide +kernel))⟩
theorem lkX5_90 : LkS RX5 90 yX5_apart := ⟨tw627, tw628⟩
theorem lkX5_94 : LkS RX5 94 yX5_towards := ⟨tw637, tw638⟩
theorem lkX5_98 : LkV RX5 98 yX5_length := ⟨tw623, tw625, (mg (i := 27) (by decide +kernel) (by decide +kernel))⟩
theorem lkX5_102 : LkV RX5 102 yX5_spotX := ⟨tw633, tw635, (mg (i := 28) (by decide +kernel) (by decide +kernel))⟩
theorem lkX5_105 : LkV RX5 105 yX5_spotY := ⟨tw640, tw642, (mg (i := 29) (by decide +kernel) (by decide +kernel))⟩
theorem lkX5_109 : LkV RX5 109 yX5_layFar := ⟨tw648, tw650, (mg (i := 30) (by decide +kernel) (by decide +kernel))⟩
theorem lkX5_112 : LkV RX5 112 yX5_out := ⟨tw669, tw671, (mg (i := 34) (by decide +kernel) (by decide +kernel))⟩
theorem lkX5_115 : LkV RX5 115 yX5_leastOut := ⟨tw665, tw667, (mg (i := 33) (by decide +kernel) (by decide +kernel))⟩
theorem lkX5_118 : LkV RX5 118 yX5_isSpot := ⟨tw657, tw659, (mg (i := 31) (by decide +kernel) (by decide +kernel))⟩
theorem lkX5_121 : LkV RX5 121 yX5_wayOf := ⟨tw661, tw663, (mg (i := 32) (by decide +kernel) (by decide +kernel))⟩
theorem lkX5_124 : LkV RX5 124 yX5_nearest := ⟨tw697, tw699, (mg (i := 38) (by decide +kernel) (by decide +kernel))⟩
theorem lkX5_130 : LkV RX5 130 yX5_layCandidates := ⟨tw693, tw695, (mg (i := 37) (by decide +kernel) (by decide +kernel))⟩
theorem lkX5_134 : LkV RX5 134 yX5_goOn := ⟨tw701, tw703, (mg (i := 39) (by decide +kernel) (by decide +kernel))⟩
theorem lkX5_138 : LkV RX5 138 yX5_begin := ⟨tw705, tw707, (mg (i := 40) (by decide +kernel) (by decide +kernel))⟩
theorem lkX5_141 : LkV RX5 141 yX5_next := ⟨tw709, tw711, (mg (i := 41) (by decide +kernel) (by decide +kernel))⟩
theorem lkX5_144 : LkV RX5 144 yX5_leastAt := ⟨tw713, tw715, (mg (i := 42) (by decide +kernel) (by decide +kernel))⟩
theorem lkX5_147 : LkV RX5 147 yX5_isFix := ⟨tw685, tw687, (mg (i := 35) (by decide +kernel) (by decide +kernel))⟩
theorem lkX5_150 : LkV RX5 150 yX5_layAll := ⟨tw689, tw691, (mg (i := 36) (by decide +kernel) (by decide +kernel))⟩
theorem lkX5_153 : LkV RX5 153 yX5_origin := ⟨tw729, tw731, (mg (i := 44) (by decide +kernel) (by decide +kernel))⟩
theorem lkX5_156 : LkV RX5 156 yX5_isDecided := ⟨tw725, tw727, (mg (i := 43) (by decide +kernel) (by decide +kernel))⟩
theorem lkX5_159 : LkV RX5 159 yX5_stepOf := ⟨tw741, tw743, (mg (i := 45) (by decide +kernel) (by decide +kernel))⟩
theorem lkX5_162 : LkV RX5 162 yX5_onward := ⟨tw749, tw751, (mg (i := 46) (by decide +kernel) (by decide +kernel))⟩
theorem lkX0_48 : Jvm.Cond.methodLink RX0 48 Lib.Math.abs.name ∈ gw_tbl := tw191
theorem lkX3_109 : Jvm.Cond.methodLink RX3 109 Lib.Math.abs.name ∈ gw_tbl := tw338
theorem ms_abs : Jvm.Cond.static Lib.Math.abs.name ∈ gw_tbl ∧ Jvm.Cond.code Lib.Math.abs.name Lib.Math.abs.code 1 (some .int) ∈ gw_tbl := ⟨tw192, tw193⟩
theorem lkX0_65 : Jvm.Cond.methodLink RX0 65 Lib.Math.max.name ∈ gw_tbl := tw226
theorem ms_max : Jvm.Cond.static Lib.Math.max.name ∈ gw_tbl ∧ Jvm.Cond.code Lib.Math.max.name Lib.Math.max.code 2 (some .int) ∈ gw_tbl := ⟨tw227, tw228⟩
theorem lkX0_62 : Jvm.Cond.methodLink RX0 62 Lib.Math.min.name ∈ gw_tbl := tw223
theorem ms_min : Jvm.Cond.static Lib.Math.min.name ∈ gw_tbl ∧ Jvm.Cond.code Lib.Math.min.name Lib.Math.min.code 2 (some .int) ∈ gw_tbl := ⟨tw224, tw225⟩
theorem ms_ini : Jvm.Cond.initialized "java/lang/Math" ∈ gw_tbl := tw7
theorem lkX0_121 : Jvm.Cond.methodLink RX0 121 arraycopyName ∈ gw_tbl := tw483
theorem lkX1_18 : Jvm.Cond.methodLink RX1 18 arraycopyName ∈ gw_tbl := tw490
theorem lkX3_153 : Jvm.Cond.methodLink RX3 153 arraycopyName ∈ gw_tbl := tw495
theorem ac_ok : Jvm.Cond.native arraycopyName ∈ gw_tbl ∧ Jvm.Cond.static arraycopyName ∈ gw_tbl ∧ Jvm.Cond.initialized "java/lang/System" ∈ gw_tbl := ⟨tw485, tw484, tw9⟩
theorem lkMOST : Jvm.Cond.fieldLink RX1 15 "RoadTrace$Rules" "MOST" "[I" ∈ gw_tbl := tw206
