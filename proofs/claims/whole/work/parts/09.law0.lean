def R_law : String := "RoadTraceLaw"
def lw_P (b : Addr) (xs : List Int32) (args : Array Value) (s : State) : Prop := args = #[.ref b] ∧ s.IntsAt b xs ∧ xs.length ≤ 2048 ∧ (Jvm.Cond.and given_1 narrow_1).before args s = true
def lw_Q (_ : Array Value) (s : State) (o : Outcome) (t : State) : Prop := o = .returned (some (.int 1)) ∧ Framed s o t [] 600000 7302250
def lw_Z (below : List Frame) (a : Array Value) (s : State) : State → Prop := fun t => ∃ o, t.status = .running ∧ Ended t below o ∧ lw_Q a s o t
/-- the law's own end, with 1 on the stack, nothing written that was there before, its room as the claim has it -/
theorem lw_ret {p : Program} {l : Launch} {e : Env} {s : State} {m : MethodId} {below : List Frame} {meth : Method} {c : Code} {b : Nat} (hx : p.tables.exec = Jvm.exec) (hb : c.code = code) (hr : meth.sig.returnType = ret) (hlocks : meth.locks = false) {pc : Nat} {H : Heap} {ls : Array Slot} (hdg : decode code pc = .ok (.ireturn, 1)) : W p l e room_1 s m #[Value.ref b] below meth c H [] 600000 7302250 (lw_Z below #[Value.ref b] s) (F0 m pc ls [.int 1]) := by
  intro T hT X
  obtain ⟨fs, hret, hrun, hended, hW, hframe⟩ := X.leave (v := some (.int 1)) (hlocks := hlocks) (fun h => by rw [hr] at h; cases h)
  have hmeth' : T.vm.method? m = some meth := X.method'
  refine ⟨T.setFrames fs, ?_, .returned (some (.int 1)), hrun, hended, rfl, ⟨_, rfl⟩, hW, hframe⟩
  jvm_step X.here [X.here.top, hx, hb, hdg, hmeth', hr, ret, narrow_b1]
  (try refine ⟨rfl, ?_⟩); (try refine ⟨rfl, ?_⟩)
  first | (intro acts; rw [hret _ acts rfl rfl rfl]) | rw [hret _ _ rfl rfl rfl]
  exact Steps.refl _
/-- what holds at the law's entry: the machine, the code, the tables' words (any of lw_tbl by 'hts w (by decide +kernel)'), the script of L ints xs at the cell b, what the Statement gives of the start (any of its parts by flat_of_before) -/
def lw_At (p : Program) (s : State) (m : MethodId) (meth : Method) (c : Code) (b L : Nat) (xs : Nat → Int32) : Prop :=
  p.tables.exec = Jvm.exec ∧ c.code = code ∧ meth.sig.returnType = ret ∧ c.maxLocals = 4 ∧ s.vm.findClass R_law = some m.cls ∧ (∀ w ∈ lw_tbl, w.before #[Value.ref b] s = true) ∧ va_X b L xs s s.heap ∧ b < s.heap.size ∧ meth.locks = false ∧ (Jvm.Cond.and given_1 narrow_1).before #[Value.ref b] s = true
/-! the law's own rules -/
theorem qL_md : MD qL_law := ⟨cdL_law_ok, fun _ h => absurd h List.not_mem_nil, fun _ h => absurd h List.not_mem_nil⟩
def Xs (L : Int) (xs : Nat → Int) : Zx → Prop
  | ((_, _, _, ad, A), _, _, _, s, _, _, _, _, _, _, _, _) => ∃ (n : Nat) (x : Nat → Int32), L = (n : Int) ∧ n ≤ 2048 ∧ va_X (ad 998) n x s s.heap ∧ ad 998 < s.heap.size ∧ ¬ A (ad 998) ∧ ∀ j, xs j = (x j).toInt
def Lz : Zx → Prop
  | ((_, _, _, _, A), _, _, R, s, _, args, below, meth, _, cells, slots, QW) => R = room_1 ∧ (∃ b, args = #[Value.ref b]) ∧ cells = 600000 ∧ slots = 7302250 ∧ QW = lw_Z below args s ∧ (∀ x, A x → s.heap.size ≤ x)
section LRULES
variable {q : MI} {z : Zx} {pc : Nat} {lv : List (Option Av)} {st : List Av} {M : Mm}
theorem a_sld {L i : Int} {xs : Nat → Int} (hz : Cx q z) (hX : Xs L xs z) (h : 0 ≤ i ∧ i < L) (hd : decode (qB q) pc = .ok (.iaload, 1)) (k : Aw z (pc + 1) lv (.inl (xs i.toNat) :: st) M) : Aw z pc lv (.inl i :: .inr 998 :: st) M := by
  obtain ⟨⟨l, D, cA, ad, A⟩, p, e, R, s, m, args, below, meth, c, cells, slots, QW⟩ := z
  obtain ⟨hx, hb, hml, hown, hts, hr, hlk, hK, hA, hmost, hfr, hlo, hce, hsl⟩ := hz
  obtain ⟨n, x, e1, hn, e2, e3, e4, e5⟩ := hX
  intro okm okl oks H locs ls hP hD hS hl
  have hi : inR i := oks.head
  have k2 := k okm okl (oks.tail.tail.cons (show inR (xs i.toNat) by rw [e5]; exact i32_of _)) H locs ls hP hD hS hl
  refine va_sld hx hb e2 e3 e4 hS (i32_in hi (by rw [e1] at h; exact h)) hd ?_
  rw [i32_n hi]
  have e : Value.int (x i.toNat) = cvV ad (.inl (xs i.toNat)) := by show _ = Value.int (Int32.ofInt (xs i.toNat)); rw [e5, Int32.ofInt_toInt]
  rw [e]
  exact k2
theorem a_slen {L : Int} {xs : Nat → Int} (hz : Cx q z) (hX : Xs L xs z) (hd : decode (qB q) pc = .ok (.arraylength, 1)) (k : Aw z (pc + 1) lv (.inl L :: st) M) : Aw z pc lv (.inr 998 :: st) M := by
  obtain ⟨⟨l, D, cA, ad, A⟩, p, e, R, s, m, args, below, meth, c, cells, slots, QW⟩ := z
  obtain ⟨hx, hb, hml, hown, hts, hr, hlk, hK, hA, hmost, hfr, hlo, hce, hsl⟩ := hz
  obtain ⟨n, x, e1, hn, e2, e3, e4, e5⟩ := hX
  intro okm okl oks H locs ls hP hD hS hl
  have k2 := k okm okl (oks.tail.cons (show inR L by rw [e1]; constructor <;> omega)) H locs ls hP hD hS hl
  refine va_slen hx hb e2 e3 e4 hS hd ?_
  rw [e1] at k2
  exact k2
theorem a_lret (hq : MD q) (hz : Cx q z) (hZ : Lz z) (hd : (qC q).find? (fun y => y.1 == pc) = some (pc, .ireturn, 1)) (hb0 : qB q = code := by rfl) (hr0 : qR q = ret := by rfl) : Aw z pc lv [.inl 1] M := by
  obtain ⟨⟨l, D, cA, ad, A⟩, p, e, R, s, m, args, below, meth, c, cells, slots, QW⟩ := z
  obtain ⟨hx, hb, hml, hown, hts, hr, hlk, hK, hA, hmost, hfr, hlo, hce, hsl⟩ := hz
  obtain ⟨rfl, ⟨b, rfl⟩, rfl, rfl, rfl, hA2⟩ := hZ
  intro okm okl oks H locs ls hP hD hS hl
  refine va_forget (fun x hx => hA2 _ (hS.2.2 x hx)) ?_
  have hd2 := d_at hq hd
  rw [hb0] at hd2 hb
  rw [hr0] at hr
  exact lw_ret hx hb hr hlk hd2
end LRULES
