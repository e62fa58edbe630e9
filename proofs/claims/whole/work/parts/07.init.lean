/-! CONSTRUCTORS: a world that grows; wr is the caller's part, which stays -/
abbrev Yx : Type := Gx × Program × Env × Room × State × MethodId × Array Value × List Frame × Method × Code × (State → Prop)
def Bx (own : String) (cc : ByteArray) (nL fr lo : Nat) : Yx → Prop
  | ((_, D, cA, _, A), p, _, R, s, m, args, _, meth, c, _) => p.tables.exec = Jvm.exec ∧ c.code = cc ∧ c.maxLocals = nL ∧ s.vm.findClass own = some m.cls ∧ (∀ w ∈ gw_tbl, w.before args s = true) ∧ meth.locks = false ∧ va_K D vwCl (tysW cA) s ∧ (∀ x, s.heap.size ≤ x → A x) ∧ fr ≤ R.frames ∧ lo ≤ R.locals ∧ va_AO "RoadTrace$State" s
def Bn : Yx → Prop
  | (_, _, _, _, _, _, _, _, meth, _, _) => meth.name = "<init>"
def Br (C S : Nat) : Yx → Prop
  | (_, _, _, R, _, _, _, _, _, _, _) => C ≤ R.cells ∧ S ≤ R.slots
def Bw : Yx → va_W → Nat → Nat → Nat → List (Nat × Value) → List Value → Prop
  | ((l, D, cA, ad, A), p, e, R, s, m, args, below, meth, c, QW), ws, cells, slots, pc, lv, st => ∀ (H : Heap) (locs : List Loc) (ls : Array Slot), va_P D vwCl ws H → va_D A ws → va_S A s.heap H locs → lv_has ls c.maxLocals lv → W p l e R s m args below meth c H locs cells slots QW (F0 m pc ls st)
theorem ap_get {wr l : va_W} {i : Nat} : (wr ++ l)[wr.length + i]? = l[i]? := by rw [List.getElem?_append_right (by omega), Nat.add_sub_cancel_left]
theorem ap_set {wr l : va_W} {i : Nat} {x : Nat × va_E} : (wr ++ l).set (wr.length + i) x = wr ++ l.set i x := by rw [List.set_append_right _ _ (by omega), Nat.add_sub_cancel_left]
section BRULES
variable {own : String} {cc : ByteArray} {nL fr lo : Nat} {y : Yx} {wr w : va_W} {cells slots pc : Nat} {lv : List (Nat × Value)} {st : List Value}
theorem b_aload {f : Fin 4} {i j : Nat} {a : Nat} (hz : Bx own cc nL fr lo y) (hf : (f : Nat) = i) (hv : lv[j]? = some (i, .ref a)) (hd : decode cc pc = .ok (.aload_n f, 1)) (k : Bw y (wr ++ w) cells slots (pc + 1) lv (.ref a :: st)) : Bw y (wr ++ w) cells slots pc lv st := by
  obtain ⟨⟨l, D, cA, ad, A⟩, p, e, R, s, m, args, below, meth, c, QW⟩ := y
  obtain ⟨hx, hb, hml, hown, hts, hlk, hK, hA, hfr, hlo, hao⟩ := hz
  intro H locs ls hP hD hS hl
  exact lv_aload_n hx hb hd hf (lv_at hl j hv) (k H locs ls hP hD hS hl)
theorem b_iconst {v : Int} {x : Int32} (hz : Bx own cc nL fr lo y) (hv : Int32.ofInt v = x) (hd : decode cc pc = .ok (.iconst v, 1)) (k : Bw y (wr ++ w) cells slots (pc + 1) lv (.int x :: st)) : Bw y (wr ++ w) cells slots pc lv st := by
  obtain ⟨⟨l, D, cA, ad, A⟩, p, e, R, s, m, args, below, meth, c, QW⟩ := y
  obtain ⟨hx, hb, hml, hown, hts, hlk, hK, hA, hfr, hlo, hao⟩ := hz
  intro H locs ls hP hD hS hl
  exact lv_iconst hx hb hd hv (k H locs ls hP hD hS hl)
theorem b_bipush {v : Int} {x : Int32} (hz : Bx own cc nL fr lo y) (hv : (Int8.ofInt v).toInt32 = x) (hd : decode cc pc = .ok (.bipush v, 2)) (k : Bw y (wr ++ w) cells slots (pc + 2) lv (.int x :: st)) : Bw y (wr ++ w) cells slots pc lv st := by
  obtain ⟨⟨l, D, cA, ad, A⟩, p, e, R, s, m, args, below, meth, c, QW⟩ := y
  obtain ⟨hx, hb, hml, hown, hts, hlk, hK, hA, hfr, hlo, hao⟩ := hz
  intro H locs ls hP hD hS hl
  exact lv_bipush hx hb hd hv (k H locs ls hP hD hS hl)
theorem b_sipush {v : Int} {x : Int32} (hz : Bx own cc nL fr lo y) (hv : (Int16.ofInt v).toInt32 = x) (hd : decode cc pc = .ok (.sipush v, 3)) (k : Bw y (wr ++ w) cells slots (pc + 3) lv (.int x :: st)) : Bw y (wr ++ w) cells slots pc lv st := by
  obtain ⟨⟨l, D, cA, ad, A⟩, p, e, R, s, m, args, below, meth, c, QW⟩ := y
  obtain ⟨hx, hb, hml, hown, hts, hlk, hK, hA, hfr, hlo, hao⟩ := hz
  intro H locs ls hP hD hS hl
  exact lv_sipush hx hb hd hv (k H locs ls hP hD hS hl)
theorem b_dup {v : Value} (hz : Bx own cc nL fr lo y) (hv : v.category = 1) (hd : decode cc pc = .ok (.dup, 1)) (k : Bw y (wr ++ w) cells slots (pc + 1) lv (v :: v :: st)) : Bw y (wr ++ w) cells slots pc lv (v :: st) := by
  obtain ⟨⟨l, D, cA, ad, A⟩, p, e, R, s, m, args, below, meth, c, QW⟩ := y
  obtain ⟨hx, hb, hml, hown, hts, hlk, hK, hA, hfr, hlo, hao⟩ := hz
  intro H locs ls hP hD hS hl
  exact lv_dup hx hb hd hv (k H locs ls hP hD hS hl)
theorem b_object {a idx : Nat} (hz : Bx own cc nL fr lo y) (hL : Jvm.Cond.methodLink own idx objectInit ∈ gw_tbl ∧ Jvm.Cond.instanceMethod objectInit ∈ gw_tbl ∧ Jvm.Cond.code objectInit ⟨#[0xb1]⟩ 1 none ∈ gw_tbl) (hn : 1 ≤ fr ∧ (st.map fun v => v.category).sum + 12 ≤ lo) (hd : decode cc pc = .ok (.invokespecial idx, 3)) (k : Bw y (wr ++ w) cells slots (pc + 3) lv st) : Bw y (wr ++ w) cells slots pc lv (.ref a :: st) := by
  obtain ⟨⟨l, D, cA, ad, A⟩, p, e, R, s, m, args, below, meth, c, QW⟩ := y
  obtain ⟨hx, hb, hml, hown, hts, hlk, hK, hA, hfr, hlo, hao⟩ := hz
  intro H locs ls hP hD hS hl
  exact W.objInit hx hb hown (hts _ hL.1) (hts _ hL.2.1) (hts _ hL.2.2) rfl hl.1 rfl hd (by omega) (by show 2 * 0 + _ + 12 ≤ _; omega) (k H locs ls hP hD hS hl)
theorem ty_one {D : va_G} {tys : List (ClassId × FieldType)} {s : State} {c1 c2 : ClassId} {ty : FieldType} (hn : ∀ C, ty ≠ .object C) (hK : va_K D vwCl tys s) {i j : Nat} (h1 : tys[i]? = some (c1, ty)) (h2 : tys[j]? = some (c2, ty)) : c1 = c2 := by
  have e1 := (hK.2 i _ h1).2
  have e2 := (hK.2 j _ h2).2
  cases ty with
  | object C => exact absurd rfl (hn C)
  | _ => exact Option.some.inj (e1.symm.trans e2)
theorem b_newaI {n : Int32} {N : Nat} (hz : Bx own cc nL fr lo y) (hN : n.toNatClampNeg = N) (hn : ¬ n < 0) (hs : N * 4 ≤ 536870912) (hr : Br (cells + 1) (slots + N) y) (hc : Jvm.Cond.arrayClass .int ∈ gw_tbl) (hd : decode cc pc = .ok (.newarray .int, 2)) (k : ∀ q, Bw y (wr ++ (w ++ [(q, .inl (y.1.2.2.1.1, N, .inl (fun _ => 0)))])) (cells + 1) (slots + N) (pc + 2) lv (.ref q :: st)) : Bw y (wr ++ w) cells slots pc lv (.int n :: st) := by
  obtain ⟨⟨l, D, cA, ad, A⟩, p, e, R, s, m, args, below, meth, c, QW⟩ := y
  obtain ⟨hx, hb, hml, hown, hts, hlk, hK, hA, hfr, hlo, hao⟩ := hz
  intro H locs ls hP hD hS hl
  refine va_newa (atype := .int) (ty := .int) (a0 := (N, .inl (fun _ => 0))) hx hb (hts _ hc) rfl hK hP hD hS hA (fun c2 => rfl) hn hN hs hr.1 hr.2 hd (fun q c2 H1 hK1 hP1 hD1 hS1 => ?_)
  have e := ty_one (fun C h => by cases h) hK1 (i := 3) (j := 0) rfl rfl
  subst e
  rw [List.append_assoc] at hP1 hD1
  exact k q H1 locs ls hP1 hD1 hS1 hl
theorem b_newaZ {n : Int32} {N : Nat} (hz : Bx own cc nL fr lo y) (hN : n.toNatClampNeg = N) (hn : ¬ n < 0) (hs : N * 1 ≤ 536870912) (hr : Br (cells + 1) (slots + N) y) (hc : Jvm.Cond.arrayClass .boolean ∈ gw_tbl) (hd : decode cc pc = .ok (.newarray .boolean, 2)) (k : ∀ q, Bw y (wr ++ (w ++ [(q, .inl (y.1.2.2.1.2.1, N, .inl (fun _ => 0)))])) (cells + 1) (slots + N) (pc + 2) lv (.ref q :: st)) : Bw y (wr ++ w) cells slots pc lv (.int n :: st) := by
  obtain ⟨⟨l, D, cA, ad, A⟩, p, e, R, s, m, args, below, meth, c, QW⟩ := y
  obtain ⟨hx, hb, hml, hown, hts, hlk, hK, hA, hfr, hlo, hao⟩ := hz
  intro H locs ls hP hD hS hl
  refine va_newa (atype := .boolean) (ty := .boolean) (a0 := (N, .inl (fun _ => 0))) hx hb (hts _ hc) rfl hK hP hD hS hA (fun c2 => rfl) hn hN hs hr.1 hr.2 hd (fun q c2 H1 hK1 hP1 hD1 hS1 => ?_)
  have e := ty_one (fun C h => by cases h) hK1 (i := 3) (j := 1) rfl rfl
  subst e
  rw [List.append_assoc] at hP1 hD1
  exact k q H1 locs ls hP1 hD1 hS1 hl
theorem b_putF {i ci kf idx a : Nat} {fs : List Value} {v : Value} {C : String} {T : u_T} {N : Nat} {ty : FieldType} (hz : Bx own cc nL fr lo y) (hn : Bn y) (hF : FOk own (idx, ci, kf)) (hw : w[i]? = some (a, .inr (ci, fs))) (hc : vwCl[ci]? = some (C, T, N)) (hfin : (T kf).2.2.2 = true ∧ (T kf).1 = own) (hty : parseFieldDescriptor (T kf).2.2.1 = some ty) (hv : narrow ty v = v ∧ fits ty v = true) (hl : kf < fs.length) (hd : decode cc pc = .ok (.putfield idx, 3)) (k : Bw y (wr ++ w.set i (a, .inr (ci, fs.set kf v))) cells slots (pc + 3) lv st) : Bw y (wr ++ w) cells slots pc lv (v :: .ref a :: st) := by
  obtain ⟨⟨l, D, cA, ad, A⟩, p, e, R, s, m, args, below, meth, c, QW⟩ := y
  obtain ⟨hx, hb, hml, hown, hts, hlk, hK, hA, hfr, hlo, hao⟩ := hz
  obtain ⟨C', T', N', h1, h2, h3⟩ := hF
  cases hc.symm.trans h1
  obtain ⟨e1, ty0, e2, e3⟩ := vc_in ci C T N hc
  intro H locs ls hP hD hS hlv
  refine va_putF (D := D) hx hb hts e1 ty0 e2 e3 hown hK hP hD hS (wr.length + i) (ap_get.trans hw) hc kf h2 (hts _ h3) (fun _ h9 => h9) hfin.1 hn hfin.2 hty hv.1 hv.2 hl hd (fun H1 locs1 hP1 hD1 hS1 => ?_)
  rw [ap_set] at hP1 hD1
  exact k H1 locs1 ls hP1 hD1 hS1 hlv
theorem b_put {i ci kf idx a : Nat} {fs : List Value} {v : Value} {C : String} {T : u_T} {N : Nat} {ty : FieldType} (hz : Bx own cc nL fr lo y) (hF : FOk own (idx, ci, kf)) (hw : w[i]? = some (a, .inr (ci, fs))) (hc : vwCl[ci]? = some (C, T, N)) (hfin : (T kf).2.2.2 = false) (hty : parseFieldDescriptor (T kf).2.2.1 = some ty) (hv : narrow ty v = v ∧ fits ty v = true) (hl : kf < fs.length) (hd : decode cc pc = .ok (.putfield idx, 3)) (k : Bw y (wr ++ w.set i (a, .inr (ci, fs.set kf v))) cells slots (pc + 3) lv st) : Bw y (wr ++ w) cells slots pc lv (v :: .ref a :: st) := by
  obtain ⟨⟨l, D, cA, ad, A⟩, p, e, R, s, m, args, below, meth, c, QW⟩ := y
  obtain ⟨hx, hb, hml, hown, hts, hlk, hK, hA, hfr, hlo, hao⟩ := hz
  obtain ⟨C', T', N', h1, h2, h3⟩ := hF
  cases hc.symm.trans h1
  obtain ⟨e1, ty0, e2, e3⟩ := vc_in ci C T N hc
  intro H locs ls hP hD hS hlv
  refine va_put (D := D) hx hb hts e1 ty0 e2 e3 hown hK hP hD hS (wr.length + i) (ap_get.trans hw) hc kf h2 (hts _ h3) (fun _ h9 => h9) hfin hty hv.1 hv.2 hl hd (fun H1 locs1 hP1 hD1 hS1 => ?_)
  rw [ap_set] at hP1 hD1
  exact k H1 locs1 ls hP1 hD1 hS1 hlv
theorem b_get {i ci kf idx a : Nat} {fs : List Value} {v : Value} {C : String} {T : u_T} {N : Nat} (hz : Bx own cc nL fr lo y) (hF : FOk own (idx, ci, kf)) (hw : w[i]? = some (a, .inr (ci, fs))) (hc : vwCl[ci]? = some (C, T, N)) (hv : fs[kf]? = some v) (hd : decode cc pc = .ok (.getfield idx, 3)) (k : Bw y (wr ++ w) cells slots (pc + 3) lv (v :: st)) : Bw y (wr ++ w) cells slots pc lv (.ref a :: st) := by
  obtain ⟨⟨l, D, cA, ad, A⟩, p, e, R, s, m, args, below, meth, c, QW⟩ := y
  obtain ⟨hx, hb, hml, hown, hts, hlk, hK, hA, hfr, hlo, hao⟩ := hz
  obtain ⟨C', T', N', h1, h2, h3⟩ := hF
  cases hc.symm.trans h1
  intro H locs ls hP hD hS hlv
  exact va_get (D := D) hx hb hts (vc_in ci C T N hc).1 hown hK hP (wr.length + i) (ap_get.trans hw) hc kf h2 (hts _ h3) (fun _ h9 => h9) hv hd (k H locs ls hP hD hS hlv)
theorem b_iast {i a n : Nat} {f f' : Nat → Int32} {j x : Int32} (hz : Bx own cc nL fr lo y) (hw : w[i]? = some (a, .inl (y.1.2.2.1.1, n, .inl f))) (hj : vp_in j n) (hf : upd f j.toNatClampNeg x = f') (hd : decode cc pc = .ok (.iastore, 1)) (k : Bw y (wr ++ w.set i (a, .inl (y.1.2.2.1.1, n, .inl f'))) cells slots (pc + 1) lv st) : Bw y (wr ++ w) cells slots pc lv (.int x :: .int j :: .ref a :: st) := by
  obtain ⟨⟨l, D, cA, ad, A⟩, p, e, R, s, m, args, below, meth, c, QW⟩ := y
  obtain ⟨hx, hb, hml, hown, hts, hlk, hK, hA, hfr, hlo, hao⟩ := hz
  intro H locs ls hP hD hS hlv
  refine va_iast hx hb hK hP hD hS (wr.length + i) 0 (ap_get.trans hw) rfl hj hd (fun H1 locs1 hP1 hD1 hS1 => ?_)
  rw [hf, ap_set] at hP1 hD1
  exact k H1 locs1 ls hP1 hD1 hS1 hlv
theorem b_new {ci idx : Nat} {C : String} {T : u_T} {N : Nat} {fs : List Value} (hz : Bx own cc nL fr lo y) (hc : vwCl[ci]? = some (C, T, N)) (ty : Nat → FieldType) (hty : ∀ k, k < N → parseFieldDescriptor (T k).2.2.1 = some (ty k)) (hL : Jvm.Cond.classLink own idx C ∈ gw_tbl ∧ Jvm.Cond.instantiable C N ∈ gw_tbl ∧ Jvm.Cond.initialized C ∈ gw_tbl) (hfs : ∀ j, j < N → defaultValue (ty j) = vp_V fs j) (hr : Br (cells + 1) (slots + N) y) (hd : decode cc pc = .ok (.new idx, 3)) (k : ∀ q, Bw y (wr ++ (w ++ [(q, .inr (ci, fs))])) (cells + 1) (slots + N) (pc + 3) lv (.ref q :: st)) : Bw y (wr ++ w) cells slots pc lv st := by
  obtain ⟨⟨l, D, cA, ad, A⟩, p, e, R, s, m, args, below, meth, c, QW⟩ := y
  obtain ⟨hx, hb, hml, hown, hts, hlk, hK, hA, hfr, hlo, hao⟩ := hz
  intro H locs ls hP hD hS hlv
  refine va_new hx hb hts (vc_in ci C T N hc).1 ty hty hown (hts _ hL.1) (hts _ hL.2.1) (hts _ hL.2.2) hK hP hD hS hA hc hfs hr.1 hr.2 hd (fun q H1 hP1 hD1 hS1 => ?_)
  rw [List.append_assoc] at hP1 hD1
  exact k q H1 locs ls hP1 hD1 hS1 hlv
theorem b_iload {f : Fin 4} {i j : Nat} {a : Int32} (hz : Bx own cc nL fr lo y) (hf : (f : Nat) = i) (hv : lv[j]? = some (i, .int a)) (hd : decode cc pc = .ok (.iload_n f, 1)) (k : Bw y (wr ++ w) cells slots (pc + 1) lv (.int a :: st)) : Bw y (wr ++ w) cells slots pc lv st := by
  obtain ⟨⟨l, D, cA, ad, A⟩, p, e, R, s, m, args, below, meth, c, QW⟩ := y
  obtain ⟨hx, hb, hml, hown, hts, hlk, hK, hA, hfr, hlo, hao⟩ := hz
  intro H locs ls hP hD hS hl
  exact lv_iload_n hx hb hd hf (lv_at hl j hv) (k H locs ls hP hD hS hl)
theorem b_istore {f : Fin 4} {i : Nat} {a : Int32} {lv' : List (Nat × Value)} (hz : Bx own cc nL fr lo y) (hf : (f : Nat) = i) (hi : i < nL) (hl' : (i, Value.int a) :: lv.filter (fun q => !(q.1 == i) && !(q.1 + 1 == i && q.2.category == 2)) = lv') (hd : decode cc pc = .ok (.istore_n f, 1)) (k : Bw y (wr ++ w) cells slots (pc + 1) lv' st) : Bw y (wr ++ w) cells slots pc lv (.int a :: st) := by
  obtain ⟨⟨l, D, cA, ad, A⟩, p, e, R, s, m, args, below, meth, c, QW⟩ := y
  obtain ⟨hx, hb, hml, hown, hts, hlk, hK, hA, hfr, hlo, hao⟩ := hz
  intro H locs ls hP hD hS hl
  exact lv_istore_n hx hb hd hf hl (by rw [hml]; exact hi) hl' (fun ls2 hl2 => k H locs ls2 hP hD hS hl2)
theorem b_astore {f : Fin 4} {i : Nat} {a : Nat} {lv' : List (Nat × Value)} (hz : Bx own cc nL fr lo y) (hf : (f : Nat) = i) (hi : i < nL) (hl' : (i, Value.ref a) :: lv.filter (fun q => !(q.1 == i) && !(q.1 + 1 == i && q.2.category == 2)) = lv') (hd : decode cc pc = .ok (.astore_n f, 1)) (k : Bw y (wr ++ w) cells slots (pc + 1) lv' st) : Bw y (wr ++ w) cells slots pc lv (.ref a :: st) := by
  obtain ⟨⟨l, D, cA, ad, A⟩, p, e, R, s, m, args, below, meth, c, QW⟩ := y
  obtain ⟨hx, hb, hml, hown, hts, hlk, hK, hA, hfr, hlo, hao⟩ := hz
  intro H locs ls hP hD hS hl
  exact lv_astore_n hx hb hd hf hl (by rw [hml]; exact hi) hl' (fun ls2 hl2 => k H locs ls2 hP hD hS hl2)
theorem b_iinc {i k : Nat} {n : Int} {x v : Int32} {lv' : List (Nat × Value)} (hz : Bx own cc nL fr lo y) (hk : lv[k]? = some (i, .int x)) (hv : x + Int32.ofInt n = v) (hi : i < nL) (hl' : (i, Value.int v) :: lv.filter (fun q => !(q.1 == i) && !(q.1 + 1 == i && q.2.category == 2)) = lv') (hd : decode cc pc = .ok (.iinc i n, 3)) (kk : Bw y (wr ++ w) cells slots (pc + 3) lv' st) : Bw y (wr ++ w) cells slots pc lv st := by
  obtain ⟨⟨l, D, cA, ad, A⟩, p, e, R, s, m, args, below, meth, c, QW⟩ := y
  obtain ⟨hx, hb, hml, hown, hts, hlk, hK, hA, hfr, hlo, hao⟩ := hz
  intro H locs ls hP hD hS hl
  exact lv_iinc hx hb hd hl hk hv (by rw [hml]; exact hi) hl' (fun ls2 hl2 => kk H locs ls2 hP hD hS hl2)
theorem b_goto {off : Int} {t : Nat} (hz : Bx own cc nL fr lo y) (ht : (pc : Int) + off = (t : Int)) (hd : decode cc pc = .ok (.goto off, 3)) (k : Bw y (wr ++ w) cells slots t lv st) : Bw y (wr ++ w) cells slots pc lv st := by
  obtain ⟨⟨l, D, cA, ad, A⟩, p, e, R, s, m, args, below, meth, c, QW⟩ := y
  obtain ⟨hx, hb, hml, hown, hts, hlk, hK, hA, hfr, hlo, hao⟩ := hz
  intro H locs ls hP hD hS hl
  exact lv_goto hx hb hd ht (k H locs ls hP hD hS hl)
theorem b_icmpT {off : Int} {t : Nat} {a b : Int32} (hz : Bx own cc nL fr lo y) (ht : (pc : Int) + off = (t : Int)) (h : b ≤ a) (hd : decode cc pc = .ok (.if_icmp .ge off, 3)) (k : Bw y (wr ++ w) cells slots t lv st) : Bw y (wr ++ w) cells slots pc lv (.int b :: .int a :: st) := by
  obtain ⟨⟨l, D, cA, ad, A⟩, p, e, R, s, m, args, below, meth, c, QW⟩ := y
  obtain ⟨hx, hb, hml, hown, hts, hlk, hK, hA, hfr, hlo, hao⟩ := hz
  intro H locs ls hP hD hS hl
  exact lv_icmp_ge hx hb hd ht (fun _ => k H locs ls hP hD hS hl) (fun h9 => absurd h h9)
theorem b_icmpF {off : Int} {t : Nat} {a b : Int32} (hz : Bx own cc nL fr lo y) (ht : (pc : Int) + off = (t : Int)) (h : ¬ b ≤ a) (hd : decode cc pc = .ok (.if_icmp .ge off, 3)) (k : Bw y (wr ++ w) cells slots (pc + 3) lv st) : Bw y (wr ++ w) cells slots pc lv (.int b :: .int a :: st) := by
  obtain ⟨⟨l, D, cA, ad, A⟩, p, e, R, s, m, args, below, meth, c, QW⟩ := y
  obtain ⟨hx, hb, hml, hown, hts, hlk, hK, hA, hfr, hlo, hao⟩ := hz
  intro H locs ls hP hD hS hl
  exact lv_icmp_ge hx hb hd ht (fun h9 => absurd h9 h) (fun _ => k H locs ls hP hD hS hl)
theorem ty_obj {D : va_G} {tys : List (ClassId × FieldType)} {s : State} {c1 c2 : ClassId} {C : String} (hK : va_K D vwCl tys s) {i j : Nat} (h1 : tys[i]? = some (c1, .object C)) (h2 : tys[j]? = some (c2, .object C)) : c1 = c2 := by
  obtain ⟨k1, p1, -, -, -, e1⟩ := (hK.2 i _ h1).2
  obtain ⟨k2, p2, -, -, -, e2⟩ := (hK.2 j _ h2).2
  exact Option.some.inj (e1.symm.trans e2)
theorem b_newq {n : Int32} {N idx : Nat} (hz : Bx own cc nL fr lo y) (hN : n.toNatClampNeg = N) (hn : ¬ n < 0) (hs : N * 4 ≤ 536870912) (hr : Br (cells + 1) (slots + N) y) (hc : Jvm.Cond.classLink own idx "RoadTrace$State" ∈ gw_tbl) (hd : decode cc pc = .ok (.anewarray idx, 3)) (k : ∀ q, Bw y (wr ++ (w ++ [(q, .inl (y.1.2.2.1.2.2, N, .inr (.inr (.inr (.inr (fun _ => none))))))])) (cells + 1) (slots + N) (pc + 3) lv (.ref q :: st)) : Bw y (wr ++ w) cells slots pc lv (.int n :: st) := by
  obtain ⟨⟨l, D, cA, ad, A⟩, p, e, R, s, m, args, below, meth, c, QW⟩ := y
  obtain ⟨hx, hb, hml, hown, hts, hlk, hK, hA, hfr, hlo, hao⟩ := hz
  intro H locs ls hP hD hS hl
  refine va_newq hx hb hown (hts _ hc) hao hK hP hD hS hA hn hN hs hr.1 hr.2 hd (fun q c2 H1 hK1 hP1 hD1 hS1 => ?_)
  have e := ty_obj hK1 (i := 3) (j := 2) rfl rfl
  subst e
  rw [List.append_assoc] at hP1 hD1
  exact k q H1 locs ls hP1 hD1 hS1 hl
theorem b_astq {i iv a n v : Nat} {vs : List Value} {f f' : Nat → Option Nat} {j : Int32} (hz : Bx own cc nL fr lo y) (hw : w[i]? = some (a, .inl (y.1.2.2.1.2.2, n, .inr (.inr (.inr (.inr f)))))) (hw2 : w[iv]? = some (v, .inr (2, vs))) (hj : vp_in j n) (hf : va_up f j.toNatClampNeg (some v) = f') (hd : decode cc pc = .ok (.aastore, 1)) (k : Bw y (wr ++ w.set i (a, .inl (y.1.2.2.1.2.2, n, .inr (.inr (.inr (.inr f')))))) cells slots (pc + 1) lv st) : Bw y (wr ++ w) cells slots pc lv (.ref v :: .int j :: .ref a :: st) := by
  obtain ⟨⟨l, D, cA, ad, A⟩, p, e, R, s, m, args, below, meth, c, QW⟩ := y
  obtain ⟨hx, hb, hml, hown, hts, hlk, hK, hA, hfr, hlo, hao⟩ := hz
  intro H locs ls hP hD hS hlv
  refine va_astq hx hb hK hP hD hS (wr.length + i) 2 (wr.length + iv) 2 (r := (RX2, TX2, 4)) (ap_get.trans hw) rfl (ap_get.trans hw2) rfl hj hd (fun H1 locs1 hP1 hD1 hS1 => ?_)
  rw [hf, ap_set] at hP1 hD1
  exact k H1 locs1 ls hP1 hD1 hS1 hlv
/-- a constructor's contract: its own blank cell at the end of the world; behind it the cells that it made -/
def QcN (D : va_G) (A : Nat → Prop) (post : va_W → Prop) : Array Value → State → Outcome → State → Prop := fun _ st oc t => (oc = .returned none ∧ ∃ ws, post ws ∧ va_P D vwCl ws t.heap ∧ va_D A ws) ∧ va_F A st t
def PcN (D : va_G) (cA : Ca) (A : Nat → Prop) (as : List Value) (ws : va_W) : Array Value → State → Prop := va_Pc as (fun U => va_P D vwCl ws U.heap ∧ va_K D vwCl (tysW cA) U ∧ va_D A ws ∧ (∀ x, U.heap.size ≤ x → A x) ∧ va_AO "RoadTrace$State" U)
def Cn (g : Gx) (yn : MethodName) (cc : ByteArray) (nL fr lo mc ms : Nat) (as : List Value) (ws : va_W) (post : va_W → Prop) : Prop := Met g.1 yn (Jvm.Cond.code yn cc nL none :: gw_tbl) { frames := fr, cells := mc, slots := ms, locals := lo } (PcN g.2.1 g.2.2.1 g.2.2.2.2 as ws) (QcN g.2.1 g.2.2.2.2 post) mc ms g.2.2.2.2
def BRt (post : va_W → Prop) (mc ms : Nat) : Yx → Prop
  | ((_, D, _, _, A), _, _, _, s, _, args, below, meth, _, QW) => meth.sig.returnType = none ∧ QW = MQ below (QcN D A post) args s mc ms A
theorem b_vret {post : va_W → Prop} {ws : va_W} (hz : Bx own cc nL fr lo y) (hR : BRt post cells slots y) (hp : post ws) (hd : decode cc pc = .ok (.return_, 1)) : Bw y ws cells slots pc lv [] := by
  obtain ⟨⟨l, D, cA, ad, A⟩, p, e, R, s, m, args, below, meth, c, QW⟩ := y
  obtain ⟨hx, hb, hml, hown, hts, hlk, hK, hA, hfr, hlo, hao⟩ := hz
  obtain ⟨hr, rfl⟩ := hR
  intro H locs ls hP hD hS hlv
  exact W.vret hx hb hr (fun t ht hW => ⟨⟨rfl, ws, hp, by rw [ht]; exact hP, hD⟩, hS.F ht⟩) hS.2.2 hd hlk
theorem n_of {g : Gx} {yn : MethodName} {mc ms : Nat} {as : List Value} {ws : va_W} {post : va_W → Prop} (hq : plainName yn.cls = true ∧ own = yn.cls ∧ yn.name = "<init>") (hn : (lg_sl as).length ≤ nL) (h : ∀ y : Yx, y.1 = g → Bx own cc nL fr lo y → Bn y → Br mc ms y → BRt post mc ms y → Bw y ws 0 0 0 (lv_args 0 as) []) : Cn g yn cc nL fr lo mc ms as ws post := by
  obtain ⟨l, D, cA, ad, A⟩ := g
  refine Met.ofW (cc := cc) (maxL := nL) (ret := none) hq.1 rfl ?_
  intro p e s m args below meth c s₁ B hml hv
  obtain ⟨rfl, hP, hK, hD, hA, hao⟩ := hv
  have hts : ∀ w ∈ gw_tbl, w.before as.toArray s = true := fun w hw => atoms_spec (ws := Jvm.Cond.code yn cc nL none :: gw_tbl) B.pre w (List.mem_cons_of_mem _ hw)
  have hown : s.vm.findClass own = some m.cls := by rw [hq.2.1]; exact findClass_of_methodNamed B.named
  have hin : meth.name = "<init>" := ((name_of_methodNamed B.named B.method).1).trans hq.2.2
  have hl := lv_entry as (n := nL) hn
  rw [lg_entry_eq]
  exact h ((l, D, cA, ad, A), p, e, _, s, m, _, below, meth, c, _) rfl ⟨B.exec, B.bytes, hml, hown, hts, B.notSynchronized, hK, hA, Nat.le_refl _, Nat.le_refl _, hao⟩ hin ⟨Nat.le_refl _, Nat.le_refl _⟩ ⟨B.returns, rfl⟩ s.heap [] _ hP hD va_S.rf (by rw [hml]; exact hl)
theorem b_call {yn : MethodName} {c2 : ByteArray} {nL2 fr2 lo2 mc ms idx a : Nat} {as : List Value} {e0 : va_E} {post : va_W → Prop} (hz : Bx own cc nL fr lo y) (hC : Cn y.1 yn c2 nL2 fr2 lo2 mc ms (.ref a :: as) ((wr ++ w) ++ [(a, e0)]) post) (hq : Jvm.Cond.code yn c2 nL2 none ∈ gw_tbl ∧ Jvm.Cond.initialized yn.cls ∈ gw_tbl ∧ Jvm.Cond.methodLink own idx yn ∈ gw_tbl ∧ Jvm.Cond.instanceMethod yn ∈ gw_tbl ∧ yn.name = "<init>" ∧ yn.cls ≠ "java/lang/invoke/MethodHandle" ∧ yn.cls ≠ "java/lang/invoke/VarHandle") (n k0 : Nat) (hn : ((parseMethodDescriptor yn.desc).map (fun d => d.parameters.length) = some n) ∧ fr2 + 1 ≤ fr ∧ 8 + (nL2 + 11) + lo2 ≤ lo ∧ k0 ≤ 8) (h1n : as.length = n) (h2n : (st.map fun v => v.category).sum = k0) (hr : Br (cells + mc) (slots + ms) y) (hd : decode cc pc = .ok (.invokespecial idx, 3))
    (k : ∀ ws, post ws → Bw y ws (cells + mc) (slots + ms) (pc + 3) lv st) : Bw y (wr ++ (w ++ [(a, e0)])) cells slots pc lv (as.reverse ++ .ref a :: st) := by
  obtain ⟨⟨l, D, cA, ad, A⟩, p, e, R, s, m, args, below, meth, c, QW⟩ := y
  obtain ⟨hx, hb, hml, hown, hts, hlk, hK, hA, hfr, hlo, hao⟩ := hz
  obtain ⟨g4, g5, gl, gi, gn, g8, g9⟩ := hq
  intro H locs ls hP hD hS hlv
  rw [← List.append_assoc] at hP hD
  have hgood : GoodIn gw_tbl (Jvm.Cond.code yn c2 nL2 none :: gw_tbl) := by
    intro x hx
    rcases List.mem_cons.mp hx with rfl | h
    · exact gw_good _ g4
    · exact gw_good _ h
  have hbl : FrameBlind (PcN D cA A (.ref a :: as) ((wr ++ w) ++ [(a, e0)])) := by
    intro b U g mk h
    obtain ⟨h1, h2, h3, h4, h5, h6⟩ := h
    exact ⟨h1, h2, va_K.moved (u := U) (U := U.calling g mk b) (Vm.Alike.refl U.vm) h3, h4, h5, va_AO.moved (u := U) (U := U.calling g mk b) (Vm.Alike.refl U.vm) h6⟩
  have run := va_runI (As := as) (rest := st) (b := a) (g := F0 m pc ls (as.reverse ++ .ref a :: st)) (locs := locs) (cells := cells) (slots := slots) (below := below) (meth := meth) (e := e) ⟨hx, hb, hml, hown, hts⟩ hC ⟨⟨rfl, rfl, Nat.le_trans hn.2.1 hfr, Nat.le_trans hn.2.2.1 hlo, pay_in hts hgood, List.mem_cons_self, hts _ g4, hts _ g5, ⟨g8, g9⟩, fun sig h => by have h2 := hn.1; rw [h] at h2; exact (Option.some.inj h2).symm, hts _ gl⟩, gn, hts _ gi⟩ ⟨hbl, fun U hU hW => ⟨rfl, by rw [hU]; exact hP, va_K.moved hW.alike hK, hD, fun x hx2 => hA x (Nat.le_trans hS.1 (by rw [← hU]; exact hx2)), hao.moved hW.alike⟩⟩ rfl h1n (hlv.1.trans hml) rfl (lv_room (by rw [h2n]; exact hn.2.2.2)) hd hr
  intro T hT X
  obtain ⟨v, st₀, t, T', L, h0, X', hL, e1, e2, ⟨⟨hv, ws, hp, hP', hD'⟩, hz1, hk⟩, sg⟩ := run T hT X
  rw [h0] at hz1 hk
  cases hv
  obtain ⟨t2, a1, b1⟩ := k ws hp T'.heap (locs ++ L) ls (by rw [e1]; exact hP') hD' ⟨Nat.le_trans hS.1 (by rw [e1]; exact hz1), fun x h1 h2 => by rw [e1, hk x (Nat.lt_of_lt_of_le h1 hS.1) h2]; exact hS.2.1 x h1 h2, fun x hx => by
      rcases List.mem_append.mp hx with h | h
      · exact hS.2.2 x h
      · exact hL x h⟩ hlv T' rfl X'
  exact ⟨t2, sg t2 a1, b1⟩
end BRULES
