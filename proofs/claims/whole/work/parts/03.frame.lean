/-! THE FRAME: an abstract memory of ints over a fixed shape of cells, and the machine's rows over it -/
abbrev Mm : Type := Nat → Nat → Int
abbrev Av : Type := Int ⊕ Nat
abbrev Sh : Type := (Nat × List (Option Nat)) ⊕ ((Nat × Nat) ⊕ List Nat)
def uf (f : Nat → Int) (j : Nat) (v : Int) : Nat → Int := fun b => if b = j then v else f b
def upR (M : Mm) (k : Nat) (f : Nat → Int) : Mm := fun a => if a = k then f else M a
def up (M : Mm) (k j : Nat) (v : Int) : Mm := upR M k (uf (M k) j v)
def shState (b : Nat) : List Sh := [.inl (2, [some (b+1), some (b+9), some (b+11), none]), .inl (0, [none, none, some (b+2), some (b+3), some (b+4), some (b+5), some (b+6), some (b+7), some (b+8)]), .inr (.inl (0, 12)), .inr (.inl (0, 12)), .inr (.inl (0, 20)), .inr (.inl (0, 20)), .inr (.inl (0, 20)), .inr (.inl (0, 20)), .inr (.inl (0, 144)), .inl (1, [some (b+10)]), .inr (.inl (0, 4)), .inl (3, [some (b+1), some (b+9), none, some (b+12), some (b+13), some (b+14), some (b+15), some (b+16), some (b+17), some (b+18), some (b+19), some (b+20), some (b+21), some (b+22)]), .inr (.inl (0, 16)), .inr (.inl (0, 16)), .inr (.inl (0, 16)), .inr (.inl (0, 16)), .inr (.inl (0, 16)), .inr (.inl (0, 320)), .inr (.inl (0, 320)), .inr (.inl (0, 320)), .inr (.inl (0, 320)), .inr (.inl (0, 16)), .inr (.inl (1, 16))]
def shModel : List Sh := [.inl (5, [some 72, some 73, none, some 74, some 75, some 76, none, some 77, some 78, some 79, none, some 80, some 81, some 82, some 83, some 84, some 85, some 86, some 87, some 88, none, some 89, some 90]), .inr (.inl (0, 12)), .inr (.inl (0, 12)), .inr (.inl (0, 20)), .inr (.inl (0, 20)), .inr (.inl (0, 20)), .inr (.inl (0, 4)), .inr (.inl (0, 16)), .inr (.inl (0, 16)), .inr (.inl (0, 144)), .inr (.inl (0, 320)), .inr (.inl (0, 320)), .inr (.inl (0, 320)), .inr (.inl (0, 320)), .inr (.inl (0, 16)), .inr (.inl (0, 16)), .inr (.inl (0, 16)), .inr (.inl (0, 16)), .inr (.inl (0, 260)), .inr (.inl (1, 2))]
def tp : List Sh := [.inl (4, [some 2, some 1]), .inr (.inr [25, 48])] ++ (shState 2 ++ (shState 25 ++ (shState 48 ++ shModel)))
theorem tp_len : tp.length = 91 := rfl
theorem tp_lt {q : Nat} {sh : Sh} (h : tp[q]? = some sh) : q < 91 := by
  have := (List.getElem?_eq_some_iff.mp h).1
  rw [tp_len] at this; exact this
def cvV (ad : Nat → Nat) : Av → Value
  | .inl z => .int (Int32.ofInt z)
  | .inr k => .ref (ad k)
theorem cvV_cat (ad : Nat → Nat) (v : Av) : (cvV ad v).category = 1 := by cases v <;> rfl
def flE (ad : Nat → Nat) (f : Nat → Int) (j : Nat) (o : Option Nat) : Value := match o with
  | some k => .ref (ad k)
  | none => .int (Int32.ofInt (f j))
abbrev Ca : Type := ClassId × ClassId × ClassId
def celE (ad : Nat → Nat) (cA : Ca) (f : Nat → Int) (sh : Sh) : va_E := match sh with
  | .inl o => .inr (o.1, o.2.mapIdx (flE ad f))
  | .inr (.inl a) => .inl (if a.1 = 0 then cA.1 else cA.2.1, a.2, .inl (fun j => Int32.ofInt (f j)))
  | .inr (.inr rs) => .inl (cA.2.2, rs.length, .inr (.inr (.inr (.inr (fun j => (rs[j]?).map ad)))))
def wld (ad : Nat → Nat) (cA : Ca) (M : Mm) : va_W := tp.mapIdx (fun k sh => (ad k, celE ad cA (M k) sh))
theorem wld_get {ad : Nat → Nat} {cA : Ca} {M : Mm} {q : Nat} {sh : Sh} (h : tp[q]? = some sh) : (wld ad cA M)[q]? = some (ad q, celE ad cA (M q) sh) := by
  simp [wld, List.getElem?_mapIdx, h]
theorem wld_set {ad : Nat → Nat} {cA : Ca} {M : Mm} {q : Nat} {sh : Sh} {f : Nat → Int} (h : tp[q]? = some sh) : (wld ad cA M).set q (ad q, celE ad cA f sh) = wld ad cA (upR M q f) := by
  apply List.ext_getElem?
  intro i
  by_cases hi : i = q
  · subst hi
    rw [List.getElem?_set_self (by simp [wld, tp_len]; exact tp_lt h), wld_get h]
    simp [upR]
  · rw [List.getElem?_set_ne (Ne.symm hi)]
    simp [wld, upR, hi]
theorem uf_i (f : Nat → Int) (k : Nat) (z : Int) : upd (fun j => Int32.ofInt (f j)) k (Int32.ofInt z) = fun j => Int32.ofInt (uf f k z j) := by
  funext j
  by_cases h : j = k
  · simp [upd, uf, h]
  · simp [upd, uf, h]
theorem fl_set (ad : Nat → Nat) (f : Nat → Int) (fs : List (Option Nat)) (k : Nat) (z : Int) (h : fs[k]? = some none) : (fs.mapIdx (flE ad f)).set k (.int (Int32.ofInt z)) = fs.mapIdx (flE ad (uf f k z)) := by
  apply List.ext_getElem?
  intro i
  by_cases hi : i = k
  · subst hi
    have hl := (List.getElem?_eq_some_iff.mp h).1
    rw [List.getElem?_set_self (by simpa using hl)]
    simp [List.getElem?_mapIdx, h, flE, uf]
  · rw [List.getElem?_set_ne (Ne.symm hi)]
    simp only [List.getElem?_mapIdx]
    cases hq : fs[i]? with
    | none => rfl
    | some o => cases o <;> simp [flE, uf, hi]
def okM (M : Mm) : Prop := (∀ k j, inR (M k j)) ∧ M 999 0 = 8 ∧ M 999 1 = 9 ∧ M 999 2 = 9 ∧ M 999 3 = 99
def okV : Av → Prop
  | .inl z => inR z
  | .inr _ => True
def okL (lv : List (Option Av)) : Prop := ∀ (i : Nat) (v : Av), lv[i]? = some (some v) → okV v
def okS (st : List Av) : Prop := ∀ v ∈ st, okV v
theorem okS.cons {v : Av} {st : List Av} (h : okV v) (h2 : okS st) : okS (v :: st) := fun w hw => by
  rcases List.mem_cons.mp hw with rfl | h3
  · exact h
  · exact h2 w h3
theorem okS.tail {v : Av} {st : List Av} (h : okS (v :: st)) : okS st := fun w hw => h w (List.mem_cons_of_mem _ hw)
theorem okS.head {v : Av} {st : List Av} (h : okS (v :: st)) : okV v := h v List.mem_cons_self
theorem okL.set {lv : List (Option Av)} {i : Nat} {v : Av} (h : okL lv) (hv : okV v) : okL (lv.set i (some v)) := by
  intro j w hj
  by_cases hij : i = j
  · subst hij
    by_cases hl : i < lv.length
    · rw [List.getElem?_set_self hl] at hj
      cases hj; exact hv
    · rw [List.getElem?_eq_none (by simpa using hl)] at hj
      cases hj
  · rw [List.getElem?_set_ne hij] at hj
    exact h j w hj
theorem okM_upR {M : Mm} (h : okM M) {k : Nat} (hk : k ≠ 999) {f : Nat → Int} (hf : ∀ j, inR (f j)) : okM (upR M k f) := by
  refine ⟨fun a b => ?_, ?_⟩
  · unfold upR
    split
    · exact hf b
    · exact h.1 a b
  · simpa [upR, Ne.symm hk] using h.2
theorem okM_up {M : Mm} (h : okM M) {k j : Nat} (hk : k ≠ 999) {v : Int} (hv : inR v) : okM (up M k j v) := by
  refine okM_upR h hk (fun b => ?_)
  unfold uf
  split
  · exact hv
  · exact h.1 k b
/-! locals -/
def lvl (ad : Nat → Nat) (lv : List (Option Av)) : List (Nat × Value) := (List.range lv.length).filterMap (fun i => match lv[i]? with
  | some (some v) => some (i, cvV ad v)
  | _ => none)
theorem mem_lvl {ad : Nat → Nat} {lv : List (Option Av)} {p : Nat × Value} : p ∈ lvl ad lv ↔ ∃ v, lv[p.1]? = some (some v) ∧ p.2 = cvV ad v := by
  unfold lvl
  rw [List.mem_filterMap]
  constructor
  · rintro ⟨i, -, h⟩
    split at h
    · rename_i v hv
      cases h
      exact ⟨v, hv, rfl⟩
    · cases h
  · rintro ⟨v, h, e⟩
    refine ⟨p.1, List.mem_range.mpr (List.getElem?_eq_some_iff.mp h).1, ?_⟩
    rw [h]
    show some (p.1, cvV ad v) = some p
    rw [← e]
def lvO (ad : Nat → Nat) (ls : Array Slot) (n : Nat) (lv : List (Option Av)) : Prop := lv_has ls n (lvl ad lv)
theorem lvO.at {ad : Nat → Nat} {ls : Array Slot} {n : Nat} {lv : List (Option Av)} (h : lvO ad ls n lv) {i : Nat} {v : Av} (e : lv[i]? = some (some v)) : ls[i]? = some (.val (cvV ad v)) := h.2.2 (i, cvV ad v) (mem_lvl.mpr ⟨v, e, rfl⟩)
theorem lvO.less {ad : Nat → Nat} {ls : Array Slot} {n : Nat} {lv lv' : List (Option Av)} (h : lvO ad ls n lv) (hl : ∀ (i : Nat) (v : Av), lv'[i]? = some (some v) → lv[i]? = some (some v)) : lvO ad ls n lv' := by
  refine ⟨h.1, h.2.1, fun p hp => ?_⟩
  obtain ⟨v, h1, h2⟩ := mem_lvl.mp hp
  rw [h2]
  exact h.at (hl _ _ h1)
theorem lvO_set {ad : Nat → Nat} {ls : Array Slot} {n : Nat} {lv : List (Option Av)} {i : Nat} {v : Av} (h : lv_has ls n ((i, cvV ad v) :: (lvl ad lv).filter (fun q => !(q.1 == i) && !(q.1 + 1 == i && q.2.category == 2)))) : lvO ad ls n (lv.set i (some v)) := by
  refine ⟨h.1, h.2.1, fun p hp => ?_⟩
  obtain ⟨w, h1, h2⟩ := mem_lvl.mp hp
  refine h.2.2 p ?_
  by_cases hi : i = p.1
  · subst hi
    by_cases hl : p.1 < lv.length
    · rw [List.getElem?_set_self hl] at h1
      cases h1
      rw [← h2]
      exact List.mem_cons_self
    · rw [List.getElem?_eq_none (by simpa using hl)] at h1
      cases h1
  · rw [List.getElem?_set_ne hi] at h1
    refine List.mem_cons_of_mem _ (List.mem_filter.mpr ⟨mem_lvl.mpr ⟨w, h1, h2⟩, ?_⟩)
    have hc : (p.2.category == 2) = false := by rw [h2, cvV_cat]; rfl
    simp [hc, Ne.symm hi]
/-! where a method stands -/
abbrev Gx : Type := Launch × va_G × Ca × (Nat → Nat) × (Nat → Prop)
abbrev Zx : Type := Gx × Program × Env × Room × State × MethodId × Array Value × List Frame × Method × Code × Nat × Nat × (State → Prop)
def tysW (cA : Ca) : List (ClassId × FieldType) := [(cA.1, .int), (cA.2.1, .boolean), (cA.2.2, .object "RoadTrace$State")]
def mostV (j : Nat) : Value := .int (match j with | 0 => 8 | 1 => 9 | 2 => 9 | _ => 99)
def most (ad : Nat → Nat) (A : Nat → Prop) (U : State) : Prop := va_Z "RoadTrace$Rules" "MOST" "[I" (.ref (ad 999)) A U U.heap ∧ va_T .int (ad 999) 4 mostV A U U.heap
def Cx (q : MI) : Zx → Prop
  | ((_, D, cA, ad, A), p, _, R, s, m, args, _, meth, c, cells, slots, _) => p.tables.exec = Jvm.exec ∧ c.code = qB q ∧ c.maxLocals = qN q ∧ s.vm.findClass q.1 = some m.cls ∧ (∀ w ∈ gw_tbl, w.before args s = true) ∧ meth.sig.returnType = qR q ∧ meth.locks = false ∧ va_K D vwCl (tysW cA) s ∧ (∀ x, s.heap.size ≤ x → A x) ∧ most ad A s ∧ qf q ≤ R.frames ∧ ql q ≤ R.locals ∧ cells ≤ R.cells ∧ slots ≤ R.slots
def Aw : Zx → Nat → List (Option Av) → List Av → Mm → Prop
  | ((l, D, cA, ad, A), p, e, R, s, m, args, below, meth, c, cells, slots, QW), pc, lv, st, M => okM M → okL lv → okS st → ∀ (H : Heap) (locs : List Loc) (ls : Array Slot), va_P D vwCl (wld ad cA M) H → va_D A (wld ad cA M) → va_S A s.heap H locs → lvO ad ls c.maxLocals lv → W p l e R s m args below meth c H locs cells slots QW (F0 m pc ls (st.map (cvV ad)))
theorem i32_i {z : Int} (h : inR z) : (Int32.ofInt z).toInt = z := Int32.toInt_ofInt_of_le (by have := h.1; simpa using this) (by have := h.2; omega)
theorem i32_n {z : Int} (h : inR z) : (Int32.ofInt z).toNatClampNeg = z.toNat := by rw [← Int32.toNat_toInt, i32_i h]
theorem i32_lt {a b : Int} (ha : inR a) (hb : inR b) : Int32.ofInt a < Int32.ofInt b ↔ a < b := by rw [Int32.lt_iff_toInt_lt, i32_i ha, i32_i hb]
theorem i32_le {a b : Int} (ha : inR a) (hb : inR b) : Int32.ofInt a ≤ Int32.ofInt b ↔ a ≤ b := by rw [Int32.le_iff_toInt_le, i32_i ha, i32_i hb]
theorem i32_eq {a b : Int} (ha : inR a) (hb : inR b) : Int32.ofInt a = Int32.ofInt b ↔ a = b := by rw [← Int32.toInt_inj, i32_i ha, i32_i hb]
theorem i32_of (x : Int32) : inR x.toInt := ⟨by have := x.le_toInt; simpa using this, by have := x.toInt_lt; omega⟩
theorem i32_in {i : Int} {n : Nat} (hi : inR i) (h : 0 ≤ i ∧ i < n) : vp_in (Int32.ofInt i) n := by rw [vp_in_iff, i32_i hi]; exact h
theorem i32_nar {z : Int} (h : z = 0 ∨ z = 1) : vp_nar .boolean (Int32.ofInt z) = Int32.ofInt z := by rcases h with rfl | rfl <;> rfl
theorem i32_narrow {z : Int} (h : z = 0 ∨ z = 1) : narrow .boolean (.int (Int32.ofInt z)) = .int (Int32.ofInt z) := by rcases h with rfl | rfl <;> rfl
/-! the step of an instruction that neither calls nor returns -/
def ldV (lv : List (Option Av)) (i : Nat) : Option Av := match lv[i]? with
  | some (some v) => some v
  | _ => none
theorem ldV_at {lv : List (Option Av)} {i : Nat} {v : Av} (h : ldV lv i = some v) : lv[i]? = some (some v) := by
  unfold ldV at h
  split at h
  · cases h; assumption
  · cases h
def cmpP (c : Jvm.ClassFile.Cond) (a b : Int) : Prop := match c with
  | .eq => a = b
  | .ne => ¬ a = b
  | .lt => a < b
  | .ge => b ≤ a
  | .gt => b < a
  | .le => a ≤ b
