/-! CONTRACTS over the abstract memory: a method's start, its end, its call -/
def QcO (D : va_G) (cA : Ca) (ad : Nat → Nat) (A : Nat → Prop) (Q : Option Int → Mm → Prop) : Array Value → State → Outcome → State → Prop := fun _ st oc t => (∃ (r : Option Int) (M : Mm), oc = .returned (r.map (fun v => Value.int (Int32.ofInt v))) ∧ Q r M ∧ okM M ∧ (∀ v, r = some v → inR v) ∧ va_P D vwCl (wld ad cA M) t.heap ∧ va_D A (wld ad cA M)) ∧ va_F A st t
def PcO (D : va_G) (cA : Ca) (ad : Nat → Nat) (A : Nat → Prop) (as : List Av) (M : Mm) : Array Value → State → Prop := va_Pc (as.map (cvV ad)) (fun U => va_P D vwCl (wld ad cA M) U.heap ∧ va_K D vwCl (tysW cA) U ∧ va_D A (wld ad cA M) ∧ (∀ x, U.heap.size ≤ x → A x) ∧ most ad A U)
def Ct : Gx → MI → List Av → Mm → (Option Int → Mm → Prop) → Prop
  | (l, D, cA, ad, A), q, as, M, Q => okM M → okS as → Met l (qY q) (Jvm.Cond.code (qY q) (qB q) (qN q) (qR q) :: gw_tbl) { frames := qf q, cells := 0, slots := 0, locals := ql q } (PcO D cA ad A as M) (QcO D cA ad A Q) 0 0 A
def Rt (Q : Option Int → Mm → Prop) : Zx → Prop
  | ((_, D, cA, ad, A), _, _, _, s, _, args, below, _, _, cells, slots, QW) => cells = 0 ∧ slots = 0 ∧ QW = MQ below (QcO D cA ad A Q) args s 0 0 A
theorem sl_len (ad : Nat → Nat) (as : List Av) : (lg_sl (as.map (cvV ad))).length = as.length := by
  induction as with
  | nil => rfl
  | cons v as ih =>
    have hc : ¬ (cvV ad v).category = 2 := by rw [cvV_cat]; decide
    simp only [lg_sl, List.map_cons, List.flatMap_cons, hc, if_false, List.length_append, List.length_cons, List.length_nil] at ih ⊢
    omega
theorem args_mem (ad : Nat → Nat) : ∀ (as : List Av) (k i : Nat) (v : Av), as[i]? = some v → (k + i, cvV ad v) ∈ lv_args k (as.map (cvV ad))
  | [], k, i, v, h => by simp at h
  | w :: as, k, 0, v, h => by
    simp only [List.getElem?_cons_zero, Option.some.injEq] at h
    subst h
    exact List.mem_cons_self
  | w :: as, k, i + 1, v, h => by
    rw [List.getElem?_cons_succ] at h
    have hc : ¬ (cvV ad w).category = 2 := by rw [cvV_cat]; decide
    simp only [List.map_cons, lv_args, hc, if_false]
    refine List.mem_cons_of_mem _ ?_
    have := args_mem ad as (k + 1) i v h
    rwa [show k + (i + 1) = k + 1 + i by omega]
def lv0 (as : List Av) (n : Nat) : List (Option Av) := as.map some ++ List.replicate (n - as.length) none
theorem lv0_get {as : List Av} {n i : Nat} {v : Av} (h : (lv0 as n)[i]? = some (some v)) : as[i]? = some v := by
  unfold lv0 at h
  by_cases hi : i < as.length
  · rw [List.getElem?_append_left (by simpa using hi)] at h
    rw [List.getElem?_map] at h
    cases ha : as[i]? with
    | none => rw [ha] at h; cases h
    | some w => rw [ha] at h; simpa using h
  · rw [List.getElem?_append_right (by simpa using hi)] at h
    have := List.mem_of_getElem? h
    simp at this
theorem c_of {g : Gx} {q : MI} {as : List Av} {M : Mm} {Q : Option Int → Mm → Prop} (hq : MOk q) (hn : as.length ≤ qN q) (h : ∀ z : Zx, z.1 = g → Cx q z → Rt Q z → Aw z 0 (lv0 as (qN q)) [] M) : Ct g q as M Q := by
  obtain ⟨l, D, cA, ad, A⟩ := g
  intro okm oks
  refine Met.ofW (cc := qB q) (maxL := qN q) (ret := qR q) hq.2.2.2.2.2.1 rfl ?_
  intro p e s m args below meth c s₁ B hml hv
  obtain ⟨rfl, hP, hK, hD, hA, hmost⟩ := hv
  have hts : ∀ w ∈ gw_tbl, w.before (as.map (cvV ad)).toArray s = true := fun w hw => atoms_spec (ws := Jvm.Cond.code (qY q) (qB q) (qN q) (qR q) :: gw_tbl) B.pre w (List.mem_cons_of_mem _ hw)
  have hown : s.vm.findClass q.1 = some m.cls := by rw [hq.2.2.2.2.2.2.1]; exact findClass_of_methodNamed B.named
  have hl := lv_entry (as.map (cvV ad)) (n := qN q) (by rw [sl_len]; exact hn)
  rw [lg_entry_eq]
  have hl2 : lvO ad ((lg_sl (as.map (cvV ad)) ++ List.replicate (qN q - (lg_sl (as.map (cvV ad))).length) Slot.unset).toArray) c.maxLocals (lv0 as (qN q)) := by
    refine ⟨by rw [hml]; exact hl.1, hl.2.1, fun p hp => ?_⟩
    obtain ⟨v, h1, h2⟩ := mem_lvl.mp hp
    have h3 := args_mem ad as 0 p.1 v (lv0_get h1)
    rw [Nat.zero_add, ← h2] at h3
    exact hl.2.2 p h3
  exact h ((l, D, cA, ad, A), p, e, _, s, m, _, below, meth, c, 0, 0, _) rfl ⟨B.exec, B.bytes, hml, hown, hts, B.returns, B.notSynchronized, hK, hA, hmost, Nat.le_refl _, Nat.le_refl _, Nat.zero_le _, Nat.zero_le _⟩ ⟨rfl, rfl, rfl⟩ okm (fun i v hi => oks v (List.mem_of_getElem? (lv0_get hi))) (fun v hv => by cases hv) s.heap [] _ hP hD va_S.rf hl2
section CALLS
variable {q q2 : MI} {z : Zx} {pc : Nat} {lv : List (Option Av)} {st : List Av} {M : Mm} {Q : Option Int → Mm → Prop}
theorem a_iret (hz : Cx q z) (hR : Rt Q z) (hd : decode (qB q) pc = .ok (.ireturn, 1)) {v : Int} (hQ : Q (some v) M) (hty : qR q = some .int ∨ (qR q = some .boolean ∧ (v = 0 ∨ v = 1))) : Aw z pc lv [.inl v] M := by
  obtain ⟨⟨l, D, cA, ad, A⟩, p, e, R, s, m, args, below, meth, c, cells, slots, QW⟩ := z
  obtain ⟨hx, hb, hml, hown, hts, hr, hlk, hK, hA, hmost, hfr, hlo, hce, hsl⟩ := hz
  obtain ⟨rfl, rfl, rfl⟩ := hR
  intro okm okl oks H locs ls hP hD hS hl
  have hv : inR v := oks.head
  have key : ∀ t : State, t.heap = H → s.WarmedH t.vm → QcO D cA ad A Q args s (.returned (some (.int (Int32.ofInt v)))) t := fun t ht hW => ⟨⟨some v, M, rfl, hQ, okm, fun w hw => by cases hw; exact hv, by rw [ht]; exact hP, hD⟩, hS.F ht⟩
  rcases hty with h | ⟨h, h01⟩
  · exact W.zret (ty := .int) hx hb (hr.trans h) rfl key hS.2.2 hd hlk
  · exact W.zret (ty := .boolean) hx hb (hr.trans h) (i32_narrow h01) key hS.2.2 hd hlk
theorem a_vret (hz : Cx q z) (hR : Rt Q z) (hd : decode (qB q) pc = .ok (.return_, 1)) (hQ : Q none M) (hty : qR q = none) : Aw z pc lv [] M := by
  obtain ⟨⟨l, D, cA, ad, A⟩, p, e, R, s, m, args, below, meth, c, cells, slots, QW⟩ := z
  obtain ⟨hx, hb, hml, hown, hts, hr, hlk, hK, hA, hmost, hfr, hlo, hce, hsl⟩ := hz
  obtain ⟨rfl, rfl, rfl⟩ := hR
  intro okm okl oks H locs ls hP hD hS hl
  exact W.vret hx hb (hr.trans hty) (fun t ht hW => ⟨⟨none, M, rfl, hQ, okm, fun w hw => (nomatch hw), by rw [ht]; exact hP, hD⟩, hS.F ht⟩) hS.2.2 hd hlk
theorem blindO (D : va_G) (cA : Ca) (ad : Nat → Nat) (A : Nat → Prop) (as : List Av) (M : Mm) : FrameBlind (PcO D cA ad A as M) := by
  intro a U g mk h
  obtain ⟨h1, h2, h3, h4, h5, h6, h7⟩ := h
  exact ⟨h1, h2, va_K.moved (u := U) (U := U.calling g mk a) (Vm.Alike.refl U.vm) h3, h4, h5, va_Z.moved (u := U) (U := U.calling g mk a) (Vm.Alike.refl U.vm) h6, va_T.moved (u := U) (U := U.calling g mk a) (Vm.Alike.refl U.vm) h7⟩
theorem goodC (hq : MOk q) : GoodIn gw_tbl (Jvm.Cond.code (qY q) (qB q) (qN q) (qR q) :: gw_tbl) := by
  intro w hw
  rcases List.mem_cons.mp hw with rfl | h
  · exact gw_good _ hq.2.2.2.1
  · exact gw_good _ h
/-- what goes on behind a call -/
theorem a_back {p : Program} {l : Launch} {e : Env} {R : Room} {s : State} {m : MethodId} {args : Array Value} {below : List Frame} {meth : Method} {c : Code} {H : Heap} {locs : List Loc} {cells slots : Nat} {QW : State → Prop} {D : va_G} {cA : Ca} {ad : Nat → Nat} {A : Nat → Prop} {ls : Array Slot} {st0 : List Value} {a : Array Value}
    (run : va_Run p l e R s m args below meth c H locs cells slots 0 0 (F0 m pc ls st0) (st.map (cvV ad)) (QcO D cA ad A Q a) A) (hS : va_S A s.heap H locs) (okl : okL lv) (oks : okS st) (hl : lvO ad ls c.maxLocals lv)
    (k : ∀ r M', Q r M' → Aw ((l, D, cA, ad, A), p, e, R, s, m, args, below, meth, c, cells, slots, QW) (pc + 3) lv (r.toList.map Sum.inl ++ st) M') : W p l e R s m args below meth c H locs cells slots QW (F0 m pc ls st0) := by
  intro T hT X
  obtain ⟨v, st₀, t, T', L, h0, X', hL, e1, e2, ⟨⟨r, M', hv, hQ, okm', hri, hP', hD'⟩, hz1, hk⟩, sg⟩ := run T hT X
  rw [h0] at hz1 hk
  have oks' : okS (r.toList.map Sum.inl ++ st) := by
    intro w hw
    rcases List.mem_append.mp hw with h | h
    · cases r with
      | none => cases h
      | some x => simp at h; subst h; exact hri x rfl
    · exact oks w h
  obtain ⟨t2, a1, b1⟩ := k r M' hQ okm' okl oks' T'.heap (locs ++ L) ls (by rw [e1]; exact hP') hD' ⟨Nat.le_trans hS.1 (by rw [e1]; exact hz1), fun x h1 h2 => by rw [e1, hk x (Nat.lt_of_lt_of_le h1 hS.1) h2]; exact hS.2.1 x h1 h2, fun x hx => by
      rcases List.mem_append.mp hx with h | h
      · exact hS.2.2 x h
      · exact hL x h⟩ hl T' rfl X'
  refine ⟨t2, sg t2 ?_, b1⟩
  cases hv
  cases r with
  | none => exact a1
  | some x => exact a1
theorem a_callS {idx : Nat} {as : List Av} (hq2 : MOk q2) (hz : Cx q z) (hL : LkS q.1 idx (qY q2)) (hd : decode (qB q) pc = .ok (.invokestatic idx, 3)) (hn : (parseMethodDescriptor (qY q2).desc).map (fun d => d.parameters.length) = some as.length) (hfr2 : qf q2 + 1 ≤ qf q) (hlo2 : 8 + (qN q2 + 11) + ql q2 ≤ ql q) (hrest : st.length ≤ 8) (hC : Ct z.1 q2 as M Q)
    (k : ∀ r M', Q r M' → Aw z (pc + 3) lv (r.toList.map Sum.inl ++ st) M') : Aw z pc lv (as.reverse ++ st) M := by
  obtain ⟨⟨l, D, cA, ad, A⟩, p, e, R, s, m, args, below, meth, c, cells, slots, QW⟩ := z
  obtain ⟨hx, hb, hml, hown, hts, hr, hlk, hK, hA, hmost, hfr, hlo, hce, hsl⟩ := hz
  intro okm okl oks H locs ls hP hD hS hl
  have ok1 : okS as := fun v hv => oks v (List.mem_append_left _ (List.mem_reverse.mpr hv))
  have ok2 : okS st := fun v hv => oks v (List.mem_append_right _ hv)
  have hM := hC okm ok1
  obtain ⟨g1, g2, g3, g4, g5, g6, g7, g8, g9⟩ := hq2
  have hq2 : MOk q2 := ⟨g1, g2, g3, g4, g5, g6, g7, g8, g9⟩
  refine a_back (va_runS (As := as.map (cvV ad)) (rest := st.map (cvV ad)) ⟨hx, hb, hml, hown, hts⟩ hM ⟨⟨rfl, rfl, ?_, ?_, pay_in hts (goodC hq2), List.mem_cons_self, hts _ g4, hts _ g5, ⟨g8, g9⟩, ?_, hts _ hL.1⟩, hts _ hL.2⟩ ⟨blindO D cA ad A as M, ?_⟩ rfl (List.length_map _) (hl.1.trans hml) ?_ (lv_room (by rw [cat_sum]; exact hrest)) hd ⟨hce, hsl⟩) hS okl ok2 hl k
  · exact Nat.le_trans hfr2 hfr
  · exact Nat.le_trans hlo2 hlo
  · intro sig hs
    rw [hs] at hn
    exact (Option.some.inj hn).symm
  · intro U hU hW
    refine ⟨rfl, by rw [hU]; exact hP, va_K.moved hW.alike hK, hD, fun x hx2 => hA x (Nat.le_trans hS.1 (by rw [← hU]; exact hx2)), ?_, ?_⟩
    · rw [hU]; exact (hmost.1.kept (fun x h1 h2 => hS.2.1 x h1 h2)).moved hW.alike
    · rw [hU]; exact (hmost.2.kept (fun x h1 h2 => hS.2.1 x h1 h2)).moved hW.alike
  · show (as.reverse ++ st).map (cvV ad) = _
    rw [List.map_append, List.map_reverse]
theorem a_callV {idx a ci : Nat} {as : List Av} {fs : List (Option Nat)} {T0 : u_T} {N0 : Nat} (hq2 : MOk q2) (hz : Cx q z) (hL : LkV q.1 idx (qY q2)) (hd : decode (qB q) pc = .ok (.invokevirtual idx, 3)) (hn : (parseMethodDescriptor (qY q2).desc).map (fun d => d.parameters.length) = some as.length) (hfr2 : qf q2 + 1 ≤ qf q) (hlo2 : 8 + (qN q2 + 11) + ql q2 ≤ ql q) (hrest : st.length ≤ 8) (ht : tp[a]? = some (.inl (ci, fs))) (hci : vwCl[ci]? = some ((qY q2).cls, T0, N0)) (hC : Ct z.1 q2 (.inr a :: as) M Q)
    (k : ∀ r M', Q r M' → Aw z (pc + 3) lv (r.toList.map Sum.inl ++ st) M') : Aw z pc lv (as.reverse ++ .inr a :: st) M := by
  obtain ⟨⟨l, D, cA, ad, A⟩, p, e, R, s, m, args, below, meth, c, cells, slots, QW⟩ := z
  obtain ⟨hx, hb, hml, hown, hts, hr, hlk, hK, hA, hmost, hfr, hlo, hce, hsl⟩ := hz
  intro okm okl oks H locs ls hP hD hS hl
  have ok1 : okS (.inr a :: as) := by
    intro v hv
    rcases List.mem_cons.mp hv with rfl | h
    · trivial
    · exact oks v (List.mem_append_left _ (List.mem_reverse.mpr h))
  have ok2 : okS st := fun v hv => oks v (List.mem_append_right _ (List.mem_cons_of_mem _ hv))
  have hM := hC okm ok1
  obtain ⟨g1, g2, g3, g4, g5, g6, g7, g8, g9⟩ := hq2
  have hq2 : MOk q2 := ⟨g1, g2, g3, g4, g5, g6, g7, g8, g9⟩
  refine a_back (va_runV (As := as.map (cvV ad)) (rest := st.map (cvV ad)) (b := ad a) ⟨hx, hb, hml, hown, hts⟩ hM ⟨⟨rfl, rfl, ?_, ?_, pay_in hts (goodC hq2), List.mem_cons_self, hts _ g4, hts _ g5, ⟨g8, g9⟩, ?_, hts _ hL.1⟩, hts _ hL.2.1, hts _ hL.2.2⟩ ⟨blindO D cA ad A (.inr a :: as) M, ?_, ?_⟩ rfl (List.length_map _) (hl.1.trans hml) ?_ (lv_room (by rw [cat_sum]; exact hrest)) hd ⟨hce, hsl⟩) hS okl ok2 hl k
  · exact Nat.le_trans hfr2 hfr
  · exact Nat.le_trans hlo2 hlo
  · intro sig hs
    rw [hs] at hn
    exact (Option.some.inj hn).symm
  · exact va_recv hK hP hci (wld_get ht)
  · intro U hU hW
    refine ⟨rfl, by rw [hU]; exact hP, va_K.moved hW.alike hK, hD, fun x hx2 => hA x (Nat.le_trans hS.1 (by rw [← hU]; exact hx2)), ?_, ?_⟩
    · rw [hU]; exact (hmost.1.kept (fun x h1 h2 => hS.2.1 x h1 h2)).moved hW.alike
    · rw [hU]; exact (hmost.2.kept (fun x h1 h2 => hS.2.1 x h1 h2)).moved hW.alike
  · show (as.reverse ++ .inr a :: st).map (cvV ad) = _
    rw [List.map_append, List.map_reverse]
    rfl
theorem a_less {lv' : List (Option Av)} (h : ∀ (i : Nat) (v : Av), lv'[i]? = some (some v) → lv[i]? = some (some v)) (k : Aw z pc lv' st M) : Aw z pc lv st M := by
  obtain ⟨⟨l, D, cA, ad, A⟩, p, e, R, s, m, args, below, meth, c, cells, slots, QW⟩ := z
  intro okm okl oks H locs ls hP hD hS hl
  exact k okm (fun i v hi => okl i v (h i v hi)) oks H locs ls hP hD hS (hl.less h)
def lessL (mask : List Bool) (lv : List (Option Av)) : List (Option Av) := lv.zipWith (fun v b => if b then v else none) mask
theorem a_mask (mask : List Bool) (k : Aw z pc (lessL mask lv) st M) : Aw z pc lv st M := by
  refine a_less (fun i v h => ?_) k
  unfold lessL at h
  rw [List.getElem?_zipWith] at h
  cases h1 : lv[i]? with
  | none => rw [h1] at h; cases h
  | some w =>
    rw [h1] at h
    cases h2 : mask[i]? with
    | none => rw [h2] at h; cases h
    | some b =>
      rw [h2] at h
      cases b with
      | true => simpa using h
      | false => simp at h
end CALLS
/-! FUNCTIONS that the methods compute: their words -/
def OK {α : Type} (o : Option α) (P : α → Prop) : Prop := match o with
  | some a => P a
  | none => False
def gd {α : Type} (C : Prop) [Decidable C] (t : Option α) : Option α := if C then t else none
def bnd {α β : Type} (e : α) (f : α → Option β) : Option β := f e
def cal {α β : Type} (o : Option α) (f : α → Option β) : Option β := match o with
  | some a => f a
  | none => none
def cal2 {α β γ : Type} (o : Option (α × γ)) (f : α → γ → Option β) : Option β := match o with
  | some a => f a.1 a.2
  | none => none
def jn {α β : Type} (k : α) (t : α → β) : β := t k
theorem gd_elim {α : Type} {C : Prop} [Decidable C] {t : Option α} {P : α → Prop} (h : OK (gd C t) P) : C ∧ OK t P := by
  unfold gd at h
  by_cases hc : C
  · rw [if_pos hc] at h; exact ⟨hc, h⟩
  · rw [if_neg hc] at h; exact h.elim
theorem gd_pos {α : Type} {C : Prop} [Decidable C] {t : Option α} (h : C) : gd C t = t := if_pos h
theorem ite_elim {α : Type} {C : Prop} [Decidable C] {a b : Option α} {P : α → Prop} {G : Prop} (h : OK (if C then a else b) P) (k1 : C → OK a P → G) (k2 : ¬ C → OK b P → G) : G := by
  by_cases hc : C
  · rw [if_pos hc] at h; exact k1 hc h
  · rw [if_neg hc] at h; exact k2 hc h
theorem cal_elim {α β : Type} {o : Option α} {f : α → Option β} {P : β → Prop} (h : OK (cal o f) P) : ∃ a, o = some a ∧ OK (f a) P := by
  cases o with
  | none => exact h.elim
  | some a => exact ⟨a, rfl, h⟩
theorem cal2_elim {α β γ : Type} {o : Option (α × γ)} {f : α → γ → Option β} {P : β → Prop} (h : OK (cal2 o f) P) : ∃ a c, o = some (a, c) ∧ OK (f a c) P := by
  cases o with
  | none => exact h.elim
  | some a => exact ⟨a.1, a.2, rfl, h⟩
theorem jn_elim {α β : Type} {k : α} {t : α → Option β} {P : β → Prop} {G : Prop} (h : OK (jn k t) P) (C : α → Prop) (hk : C k) (kk : ∀ k', C k' → OK (t k') P → G) : G := kk k hk h
theorem bnd_elim {α β : Type} {e : α} {f : α → Option β} {P : β → Prop} {G : α → Prop} (h : OK (bnd e f) P) (k : ∀ t, OK (f t) P → G t) : G e := k e h
def iabs (a : Int) : Int := if 0 ≤ a then a else -a
def imax (a b : Int) : Int := if a < b then b else a
def imin (a b : Int) : Int := if b < a then b else a
def cpM (M : Mm) (b a : Nat) (n : Int) : Mm := upR M b (fun j => if j < n.toNat then M a j else M b j)
theorem d_at {q : MI} (hq : MD q) {pc : Nat} {x : Instr} {n : Nat} (h : (qC q).find? (fun y => y.1 == pc) = some (pc, x, n)) : decode (qB q) pc = .ok (x, n) := hq.1 (pc, x, n) (mem_find h).1
theorem c_ofP {g : Gx} {q : MI} {as : List Av} {M : Mm} {f : Option Int} {r : Int} (hf : f = some r) (hq : MOk q) (hn : as.length ≤ qN q) (h : ∀ z : Zx, Cx q z → ∀ Q : Option Int → Mm → Prop, Rt Q z → OK f (fun r2 => Q (some r2) M) → Aw z 0 (lv0 as (qN q)) [] M) : Ct g q as M (fun r' M' => r' = some r ∧ M' = M) :=
  c_of hq hn (fun z _ hz hR => h z hz _ hR (by rw [hf]; exact ⟨rfl, rfl⟩))
theorem c_ofI {g : Gx} {q : MI} {as : List Av} {M M2 : Mm} {f : Option (Int × Mm)} {r : Int} (hf : f = some (r, M2)) (hq : MOk q) (hn : as.length ≤ qN q) (h : ∀ z : Zx, Cx q z → ∀ Q : Option Int → Mm → Prop, Rt Q z → OK f (fun r2 => Q (some r2.1) r2.2) → Aw z 0 (lv0 as (qN q)) [] M) : Ct g q as M (fun r' M' => r' = some r ∧ M' = M2) :=
  c_of hq hn (fun z _ hz hR => h z hz _ hR (by rw [hf]; exact ⟨rfl, rfl⟩))
theorem c_ofV {g : Gx} {q : MI} {as : List Av} {M M2 : Mm} {f : Option Mm} (hf : f = some M2) (hq : MOk q) (hn : as.length ≤ qN q) (h : ∀ z : Zx, Cx q z → ∀ Q : Option Int → Mm → Prop, Rt Q z → OK f (fun r2 => Q none r2) → Aw z 0 (lv0 as (qN q)) [] M) : Ct g q as M (fun r' M' => r' = none ∧ M' = M2) :=
  c_of hq hn (fun z _ hz hR => h z hz _ hR (by rw [hf]; exact ⟨rfl, rfl⟩))
section CALLF
variable {q q2 : MI} {z : Zx} {pc : Nat} {lv : List (Option Av)} {st : List Av} {M : Mm}
/-- a call with an int answer, or with none, of a method that is known to compute (r, M2) -/
theorem a_fS {idx : Nat} {as : List Av} {r : Option Int} {M2 : Mm} (hC : Ct z.1 q2 as M (fun r' M' => r' = r ∧ M' = M2)) (hq : MD q) (hq2 : MOk q2) (hz : Cx q z) (hL : LkS q.1 idx (qY q2)) (hd : (qC q).find? (fun y => y.1 == pc) = some (pc, .invokestatic idx, 3)) (n k0 : Nat) (hn : ((parseMethodDescriptor (qY q2).desc).map (fun d => d.parameters.length) = some n) ∧ qf q2 + 1 ≤ qf q ∧ 8 + (qN q2 + 11) + ql q2 ≤ ql q ∧ k0 ≤ 8) (h1 : as.length = n) (h2 : st.length = k0) (k : Aw z (pc + 3) lv (r.toList.map Sum.inl ++ st) M2) : Aw z pc lv (as.reverse ++ st) M :=
  a_callS hq2 hz hL (d_at hq hd) (by rw [h1]; exact hn.1) hn.2.1 hn.2.2.1 (by rw [h2]; exact hn.2.2.2) hC (fun r' M' h => by obtain ⟨rfl, rfl⟩ := h; exact k)
theorem a_fV {idx a ci : Nat} {as : List Av} {fs : List (Option Nat)} {T0 : u_T} {N0 : Nat} {r : Option Int} {M2 : Mm} (hC : Ct z.1 q2 (.inr a :: as) M (fun r' M' => r' = r ∧ M' = M2)) (hq : MD q) (hq2 : MOk q2) (hz : Cx q z) (hL : LkV q.1 idx (qY q2)) (hd : (qC q).find? (fun y => y.1 == pc) = some (pc, .invokevirtual idx, 3)) (n k0 : Nat) (hn : ((parseMethodDescriptor (qY q2).desc).map (fun d => d.parameters.length) = some n) ∧ qf q2 + 1 ≤ qf q ∧ 8 + (qN q2 + 11) + ql q2 ≤ ql q ∧ k0 ≤ 8) (h1 : as.length = n) (h2 : st.length = k0) (ht : tp[a]? = some (.inl (ci, fs))) (hci : vwCl[ci]? = some ((qY q2).cls, T0, N0)) (k : Aw z (pc + 3) lv (r.toList.map Sum.inl ++ st) M2) : Aw z pc lv (as.reverse ++ .inr a :: st) M :=
  a_callV hq2 hz hL (d_at hq hd) (by rw [h1]; exact hn.1) hn.2.1 hn.2.2.1 (by rw [h2]; exact hn.2.2.2) ht hci hC (fun r' M' h => by obtain ⟨rfl, rfl⟩ := h; exact k)
theorem a_abs {a : Int} {i : Nat} (hq : MD q) (hz : Cx q z) (h : inR (-a)) (hL : Jvm.Cond.methodLink q.1 i Lib.Math.abs.name ∈ gw_tbl) (k0 : Nat) (hn : 1 ≤ qf q ∧ k0 + 13 ≤ ql q) (h2 : st.length = k0) (hd : (qC q).find? (fun y => y.1 == pc) = some (pc, .invokestatic i, 3)) (k : Aw z (pc + 3) lv (.inl (iabs a) :: st) M) : Aw z pc lv (.inl a :: st) M := a_mabs hz h hL hn.1 (by rw [h2]; exact hn.2) (d_at hq hd) k
theorem a_max {a b : Int} {i : Nat} (hq : MD q) (hz : Cx q z) (hL : Jvm.Cond.methodLink q.1 i Lib.Math.max.name ∈ gw_tbl) (k0 : Nat) (hn : 1 ≤ qf q ∧ k0 + 13 ≤ ql q) (h2 : st.length = k0) (hd : (qC q).find? (fun y => y.1 == pc) = some (pc, .invokestatic i, 3)) (k : Aw z (pc + 3) lv (.inl (imax a b) :: st) M) : Aw z pc lv (.inl b :: .inl a :: st) M := a_mmax hz hL hn.1 (by rw [h2]; exact hn.2) (d_at hq hd) k
theorem a_min {a b : Int} {i : Nat} (hq : MD q) (hz : Cx q z) (hL : Jvm.Cond.methodLink q.1 i Lib.Math.min.name ∈ gw_tbl) (k0 : Nat) (hn : 1 ≤ qf q ∧ k0 + 13 ≤ ql q) (h2 : st.length = k0) (hd : (qC q).find? (fun y => y.1 == pc) = some (pc, .invokestatic i, 3)) (k : Aw z (pc + 3) lv (.inl (imin a b) :: st) M) : Aw z pc lv (.inl b :: .inl a :: st) M := a_mmin hz hL hn.1 (by rw [h2]; exact hn.2) (d_at hq hd) k
theorem a_cpy {i a b n0 n1 : Nat} {n : Int} (hq : MD q) (hz : Cx q z) (hL : Jvm.Cond.methodLink q.1 i arraycopyName ∈ gw_tbl) (ha : tp[a]? = some (.inr (.inl (0, n0)))) (hb2 : tp[b]? = some (.inr (.inl (0, n1)))) (k0 : Nat) (h0 : (0 ≤ n ∧ n ≤ n0 ∧ n ≤ n1) ∧ 1 ≤ qf q ∧ k0 + 18 ≤ ql q) (h2 : st.length = k0) (hd : (qC q).find? (fun y => y.1 == pc) = some (pc, .invokestatic i, 3)) (k : Aw z (pc + 3) lv st (cpM M b a n)) : Aw z pc lv (.inl n :: .inl 0 :: .inr b :: .inl 0 :: .inr a :: st) M := a_copy hz hL ha hb2 h0.1 h0.2.1 (by rw [h2]; exact h0.2.2) (d_at hq hd) k
theorem a_ri {Q : Option Int → Mm → Prop} {v : Int} (hq : MD q) (hz : Cx q z) (hR : Rt Q z) (hd : (qC q).find? (fun y => y.1 == pc) = some (pc, .ireturn, 1)) (hty : qR q = some .int ∨ (qR q = some .boolean ∧ (v = 0 ∨ v = 1))) (hQ : Q (some v) M) : Aw z pc lv [.inl v] M := a_iret hz hR (d_at hq hd) hQ hty
theorem a_rv {Q : Option Int → Mm → Prop} (hq : MD q) (hz : Cx q z) (hR : Rt Q z) (hd : (qC q).find? (fun y => y.1 == pc) = some (pc, .return_, 1)) (hty : qR q = none) (hQ : Q none M) : Aw z pc lv [] M := a_vret hz hR (d_at hq hd) hQ hty
end CALLF
