section RULES
variable {q : MI} {z : Zx} {pc : Nat} {lv : List (Option Av)} {st : List Av} {M : Mm}
theorem a_iload (hz : Cx q z) {i : Nat} {v : Int} (hd : decode (qB q) pc = .ok (.iload i, 2)) (hv : lv[i]? = some (some (.inl v))) (k : Aw z (pc + 2) lv (.inl v :: st) M) : Aw z pc lv st M := by
  obtain ⟨⟨l, D, cA, ad, A⟩, p, e, R, s, m, args, below, meth, c, cells, slots, QW⟩ := z
  obtain ⟨hx, hb, hml, hown, hts, hr, hlk, hK, hA, hmost, hfr, hlo, hce, hsl⟩ := hz
  intro okm okl oks H locs ls hP hD hS hl
  exact lv_iload hx hb hd (hl.at hv) (k okm okl (oks.cons (okl _ _ hv)) H locs ls hP hD hS hl)
theorem a_iload_n (hz : Cx q z) {i : Nat} {f : Fin 4} {v : Int} (hf : (f : Nat) = i) (hd : decode (qB q) pc = .ok (.iload_n f, 1)) (hv : lv[i]? = some (some (.inl v))) (k : Aw z (pc + 1) lv (.inl v :: st) M) : Aw z pc lv st M := by
  obtain ⟨⟨l, D, cA, ad, A⟩, p, e, R, s, m, args, below, meth, c, cells, slots, QW⟩ := z
  obtain ⟨hx, hb, hml, hown, hts, hr, hlk, hK, hA, hmost, hfr, hlo, hce, hsl⟩ := hz
  intro okm okl oks H locs ls hP hD hS hl
  exact lv_iload_n hx hb hd hf (hl.at hv) (k okm okl (oks.cons (okl _ _ hv)) H locs ls hP hD hS hl)
theorem a_aload (hz : Cx q z) {i : Nat} {v : Nat} (hd : decode (qB q) pc = .ok (.aload i, 2)) (hv : lv[i]? = some (some (.inr v))) (k : Aw z (pc + 2) lv (.inr v :: st) M) : Aw z pc lv st M := by
  obtain ⟨⟨l, D, cA, ad, A⟩, p, e, R, s, m, args, below, meth, c, cells, slots, QW⟩ := z
  obtain ⟨hx, hb, hml, hown, hts, hr, hlk, hK, hA, hmost, hfr, hlo, hce, hsl⟩ := hz
  intro okm okl oks H locs ls hP hD hS hl
  exact lv_aload hx hb hd (hl.at hv) (k okm okl (oks.cons (okl _ _ hv)) H locs ls hP hD hS hl)
theorem a_aload_n (hz : Cx q z) {i : Nat} {f : Fin 4} {v : Nat} (hf : (f : Nat) = i) (hd : decode (qB q) pc = .ok (.aload_n f, 1)) (hv : lv[i]? = some (some (.inr v))) (k : Aw z (pc + 1) lv (.inr v :: st) M) : Aw z pc lv st M := by
  obtain ⟨⟨l, D, cA, ad, A⟩, p, e, R, s, m, args, below, meth, c, cells, slots, QW⟩ := z
  obtain ⟨hx, hb, hml, hown, hts, hr, hlk, hK, hA, hmost, hfr, hlo, hce, hsl⟩ := hz
  intro okm okl oks H locs ls hP hD hS hl
  exact lv_aload_n hx hb hd hf (hl.at hv) (k okm okl (oks.cons (okl _ _ hv)) H locs ls hP hD hS hl)
theorem a_istore (hz : Cx q z) {i : Nat} {v : Int} (hi : i < qN q) (hd : decode (qB q) pc = .ok (.istore i, 2)) (k : Aw z (pc + 2) (lv.set i (some (.inl v))) st M) : Aw z pc lv (.inl v :: st) M := by
  obtain ⟨⟨l, D, cA, ad, A⟩, p, e, R, s, m, args, below, meth, c, cells, slots, QW⟩ := z
  obtain ⟨hx, hb, hml, hown, hts, hr, hlk, hK, hA, hmost, hfr, hlo, hce, hsl⟩ := hz
  intro okm okl oks H locs ls hP hD hS hl
  exact lv_istore hx hb hd hl (by rw [hml]; exact hi) rfl (fun ls2 hl2 => k okm (okl.set oks.head) oks.tail H locs ls2 hP hD hS (lvO_set hl2))
theorem a_istore_n (hz : Cx q z) {i : Nat} {f : Fin 4} {v : Int} (hi : i < qN q) (hf : (f : Nat) = i) (hd : decode (qB q) pc = .ok (.istore_n f, 1)) (k : Aw z (pc + 1) (lv.set i (some (.inl v))) st M) : Aw z pc lv (.inl v :: st) M := by
  obtain ⟨⟨l, D, cA, ad, A⟩, p, e, R, s, m, args, below, meth, c, cells, slots, QW⟩ := z
  obtain ⟨hx, hb, hml, hown, hts, hr, hlk, hK, hA, hmost, hfr, hlo, hce, hsl⟩ := hz
  intro okm okl oks H locs ls hP hD hS hl
  exact lv_istore_n hx hb hd hf hl (by rw [hml]; exact hi) rfl (fun ls2 hl2 => k okm (okl.set oks.head) oks.tail H locs ls2 hP hD hS (lvO_set hl2))
theorem a_astore (hz : Cx q z) {i : Nat} {v : Nat} (hi : i < qN q) (hd : decode (qB q) pc = .ok (.astore i, 2)) (k : Aw z (pc + 2) (lv.set i (some (.inr v))) st M) : Aw z pc lv (.inr v :: st) M := by
  obtain ⟨⟨l, D, cA, ad, A⟩, p, e, R, s, m, args, below, meth, c, cells, slots, QW⟩ := z
  obtain ⟨hx, hb, hml, hown, hts, hr, hlk, hK, hA, hmost, hfr, hlo, hce, hsl⟩ := hz
  intro okm okl oks H locs ls hP hD hS hl
  exact lv_astore hx hb hd hl (by rw [hml]; exact hi) rfl (fun ls2 hl2 => k okm (okl.set oks.head) oks.tail H locs ls2 hP hD hS (lvO_set hl2))
theorem a_astore_n (hz : Cx q z) {i : Nat} {f : Fin 4} {v : Nat} (hi : i < qN q) (hf : (f : Nat) = i) (hd : decode (qB q) pc = .ok (.astore_n f, 1)) (k : Aw z (pc + 1) (lv.set i (some (.inr v))) st M) : Aw z pc lv (.inr v :: st) M := by
  obtain ⟨⟨l, D, cA, ad, A⟩, p, e, R, s, m, args, below, meth, c, cells, slots, QW⟩ := z
  obtain ⟨hx, hb, hml, hown, hts, hr, hlk, hK, hA, hmost, hfr, hlo, hce, hsl⟩ := hz
  intro okm okl oks H locs ls hP hD hS hl
  exact lv_astore_n hx hb hd hf hl (by rw [hml]; exact hi) rfl (fun ls2 hl2 => k okm (okl.set oks.head) oks.tail H locs ls2 hP hD hS (lvO_set hl2))
theorem a_iconst (hz : Cx q z) {v : Int} (h : inR v) (hd : decode (qB q) pc = .ok (.iconst v, 1)) (k : Aw z (pc + 1) lv (.inl v :: st) M) : Aw z pc lv st M := by
  obtain ⟨⟨l, D, cA, ad, A⟩, p, e, R, s, m, args, below, meth, c, cells, slots, QW⟩ := z
  obtain ⟨hx, hb, hml, hown, hts, hr, hlk, hK, hA, hmost, hfr, hlo, hce, hsl⟩ := hz
  intro okm okl oks H locs ls hP hD hS hl
  exact lv_iconst hx hb hd rfl (k okm okl (oks.cons h) H locs ls hP hD hS hl)
theorem i8_i {v : Int} (h : -128 ≤ v ∧ v ≤ 127) : (Int8.ofInt v).toInt32 = Int32.ofInt v := by
  rw [← Int32.toInt_inj, i32_i ⟨by omega, by omega⟩, Int8.toInt_toInt32, Int8.toInt_ofInt_of_le (by omega) (by omega)]
theorem i16_i {v : Int} (h : -32768 ≤ v ∧ v ≤ 32767) : (Int16.ofInt v).toInt32 = Int32.ofInt v := by
  rw [← Int32.toInt_inj, i32_i ⟨by omega, by omega⟩, Int16.toInt_toInt32, Int16.toInt_ofInt_of_le (by omega) (by omega)]
theorem a_bipush (hz : Cx q z) {v : Int} (h : -128 ≤ v ∧ v ≤ 127) (hd : decode (qB q) pc = .ok (.bipush v, 2)) (k : Aw z (pc + 2) lv (.inl v :: st) M) : Aw z pc lv st M := by
  obtain ⟨⟨l, D, cA, ad, A⟩, p, e, R, s, m, args, below, meth, c, cells, slots, QW⟩ := z
  obtain ⟨hx, hb, hml, hown, hts, hr, hlk, hK, hA, hmost, hfr, hlo, hce, hsl⟩ := hz
  intro okm okl oks H locs ls hP hD hS hl
  exact lv_bipush hx hb hd (i8_i h) (k okm okl (oks.cons ⟨by omega, by omega⟩) H locs ls hP hD hS hl)
theorem a_sipush (hz : Cx q z) {v : Int} (h : -32768 ≤ v ∧ v ≤ 32767) (hd : decode (qB q) pc = .ok (.sipush v, 3)) (k : Aw z (pc + 3) lv (.inl v :: st) M) : Aw z pc lv st M := by
  obtain ⟨⟨l, D, cA, ad, A⟩, p, e, R, s, m, args, below, meth, c, cells, slots, QW⟩ := z
  obtain ⟨hx, hb, hml, hown, hts, hr, hlk, hK, hA, hmost, hfr, hlo, hce, hsl⟩ := hz
  intro okm okl oks H locs ls hP hD hS hl
  exact lv_sipush hx hb hd (i16_i h) (k okm okl (oks.cons ⟨by omega, by omega⟩) H locs ls hP hD hS hl)
theorem a_ldc (hz : Cx q z) {i : Nat} {v : Int} (h : inR v) (hc : Jvm.Cond.constant q.1 i (Int32.ofInt v) ∈ gw_tbl) (hd : decode (qB q) pc = .ok (.ldc i, 2)) (k : Aw z (pc + 2) lv (.inl v :: st) M) : Aw z pc lv st M := by
  obtain ⟨⟨l, D, cA, ad, A⟩, p, e, R, s, m, args, below, meth, c, cells, slots, QW⟩ := z
  obtain ⟨hx, hb, hml, hown, hts, hr, hlk, hK, hA, hmost, hfr, hlo, hce, hsl⟩ := hz
  intro okm okl oks H locs ls hP hD hS hl
  exact lv_ldc hx hb hown (hts _ hc) hd (k okm okl (oks.cons h) H locs ls hP hD hS hl)
theorem a_ldc_w (hz : Cx q z) {i : Nat} {v : Int} (h : inR v) (hc : Jvm.Cond.constant q.1 i (Int32.ofInt v) ∈ gw_tbl) (hd : decode (qB q) pc = .ok (.ldc_w i, 3)) (k : Aw z (pc + 3) lv (.inl v :: st) M) : Aw z pc lv st M := by
  obtain ⟨⟨l, D, cA, ad, A⟩, p, e, R, s, m, args, below, meth, c, cells, slots, QW⟩ := z
  obtain ⟨hx, hb, hml, hown, hts, hr, hlk, hK, hA, hmost, hfr, hlo, hce, hsl⟩ := hz
  intro okm okl oks H locs ls hP hD hS hl
  exact lv_ldcw hx hb hown (hts _ hc) hd (k okm okl (oks.cons h) H locs ls hP hD hS hl)
theorem a_iadd (hz : Cx q z) {a b : Int} (h : inR (a + b)) (hd : decode (qB q) pc = .ok (.iadd, 1)) (k : Aw z (pc + 1) lv (.inl (a + b) :: st) M) : Aw z pc lv (.inl b :: .inl a :: st) M := by
  obtain ⟨⟨l, D, cA, ad, A⟩, p, e, R, s, m, args, below, meth, c, cells, slots, QW⟩ := z
  obtain ⟨hx, hb, hml, hown, hts, hr, hlk, hK, hA, hmost, hfr, hlo, hce, hsl⟩ := hz
  intro okm okl oks H locs ls hP hD hS hl
  have k2 := k okm okl (oks.tail.tail.cons h) H locs ls hP hD hS hl
  refine lv_iadd hx hb hd ?_
  rw [← Int32.ofInt_add]
  exact k2
theorem a_isub (hz : Cx q z) {a b : Int} (h : inR (a - b)) (hd : decode (qB q) pc = .ok (.isub, 1)) (k : Aw z (pc + 1) lv (.inl (a - b) :: st) M) : Aw z pc lv (.inl b :: .inl a :: st) M := by
  obtain ⟨⟨l, D, cA, ad, A⟩, p, e, R, s, m, args, below, meth, c, cells, slots, QW⟩ := z
  obtain ⟨hx, hb, hml, hown, hts, hr, hlk, hK, hA, hmost, hfr, hlo, hce, hsl⟩ := hz
  intro okm okl oks H locs ls hP hD hS hl
  have k2 := k okm okl (oks.tail.tail.cons h) H locs ls hP hD hS hl
  refine lv_isub hx hb hd ?_
  rw [← Int32.ofInt_sub]
  exact k2
theorem a_imul (hz : Cx q z) {a b : Int} (h : inR (a * b)) (hd : decode (qB q) pc = .ok (.imul, 1)) (k : Aw z (pc + 1) lv (.inl (a * b) :: st) M) : Aw z pc lv (.inl b :: .inl a :: st) M := by
  obtain ⟨⟨l, D, cA, ad, A⟩, p, e, R, s, m, args, below, meth, c, cells, slots, QW⟩ := z
  obtain ⟨hx, hb, hml, hown, hts, hr, hlk, hK, hA, hmost, hfr, hlo, hce, hsl⟩ := hz
  intro okm okl oks H locs ls hP hD hS hl
  have k2 := k okm okl (oks.tail.tail.cons h) H locs ls hP hD hS hl
  refine lv_imul hx hb hd ?_
  rw [← Int32.ofInt_mul]
  exact k2
theorem a_ineg (hz : Cx q z) {a : Int} (h : inR (-a)) (hd : decode (qB q) pc = .ok (.ineg, 1)) (k : Aw z (pc + 1) lv (.inl (-a) :: st) M) : Aw z pc lv (.inl a :: st) M := by
  obtain ⟨⟨l, D, cA, ad, A⟩, p, e, R, s, m, args, below, meth, c, cells, slots, QW⟩ := z
  obtain ⟨hx, hb, hml, hown, hts, hr, hlk, hK, hA, hmost, hfr, hlo, hce, hsl⟩ := hz
  intro okm okl oks H locs ls hP hD hS hl
  have k2 := k okm okl (oks.tail.cons h) H locs ls hP hD hS hl
  refine lv_ineg hx hb hd ?_
  rw [← Int32.ofInt_neg]
  exact k2
theorem i32_div {a b : Int} (ha : inR a) (hb : inR b) (h1 : ¬ b = 0) (h2 : ¬ b = -1) : Int32.ofInt a / Int32.ofInt b = Int32.ofInt (a.tdiv b) := by
  rw [Int32.ofInt_tdiv (by exact ha.1) (by exact ha.2) (by exact hb.1) (by exact hb.2)]
theorem inR_div {a b : Int} (ha : inR a) (hb : inR b) (h2 : ¬ b = -1) : inR (a.tdiv b) := by
  have h := Int32.toInt_div_of_ne_right (Int32.ofInt a) (Int32.ofInt b) (fun h => h2 ((i32_eq hb (show inR (-1) by decide)).mp (h.trans (by decide))))
  rw [i32_i ha, i32_i hb] at h
  rw [← h]
  exact i32_of _
theorem i32_rem {a b : Int} (ha : inR a) (hb : inR b) (h1 : ¬ b = 0) (h2 : ¬ b = -1) : Int32.ofInt a - Int32.ofInt a / Int32.ofInt b * Int32.ofInt b = Int32.ofInt (a.tmod b) := by
  rw [i32_div ha hb h1 h2, ← Int32.ofInt_mul, ← Int32.ofInt_sub, Int.tmod_def, Int.mul_comm b]
theorem inR_rem {a b : Int} (ha : inR a) : inR (a.tmod b) := by
  have h1 : (a.tmod b).natAbs ≤ a.natAbs := by rw [Int.natAbs_tmod]; exact Nat.mod_le _ _
  have := ha.1; have := ha.2
  by_cases h0 : 0 ≤ a
  · have := Int.tmod_nonneg b h0
    constructor <;> omega
  · have h3 : a.tmod b ≤ 0 := by
      have h4 := Int.tmod_nonneg b (show 0 ≤ -a by omega)
      rw [Int.neg_tmod] at h4
      omega
    constructor <;> omega
def b2 (f : Int32 → Int32 → Int32) (a b : Int) : Int := (f (Int32.ofInt a) (Int32.ofInt b)).toInt
theorem b2_i (f : Int32 → Int32 → Int32) (a b : Int) : Int32.ofInt (b2 f a b) = f (Int32.ofInt a) (Int32.ofInt b) := Int32.ofInt_toInt _
def ishlI (a b : Int) : Int := b2 (fun x y => x <<< (y &&& 31)) a b
def ishrI (a b : Int) : Int := b2 (fun x y => x >>> (y &&& 31)) a b
def iushrI (a b : Int) : Int := b2 (fun x y => (x.toUInt32 >>> (y.toUInt32 &&& Int32.toUInt32 31)).toInt32) a b
def iandI (a b : Int) : Int := b2 (fun x y => x &&& y) a b
def iorI (a b : Int) : Int := b2 (fun x y => x ||| y) a b
theorem a_idiv (hz : Cx q z) {a b : Int} (h : ¬ b = 0 ∧ ¬ b = -1) (hd : decode (qB q) pc = .ok (.idiv, 1)) (k : Aw z (pc + 1) lv (.inl (a.tdiv b) :: st) M) : Aw z pc lv (.inl b :: .inl a :: st) M := by
  obtain ⟨⟨l, D, cA, ad, A⟩, p, e, R, s, m, args, below, meth, c, cells, slots, QW⟩ := z
  obtain ⟨hx, hb, hml, hown, hts, hr, hlk, hK, hA, hmost, hfr, hlo, hce, hsl⟩ := hz
  intro okm okl oks H locs ls hP hD hS hl
  have hb1 : inR b := oks.head
  have ha1 : inR a := oks.tail.head
  have k2 := k okm okl (oks.tail.tail.cons (inR_div ha1 hb1 h.2)) H locs ls hP hD hS hl
  refine lv_idiv hx hb hd (fun h9 => h.1 ((i32_eq hb1 (by decide)).mp h9)) ?_
  rw [i32_div ha1 hb1 h.1 h.2]
  exact k2
theorem a_irem (hz : Cx q z) {a b : Int} (h : ¬ b = 0 ∧ ¬ b = -1) (hd : decode (qB q) pc = .ok (.irem, 1)) (k : Aw z (pc + 1) lv (.inl (a.tmod b) :: st) M) : Aw z pc lv (.inl b :: .inl a :: st) M := by
  obtain ⟨⟨l, D, cA, ad, A⟩, p, e, R, s, m, args, below, meth, c, cells, slots, QW⟩ := z
  obtain ⟨hx, hb, hml, hown, hts, hr, hlk, hK, hA, hmost, hfr, hlo, hce, hsl⟩ := hz
  intro okm okl oks H locs ls hP hD hS hl
  have hb1 : inR b := oks.head
  have ha1 : inR a := oks.tail.head
  have k2 := k okm okl (oks.tail.tail.cons (inR_rem ha1)) H locs ls hP hD hS hl
  refine lv_irem hx hb hd (fun h9 => h.1 ((i32_eq hb1 (by decide)).mp h9)) ?_
  rw [i32_rem ha1 hb1 h.1 h.2]
  exact k2
theorem a_ishl (hz : Cx q z) {a b : Int} (hd : decode (qB q) pc = .ok (.ishl, 1)) (k : Aw z (pc + 1) lv (.inl (ishlI a b) :: st) M) : Aw z pc lv (.inl b :: .inl a :: st) M := by
  obtain ⟨⟨l, D, cA, ad, A⟩, p, e, R, s, m, args, below, meth, c, cells, slots, QW⟩ := z
  obtain ⟨hx, hb, hml, hown, hts, hr, hlk, hK, hA, hmost, hfr, hlo, hce, hsl⟩ := hz
  intro okm okl oks H locs ls hP hD hS hl
  have k2 := k okm okl (oks.tail.tail.cons (i32_of _)) H locs ls hP hD hS hl
  refine lv_ishl hx hb hd ?_
  have k3 := b2_i (fun x y => x <<< (y &&& 31)) a b
  simp only [List.map_cons, cvV, ishlI] at k2
  rw [k3] at k2
  exact k2
theorem a_ishr (hz : Cx q z) {a b : Int} (hd : decode (qB q) pc = .ok (.ishr, 1)) (k : Aw z (pc + 1) lv (.inl (ishrI a b) :: st) M) : Aw z pc lv (.inl b :: .inl a :: st) M := by
  obtain ⟨⟨l, D, cA, ad, A⟩, p, e, R, s, m, args, below, meth, c, cells, slots, QW⟩ := z
  obtain ⟨hx, hb, hml, hown, hts, hr, hlk, hK, hA, hmost, hfr, hlo, hce, hsl⟩ := hz
  intro okm okl oks H locs ls hP hD hS hl
  have k2 := k okm okl (oks.tail.tail.cons (i32_of _)) H locs ls hP hD hS hl
  refine lv_ishr hx hb hd ?_
  have k3 := b2_i (fun x y => x >>> (y &&& 31)) a b
  simp only [List.map_cons, cvV, ishrI] at k2
  rw [k3] at k2
  exact k2
theorem a_iand (hz : Cx q z) {a b : Int} (hd : decode (qB q) pc = .ok (.iand, 1)) (k : Aw z (pc + 1) lv (.inl (iandI a b) :: st) M) : Aw z pc lv (.inl b :: .inl a :: st) M := by
  obtain ⟨⟨l, D, cA, ad, A⟩, p, e, R, s, m, args, below, meth, c, cells, slots, QW⟩ := z
  obtain ⟨hx, hb, hml, hown, hts, hr, hlk, hK, hA, hmost, hfr, hlo, hce, hsl⟩ := hz
  intro okm okl oks H locs ls hP hD hS hl
  have k2 := k okm okl (oks.tail.tail.cons (i32_of _)) H locs ls hP hD hS hl
  refine lv_iand hx hb hd ?_
  have k3 := b2_i (fun x y => x &&& y) a b
  simp only [List.map_cons, cvV, iandI] at k2
  rw [k3] at k2
  exact k2
theorem a_ior (hz : Cx q z) {a b : Int} (hd : decode (qB q) pc = .ok (.ior, 1)) (k : Aw z (pc + 1) lv (.inl (iorI a b) :: st) M) : Aw z pc lv (.inl b :: .inl a :: st) M := by
  obtain ⟨⟨l, D, cA, ad, A⟩, p, e, R, s, m, args, below, meth, c, cells, slots, QW⟩ := z
  obtain ⟨hx, hb, hml, hown, hts, hr, hlk, hK, hA, hmost, hfr, hlo, hce, hsl⟩ := hz
  intro okm okl oks H locs ls hP hD hS hl
  have k2 := k okm okl (oks.tail.tail.cons (i32_of _)) H locs ls hP hD hS hl
  refine lv_ior hx hb hd ?_
  have k3 := b2_i (fun x y => x ||| y) a b
  simp only [List.map_cons, cvV, iorI] at k2
  rw [k3] at k2
  exact k2
theorem a_iushr (hz : Cx q z) {a b : Int} (hd : decode (qB q) pc = .ok (.iushr, 1)) (k : Aw z (pc + 1) lv (.inl (iushrI a b) :: st) M) : Aw z pc lv (.inl b :: .inl a :: st) M := by
  obtain ⟨⟨l, D, cA, ad, A⟩, p, e, R, s, m, args, below, meth, c, cells, slots, QW⟩ := z
  obtain ⟨hx, hb, hml, hown, hts, hr, hlk, hK, hA, hmost, hfr, hlo, hce, hsl⟩ := hz
  intro okm okl oks H locs ls hP hD hS hl
  have k2 := k okm okl (oks.tail.tail.cons (i32_of _)) H locs ls hP hD hS hl
  exact lv_iushr hx hb hd (b2_i (fun x y => (x.toUInt32 >>> (y.toUInt32 &&& Int32.toUInt32 31)).toInt32) a b).symm k2
theorem a_iinc (hz : Cx q z) {i : Nat} {n v : Int} (hi : i < qN q) (hv : lv[i]? = some (some (.inl v))) (h : inR (v + n)) (hd : decode (qB q) pc = .ok (.iinc i n, 3)) (k : Aw z (pc + 3) (lv.set i (some (.inl (v + n)))) st M) : Aw z pc lv st M := by
  obtain ⟨⟨l, D, cA, ad, A⟩, p, e, R, s, m, args, below, meth, c, cells, slots, QW⟩ := z
  obtain ⟨hx, hb, hml, hown, hts, hr, hlk, hK, hA, hmost, hfr, hlo, hce, hsl⟩ := hz
  intro okm okl oks H locs ls hP hD hS hl
  obtain ⟨kk, hkk⟩ := List.getElem?_of_mem (mem_lvl.mpr ⟨.inl v, hv, rfl⟩ : ((i, cvV ad (.inl v)) : Nat × Value) ∈ lvl ad lv)
  refine lv_iinc hx hb hd hl hkk (Int32.ofInt_add v n).symm (by rw [hml]; exact hi) rfl (fun ls2 hl2 => k okm (okl.set h) oks H locs ls2 hP hD hS (lvO_set (v := .inl (v + n)) hl2))
theorem a_goto (hz : Cx q z) {off : Int} {t : Nat} (ht : (pc : Int) + off = (t : Int)) (hd : decode (qB q) pc = .ok (.goto off, 3)) (k : Aw z t lv st M) : Aw z pc lv st M := by
  obtain ⟨⟨l, D, cA, ad, A⟩, p, e, R, s, m, args, below, meth, c, cells, slots, QW⟩ := z
  obtain ⟨hx, hb, hml, hown, hts, hr, hlk, hK, hA, hmost, hfr, hlo, hce, hsl⟩ := hz
  intro okm okl oks H locs ls hP hD hS hl
  exact lv_goto hx hb hd ht (k okm okl oks H locs ls hP hD hS hl)
theorem a_icmp_eq_t (hz : Cx q z) {a b off : Int} {t : Nat} (ht : (pc : Int) + off = (t : Int)) (h : cmpP .eq a b) (hd : decode (qB q) pc = .ok (.if_icmp .eq off, 3)) (k : Aw z t lv st M) : Aw z pc lv (.inl b :: .inl a :: st) M := by
  obtain ⟨⟨l, D, cA, ad, A⟩, p, e, R, s, m, args, below, meth, c, cells, slots, QW⟩ := z
  obtain ⟨hx, hb, hml, hown, hts, hr, hlk, hK, hA, hmost, hfr, hlo, hce, hsl⟩ := hz
  intro okm okl oks H locs ls hP hD hS hl
  have hb1 : inR b := oks.head
  have ha1 : inR a := oks.tail.head
  have k2 := k okm okl oks.tail.tail H locs ls hP hD hS hl
  exact lv_icmp_eq hx hb hd ht (fun _ => k2) (fun h9 => absurd ((i32_eq ha1 hb1).mpr h) h9)
theorem a_if_eq_t (hz : Cx q z) {a off : Int} {t : Nat} (ht : (pc : Int) + off = (t : Int)) (h : cmpP .eq a 0) (hd : decode (qB q) pc = .ok (.ifCond .eq off, 3)) (k : Aw z t lv st M) : Aw z pc lv (.inl a :: st) M := by
  obtain ⟨⟨l, D, cA, ad, A⟩, p, e, R, s, m, args, below, meth, c, cells, slots, QW⟩ := z
  obtain ⟨hx, hb, hml, hown, hts, hr, hlk, hK, hA, hmost, hfr, hlo, hce, hsl⟩ := hz
  intro okm okl oks H locs ls hP hD hS hl
  have hb1 : inR 0 := by decide
  have ha1 : inR a := oks.head
  have k2 := k okm okl oks.tail H locs ls hP hD hS hl
  exact lv_if_eq hx hb hd ht (fun _ => k2) (fun h9 => absurd ((i32_eq ha1 hb1).mpr h) h9)
theorem a_icmp_eq_f (hz : Cx q z) {a b off : Int} {t : Nat} (ht : (pc : Int) + off = (t : Int)) (h : ¬ cmpP .eq a b) (hd : decode (qB q) pc = .ok (.if_icmp .eq off, 3)) (k : Aw z (pc + 3) lv st M) : Aw z pc lv (.inl b :: .inl a :: st) M := by
  obtain ⟨⟨l, D, cA, ad, A⟩, p, e, R, s, m, args, below, meth, c, cells, slots, QW⟩ := z
  obtain ⟨hx, hb, hml, hown, hts, hr, hlk, hK, hA, hmost, hfr, hlo, hce, hsl⟩ := hz
  intro okm okl oks H locs ls hP hD hS hl
  have hb1 : inR b := oks.head
  have ha1 : inR a := oks.tail.head
  have k2 := k okm okl oks.tail.tail H locs ls hP hD hS hl
  exact lv_icmp_eq hx hb hd ht (fun h9 => absurd ((i32_eq ha1 hb1).mp h9) h) (fun _ => k2)
theorem a_if_eq_f (hz : Cx q z) {a off : Int} {t : Nat} (ht : (pc : Int) + off = (t : Int)) (h : ¬ cmpP .eq a 0) (hd : decode (qB q) pc = .ok (.ifCond .eq off, 3)) (k : Aw z (pc + 3) lv st M) : Aw z pc lv (.inl a :: st) M := by
  obtain ⟨⟨l, D, cA, ad, A⟩, p, e, R, s, m, args, below, meth, c, cells, slots, QW⟩ := z
  obtain ⟨hx, hb, hml, hown, hts, hr, hlk, hK, hA, hmost, hfr, hlo, hce, hsl⟩ := hz
  intro okm okl oks H locs ls hP hD hS hl
  have hb1 : inR 0 := by decide
  have ha1 : inR a := oks.head
  have k2 := k okm okl oks.tail H locs ls hP hD hS hl
  exact lv_if_eq hx hb hd ht (fun h9 => absurd ((i32_eq ha1 hb1).mp h9) h) (fun _ => k2)
theorem a_icmp_ne_t (hz : Cx q z) {a b off : Int} {t : Nat} (ht : (pc : Int) + off = (t : Int)) (h : cmpP .ne a b) (hd : decode (qB q) pc = .ok (.if_icmp .ne off, 3)) (k : Aw z t lv st M) : Aw z pc lv (.inl b :: .inl a :: st) M := by
  obtain ⟨⟨l, D, cA, ad, A⟩, p, e, R, s, m, args, below, meth, c, cells, slots, QW⟩ := z
  obtain ⟨hx, hb, hml, hown, hts, hr, hlk, hK, hA, hmost, hfr, hlo, hce, hsl⟩ := hz
  intro okm okl oks H locs ls hP hD hS hl
  have hb1 : inR b := oks.head
  have ha1 : inR a := oks.tail.head
  have k2 := k okm okl oks.tail.tail H locs ls hP hD hS hl
  exact lv_icmp_ne hx hb hd ht (fun _ => k2) (fun h9 => absurd ((i32_eq ha1 hb1).mp h9) h)
theorem a_if_ne_t (hz : Cx q z) {a off : Int} {t : Nat} (ht : (pc : Int) + off = (t : Int)) (h : cmpP .ne a 0) (hd : decode (qB q) pc = .ok (.ifCond .ne off, 3)) (k : Aw z t lv st M) : Aw z pc lv (.inl a :: st) M := by
  obtain ⟨⟨l, D, cA, ad, A⟩, p, e, R, s, m, args, below, meth, c, cells, slots, QW⟩ := z
  obtain ⟨hx, hb, hml, hown, hts, hr, hlk, hK, hA, hmost, hfr, hlo, hce, hsl⟩ := hz
  intro okm okl oks H locs ls hP hD hS hl
  have hb1 : inR 0 := by decide
  have ha1 : inR a := oks.head
  have k2 := k okm okl oks.tail H locs ls hP hD hS hl
  exact lv_if_ne hx hb hd ht (fun _ => k2) (fun h9 => absurd ((i32_eq ha1 hb1).mp h9) h)
theorem a_icmp_ne_f (hz : Cx q z) {a b off : Int} {t : Nat} (ht : (pc : Int) + off = (t : Int)) (h : ¬ cmpP .ne a b) (hd : decode (qB q) pc = .ok (.if_icmp .ne off, 3)) (k : Aw z (pc + 3) lv st M) : Aw z pc lv (.inl b :: .inl a :: st) M := by
  obtain ⟨⟨l, D, cA, ad, A⟩, p, e, R, s, m, args, below, meth, c, cells, slots, QW⟩ := z
  obtain ⟨hx, hb, hml, hown, hts, hr, hlk, hK, hA, hmost, hfr, hlo, hce, hsl⟩ := hz
  intro okm okl oks H locs ls hP hD hS hl
  have hb1 : inR b := oks.head
  have ha1 : inR a := oks.tail.head
  have k2 := k okm okl oks.tail.tail H locs ls hP hD hS hl
  exact lv_icmp_ne hx hb hd ht (fun h9 => absurd (fun h8 => h9 ((i32_eq ha1 hb1).mpr h8)) h) (fun _ => k2)
theorem a_if_ne_f (hz : Cx q z) {a off : Int} {t : Nat} (ht : (pc : Int) + off = (t : Int)) (h : ¬ cmpP .ne a 0) (hd : decode (qB q) pc = .ok (.ifCond .ne off, 3)) (k : Aw z (pc + 3) lv st M) : Aw z pc lv (.inl a :: st) M := by
  obtain ⟨⟨l, D, cA, ad, A⟩, p, e, R, s, m, args, below, meth, c, cells, slots, QW⟩ := z
  obtain ⟨hx, hb, hml, hown, hts, hr, hlk, hK, hA, hmost, hfr, hlo, hce, hsl⟩ := hz
  intro okm okl oks H locs ls hP hD hS hl
  have hb1 : inR 0 := by decide
  have ha1 : inR a := oks.head
  have k2 := k okm okl oks.tail H locs ls hP hD hS hl
  exact lv_if_ne hx hb hd ht (fun h9 => absurd (fun h8 => h9 ((i32_eq ha1 hb1).mpr h8)) h) (fun _ => k2)
theorem a_icmp_lt_t (hz : Cx q z) {a b off : Int} {t : Nat} (ht : (pc : Int) + off = (t : Int)) (h : cmpP .lt a b) (hd : decode (qB q) pc = .ok (.if_icmp .lt off, 3)) (k : Aw z t lv st M) : Aw z pc lv (.inl b :: .inl a :: st) M := by
  obtain ⟨⟨l, D, cA, ad, A⟩, p, e, R, s, m, args, below, meth, c, cells, slots, QW⟩ := z
  obtain ⟨hx, hb, hml, hown, hts, hr, hlk, hK, hA, hmost, hfr, hlo, hce, hsl⟩ := hz
  intro okm okl oks H locs ls hP hD hS hl
  have hb1 : inR b := oks.head
  have ha1 : inR a := oks.tail.head
  have k2 := k okm okl oks.tail.tail H locs ls hP hD hS hl
  exact lv_icmp_lt hx hb hd ht (fun _ => k2) (fun h9 => absurd ((i32_lt ha1 hb1).mpr h) h9)
theorem a_if_lt_t (hz : Cx q z) {a off : Int} {t : Nat} (ht : (pc : Int) + off = (t : Int)) (h : cmpP .lt a 0) (hd : decode (qB q) pc = .ok (.ifCond .lt off, 3)) (k : Aw z t lv st M) : Aw z pc lv (.inl a :: st) M := by
  obtain ⟨⟨l, D, cA, ad, A⟩, p, e, R, s, m, args, below, meth, c, cells, slots, QW⟩ := z
  obtain ⟨hx, hb, hml, hown, hts, hr, hlk, hK, hA, hmost, hfr, hlo, hce, hsl⟩ := hz
  intro okm okl oks H locs ls hP hD hS hl
  have hb1 : inR 0 := by decide
  have ha1 : inR a := oks.head
  have k2 := k okm okl oks.tail H locs ls hP hD hS hl
  exact lv_if_lt hx hb hd ht (fun _ => k2) (fun h9 => absurd ((i32_lt ha1 hb1).mpr h) h9)
theorem a_icmp_lt_f (hz : Cx q z) {a b off : Int} {t : Nat} (ht : (pc : Int) + off = (t : Int)) (h : ¬ cmpP .lt a b) (hd : decode (qB q) pc = .ok (.if_icmp .lt off, 3)) (k : Aw z (pc + 3) lv st M) : Aw z pc lv (.inl b :: .inl a :: st) M := by
  obtain ⟨⟨l, D, cA, ad, A⟩, p, e, R, s, m, args, below, meth, c, cells, slots, QW⟩ := z
  obtain ⟨hx, hb, hml, hown, hts, hr, hlk, hK, hA, hmost, hfr, hlo, hce, hsl⟩ := hz
  intro okm okl oks H locs ls hP hD hS hl
  have hb1 : inR b := oks.head
  have ha1 : inR a := oks.tail.head
  have k2 := k okm okl oks.tail.tail H locs ls hP hD hS hl
  exact lv_icmp_lt hx hb hd ht (fun h9 => absurd ((i32_lt ha1 hb1).mp h9) h) (fun _ => k2)
theorem a_if_lt_f (hz : Cx q z) {a off : Int} {t : Nat} (ht : (pc : Int) + off = (t : Int)) (h : ¬ cmpP .lt a 0) (hd : decode (qB q) pc = .ok (.ifCond .lt off, 3)) (k : Aw z (pc + 3) lv st M) : Aw z pc lv (.inl a :: st) M := by
  obtain ⟨⟨l, D, cA, ad, A⟩, p, e, R, s, m, args, below, meth, c, cells, slots, QW⟩ := z
  obtain ⟨hx, hb, hml, hown, hts, hr, hlk, hK, hA, hmost, hfr, hlo, hce, hsl⟩ := hz
  intro okm okl oks H locs ls hP hD hS hl
  have hb1 : inR 0 := by decide
  have ha1 : inR a := oks.head
  have k2 := k okm okl oks.tail H locs ls hP hD hS hl
  exact lv_if_lt hx hb hd ht (fun h9 => absurd ((i32_lt ha1 hb1).mp h9) h) (fun _ => k2)
theorem a_icmp_ge_t (hz : Cx q z) {a b off : Int} {t : Nat} (ht : (pc : Int) + off = (t : Int)) (h : cmpP .ge a b) (hd : decode (qB q) pc = .ok (.if_icmp .ge off, 3)) (k : Aw z t lv st M) : Aw z pc lv (.inl b :: .inl a :: st) M := by
  obtain ⟨⟨l, D, cA, ad, A⟩, p, e, R, s, m, args, below, meth, c, cells, slots, QW⟩ := z
  obtain ⟨hx, hb, hml, hown, hts, hr, hlk, hK, hA, hmost, hfr, hlo, hce, hsl⟩ := hz
  intro okm okl oks H locs ls hP hD hS hl
  have hb1 : inR b := oks.head
  have ha1 : inR a := oks.tail.head
  have k2 := k okm okl oks.tail.tail H locs ls hP hD hS hl
  exact lv_icmp_ge hx hb hd ht (fun _ => k2) (fun h9 => absurd ((i32_le hb1 ha1).mpr h) h9)
theorem a_if_ge_t (hz : Cx q z) {a off : Int} {t : Nat} (ht : (pc : Int) + off = (t : Int)) (h : cmpP .ge a 0) (hd : decode (qB q) pc = .ok (.ifCond .ge off, 3)) (k : Aw z t lv st M) : Aw z pc lv (.inl a :: st) M := by
  obtain ⟨⟨l, D, cA, ad, A⟩, p, e, R, s, m, args, below, meth, c, cells, slots, QW⟩ := z
  obtain ⟨hx, hb, hml, hown, hts, hr, hlk, hK, hA, hmost, hfr, hlo, hce, hsl⟩ := hz
  intro okm okl oks H locs ls hP hD hS hl
  have hb1 : inR 0 := by decide
  have ha1 : inR a := oks.head
  have k2 := k okm okl oks.tail H locs ls hP hD hS hl
  exact lv_if_ge hx hb hd ht (fun _ => k2) (fun h9 => absurd ((i32_le hb1 ha1).mpr h) h9)
theorem a_icmp_ge_f (hz : Cx q z) {a b off : Int} {t : Nat} (ht : (pc : Int) + off = (t : Int)) (h : ¬ cmpP .ge a b) (hd : decode (qB q) pc = .ok (.if_icmp .ge off, 3)) (k : Aw z (pc + 3) lv st M) : Aw z pc lv (.inl b :: .inl a :: st) M := by
  obtain ⟨⟨l, D, cA, ad, A⟩, p, e, R, s, m, args, below, meth, c, cells, slots, QW⟩ := z
  obtain ⟨hx, hb, hml, hown, hts, hr, hlk, hK, hA, hmost, hfr, hlo, hce, hsl⟩ := hz
  intro okm okl oks H locs ls hP hD hS hl
  have hb1 : inR b := oks.head
  have ha1 : inR a := oks.tail.head
  have k2 := k okm okl oks.tail.tail H locs ls hP hD hS hl
  exact lv_icmp_ge hx hb hd ht (fun h9 => absurd ((i32_le hb1 ha1).mp h9) h) (fun _ => k2)
theorem a_if_ge_f (hz : Cx q z) {a off : Int} {t : Nat} (ht : (pc : Int) + off = (t : Int)) (h : ¬ cmpP .ge a 0) (hd : decode (qB q) pc = .ok (.ifCond .ge off, 3)) (k : Aw z (pc + 3) lv st M) : Aw z pc lv (.inl a :: st) M := by
  obtain ⟨⟨l, D, cA, ad, A⟩, p, e, R, s, m, args, below, meth, c, cells, slots, QW⟩ := z
  obtain ⟨hx, hb, hml, hown, hts, hr, hlk, hK, hA, hmost, hfr, hlo, hce, hsl⟩ := hz
  intro okm okl oks H locs ls hP hD hS hl
  have hb1 : inR 0 := by decide
  have ha1 : inR a := oks.head
  have k2 := k okm okl oks.tail H locs ls hP hD hS hl
  exact lv_if_ge hx hb hd ht (fun h9 => absurd ((i32_le hb1 ha1).mp h9) h) (fun _ => k2)
theorem a_icmp_gt_t (hz : Cx q z) {a b off : Int} {t : Nat} (ht : (pc : Int) + off = (t : Int)) (h : cmpP .gt a b) (hd : decode (qB q) pc = .ok (.if_icmp .gt off, 3)) (k : Aw z t lv st M) : Aw z pc lv (.inl b :: .inl a :: st) M := by
  obtain ⟨⟨l, D, cA, ad, A⟩, p, e, R, s, m, args, below, meth, c, cells, slots, QW⟩ := z
  obtain ⟨hx, hb, hml, hown, hts, hr, hlk, hK, hA, hmost, hfr, hlo, hce, hsl⟩ := hz
  intro okm okl oks H locs ls hP hD hS hl
  have hb1 : inR b := oks.head
  have ha1 : inR a := oks.tail.head
  have k2 := k okm okl oks.tail.tail H locs ls hP hD hS hl
  exact lv_icmp_gt hx hb hd ht (fun _ => k2) (fun h9 => absurd ((i32_lt hb1 ha1).mpr h) h9)
theorem a_if_gt_t (hz : Cx q z) {a off : Int} {t : Nat} (ht : (pc : Int) + off = (t : Int)) (h : cmpP .gt a 0) (hd : decode (qB q) pc = .ok (.ifCond .gt off, 3)) (k : Aw z t lv st M) : Aw z pc lv (.inl a :: st) M := by
  obtain ⟨⟨l, D, cA, ad, A⟩, p, e, R, s, m, args, below, meth, c, cells, slots, QW⟩ := z
  obtain ⟨hx, hb, hml, hown, hts, hr, hlk, hK, hA, hmost, hfr, hlo, hce, hsl⟩ := hz
  intro okm okl oks H locs ls hP hD hS hl
  have hb1 : inR 0 := by decide
  have ha1 : inR a := oks.head
  have k2 := k okm okl oks.tail H locs ls hP hD hS hl
  exact lv_if_gt hx hb hd ht (fun _ => k2) (fun h9 => absurd ((i32_lt hb1 ha1).mpr h) h9)
theorem a_icmp_gt_f (hz : Cx q z) {a b off : Int} {t : Nat} (ht : (pc : Int) + off = (t : Int)) (h : ¬ cmpP .gt a b) (hd : decode (qB q) pc = .ok (.if_icmp .gt off, 3)) (k : Aw z (pc + 3) lv st M) : Aw z pc lv (.inl b :: .inl a :: st) M := by
  obtain ⟨⟨l, D, cA, ad, A⟩, p, e, R, s, m, args, below, meth, c, cells, slots, QW⟩ := z
  obtain ⟨hx, hb, hml, hown, hts, hr, hlk, hK, hA, hmost, hfr, hlo, hce, hsl⟩ := hz
  intro okm okl oks H locs ls hP hD hS hl
  have hb1 : inR b := oks.head
  have ha1 : inR a := oks.tail.head
  have k2 := k okm okl oks.tail.tail H locs ls hP hD hS hl
  exact lv_icmp_gt hx hb hd ht (fun h9 => absurd ((i32_lt hb1 ha1).mp h9) h) (fun _ => k2)
theorem a_if_gt_f (hz : Cx q z) {a off : Int} {t : Nat} (ht : (pc : Int) + off = (t : Int)) (h : ¬ cmpP .gt a 0) (hd : decode (qB q) pc = .ok (.ifCond .gt off, 3)) (k : Aw z (pc + 3) lv st M) : Aw z pc lv (.inl a :: st) M := by
  obtain ⟨⟨l, D, cA, ad, A⟩, p, e, R, s, m, args, below, meth, c, cells, slots, QW⟩ := z
  obtain ⟨hx, hb, hml, hown, hts, hr, hlk, hK, hA, hmost, hfr, hlo, hce, hsl⟩ := hz
  intro okm okl oks H locs ls hP hD hS hl
  have hb1 : inR 0 := by decide
  have ha1 : inR a := oks.head
  have k2 := k okm okl oks.tail H locs ls hP hD hS hl
  exact lv_if_gt hx hb hd ht (fun h9 => absurd ((i32_lt hb1 ha1).mp h9) h) (fun _ => k2)
theorem a_icmp_le_t (hz : Cx q z) {a b off : Int} {t : Nat} (ht : (pc : Int) + off = (t : Int)) (h : cmpP .le a b) (hd : decode (qB q) pc = .ok (.if_icmp .le off, 3)) (k : Aw z t lv st M) : Aw z pc lv (.inl b :: .inl a :: st) M := by
  obtain ⟨⟨l, D, cA, ad, A⟩, p, e, R, s, m, args, below, meth, c, cells, slots, QW⟩ := z
  obtain ⟨hx, hb, hml, hown, hts, hr, hlk, hK, hA, hmost, hfr, hlo, hce, hsl⟩ := hz
  intro okm okl oks H locs ls hP hD hS hl
  have hb1 : inR b := oks.head
  have ha1 : inR a := oks.tail.head
  have k2 := k okm okl oks.tail.tail H locs ls hP hD hS hl
  exact lv_icmp_le hx hb hd ht (fun _ => k2) (fun h9 => absurd ((i32_le ha1 hb1).mpr h) h9)
theorem a_if_le_t (hz : Cx q z) {a off : Int} {t : Nat} (ht : (pc : Int) + off = (t : Int)) (h : cmpP .le a 0) (hd : decode (qB q) pc = .ok (.ifCond .le off, 3)) (k : Aw z t lv st M) : Aw z pc lv (.inl a :: st) M := by
  obtain ⟨⟨l, D, cA, ad, A⟩, p, e, R, s, m, args, below, meth, c, cells, slots, QW⟩ := z
  obtain ⟨hx, hb, hml, hown, hts, hr, hlk, hK, hA, hmost, hfr, hlo, hce, hsl⟩ := hz
  intro okm okl oks H locs ls hP hD hS hl
  have hb1 : inR 0 := by decide
  have ha1 : inR a := oks.head
  have k2 := k okm okl oks.tail H locs ls hP hD hS hl
  exact lv_if_le hx hb hd ht (fun _ => k2) (fun h9 => absurd ((i32_le ha1 hb1).mpr h) h9)
theorem a_icmp_le_f (hz : Cx q z) {a b off : Int} {t : Nat} (ht : (pc : Int) + off = (t : Int)) (h : ¬ cmpP .le a b) (hd : decode (qB q) pc = .ok (.if_icmp .le off, 3)) (k : Aw z (pc + 3) lv st M) : Aw z pc lv (.inl b :: .inl a :: st) M := by
  obtain ⟨⟨l, D, cA, ad, A⟩, p, e, R, s, m, args, below, meth, c, cells, slots, QW⟩ := z
  obtain ⟨hx, hb, hml, hown, hts, hr, hlk, hK, hA, hmost, hfr, hlo, hce, hsl⟩ := hz
  intro okm okl oks H locs ls hP hD hS hl
  have hb1 : inR b := oks.head
  have ha1 : inR a := oks.tail.head
  have k2 := k okm okl oks.tail.tail H locs ls hP hD hS hl
  exact lv_icmp_le hx hb hd ht (fun h9 => absurd ((i32_le ha1 hb1).mp h9) h) (fun _ => k2)
theorem a_if_le_f (hz : Cx q z) {a off : Int} {t : Nat} (ht : (pc : Int) + off = (t : Int)) (h : ¬ cmpP .le a 0) (hd : decode (qB q) pc = .ok (.ifCond .le off, 3)) (k : Aw z (pc + 3) lv st M) : Aw z pc lv (.inl a :: st) M := by
  obtain ⟨⟨l, D, cA, ad, A⟩, p, e, R, s, m, args, below, meth, c, cells, slots, QW⟩ := z
  obtain ⟨hx, hb, hml, hown, hts, hr, hlk, hK, hA, hmost, hfr, hlo, hce, hsl⟩ := hz
  intro okm okl oks H locs ls hP hD hS hl
  have hb1 : inR 0 := by decide
  have ha1 : inR a := oks.head
  have k2 := k okm okl oks.tail H locs ls hP hD hS hl
  exact lv_if_le hx hb hd ht (fun h9 => absurd ((i32_le ha1 hb1).mp h9) h) (fun _ => k2)
theorem a_dup (hz : Cx q z) {v : Av} (hd : decode (qB q) pc = .ok (.dup, 1)) (k : Aw z (pc + 1) lv (v :: v :: st) M) : Aw z pc lv (v :: st) M := by
  obtain ⟨⟨l, D, cA, ad, A⟩, p, e, R, s, m, args, below, meth, c, cells, slots, QW⟩ := z
  obtain ⟨hx, hb, hml, hown, hts, hr, hlk, hK, hA, hmost, hfr, hlo, hce, hsl⟩ := hz
  intro okm okl oks H locs ls hP hD hS hl
  exact lv_dup hx hb hd (cvV_cat ad v) (k okm okl (oks.cons oks.head) H locs ls hP hD hS hl)
theorem a_dup2 (hz : Cx q z) {v w : Av} (hd : decode (qB q) pc = .ok (.dup2, 1)) (k : Aw z (pc + 1) lv (v :: w :: v :: w :: st) M) : Aw z pc lv (v :: w :: st) M := by
  obtain ⟨⟨l, D, cA, ad, A⟩, p, e, R, s, m, args, below, meth, c, cells, slots, QW⟩ := z
  obtain ⟨hx, hb, hml, hown, hts, hr, hlk, hK, hA, hmost, hfr, hlo, hce, hsl⟩ := hz
  intro okm okl oks H locs ls hP hD hS hl
  exact lv_dup2_11 hx hb hd (cvV_cat ad v) (cvV_cat ad w) (k okm okl ((oks.cons oks.tail.head).cons oks.head) H locs ls hP hD hS hl)
theorem a_tabIn (hz : Cx q z) {a dflt lo hi off : Int} {offs : Array Int} {n t o : Nat} (h : a = lo + o) (hh : lo + o ≤ hi) (ho : offs[o]? = some off) (ht : (pc : Int) + off = (t : Int)) (hd : decode (qB q) pc = .ok (.tableswitch dflt lo hi offs, n)) (k : Aw z t lv st M) : Aw z pc lv (.inl a :: st) M := by
  obtain ⟨⟨l, D, cA, ad, A⟩, p, e, R, s, m, args, below, meth, c, cells, slots, QW⟩ := z
  obtain ⟨hx, hb, hml, hown, hts, hr, hlk, hK, hA, hmost, hfr, hlo, hce, hsl⟩ := hz
  intro okm okl oks H locs ls hP hD hS hl
  have ha1 : inR a := oks.head
  refine lv_tableIn hx hb hd (by rw [i32_i ha1]; omega) (by rw [i32_i ha1]; omega) (by rw [i32_i ha1, h]; rw [show (lo + (o : Int) - lo).toNat = o by omega]; exact ho) ht (k okm okl oks.tail H locs ls hP hD hS hl)
theorem a_tabOut (hz : Cx q z) {a dflt lo hi : Int} {offs : Array Int} {n t : Nat} (h : a < lo ∨ hi < a) (ht : (pc : Int) + dflt = (t : Int)) (hd : decode (qB q) pc = .ok (.tableswitch dflt lo hi offs, n)) (k : Aw z t lv st M) : Aw z pc lv (.inl a :: st) M := by
  obtain ⟨⟨l, D, cA, ad, A⟩, p, e, R, s, m, args, below, meth, c, cells, slots, QW⟩ := z
  obtain ⟨hx, hb, hml, hown, hts, hr, hlk, hK, hA, hmost, hfr, hlo, hce, hsl⟩ := hz
  intro okm okl oks H locs ls hP hD hS hl
  have ha1 : inR a := oks.head
  exact lv_tableOut hx hb hd (by rw [i32_i ha1]; exact h) ht (k okm okl oks.tail H locs ls hP hD hS hl)
theorem vc_in : ∀ (ci : Nat) (C : String) (T : u_T) (N : Nat), vwCl[ci]? = some (C, T, N) → (∀ w ∈ u_ws C T N, w ∈ gw_tbl) ∧ ∃ ty0 : Nat → FieldType, (∀ k, k < N → parseFieldDescriptor (T k).2.2.1 = some (ty0 k)) ∧ ∀ a, a < N → ∀ b, b < N → a ≠ b → (T a).2.1 ≠ (T b).2.1
  | 0, _, _, _, h => by cases h; exact ⟨inX0, tyX0, tyX0_ok, nmX0⟩
  | 1, _, _, _, h => by cases h; exact ⟨inX1, tyX1, tyX1_ok, nmX1⟩
  | 2, _, _, _, h => by cases h; exact ⟨inX2, tyX2, tyX2_ok, nmX2⟩
  | 3, _, _, _, h => by cases h; exact ⟨inX3, tyX3, tyX3_ok, nmX3⟩
  | 4, _, _, _, h => by cases h; exact ⟨inX4, tyX4, tyX4_ok, nmX4⟩
  | 5, _, _, _, h => by cases h; exact ⟨inX5, tyX5, tyX5_ok, nmX5⟩
  | k + 6, _, _, _, h => by simp [vwCl] at h
theorem a_getI (hz : Cx q z) {i a ci kf : Nat} {fs : List (Option Nat)} (hF : FOk q.1 (i, ci, kf)) (ht : tp[a]? = some (.inl (ci, fs))) (hf : fs[kf]? = some none) (hd : decode (qB q) pc = .ok (.getfield i, 3)) (k : Aw z (pc + 3) lv (.inl (M a kf) :: st) M) : Aw z pc lv (.inr a :: st) M := by
  obtain ⟨⟨l, D, cA, ad, A⟩, p, e, R, s, m, args, below, meth, c, cells, slots, QW⟩ := z
  obtain ⟨hx, hb, hml, hown, hts, hr, hlk, hK, hA, hmost, hfr, hlo, hce, hsl⟩ := hz
  intro okm okl oks H locs ls hP hD hS hl
  obtain ⟨C, T, N, h1, h2, h3⟩ := hF
  refine va_get (D := D) (v := .int (Int32.ofInt (M a kf))) hx hb hts (vc_in ci C T N h1).1 hown hK hP a (wld_get ht) h1 kf h2 (hts _ h3) (fun _ h9 => h9) ?_ hd (k okm okl (oks.tail.cons (okm.1 a kf)) H locs ls hP hD hS hl)
  simp [List.getElem?_mapIdx, hf, flE]
theorem a_getR (hz : Cx q z) {i a ci kf b : Nat} {fs : List (Option Nat)} (hF : FOk q.1 (i, ci, kf)) (ht : tp[a]? = some (.inl (ci, fs))) (hf : fs[kf]? = some (some b)) (hd : decode (qB q) pc = .ok (.getfield i, 3)) (k : Aw z (pc + 3) lv (.inr b :: st) M) : Aw z pc lv (.inr a :: st) M := by
  obtain ⟨⟨l, D, cA, ad, A⟩, p, e, R, s, m, args, below, meth, c, cells, slots, QW⟩ := z
  obtain ⟨hx, hb, hml, hown, hts, hr, hlk, hK, hA, hmost, hfr, hlo, hce, hsl⟩ := hz
  intro okm okl oks H locs ls hP hD hS hl
  obtain ⟨C, T, N, h1, h2, h3⟩ := hF
  refine va_get (D := D) (v := .ref (ad b)) hx hb hts (vc_in ci C T N h1).1 hown hK hP a (wld_get ht) h1 kf h2 (hts _ h3) (fun _ h9 => h9) ?_ hd (k okm okl (oks.tail.cons trivial) H locs ls hP hD hS hl)
  simp [List.getElem?_mapIdx, hf, flE]
theorem ne999 {a : Nat} {sh : Sh} (h : tp[a]? = some sh) : a ≠ 999 := by have := tp_lt h; omega
theorem put_ok : ∀ (ci kf : Nat) (b : Bool), putF ci kf = some b → ∀ (C : String) (T : u_T) (N : Nat), vwCl[ci]? = some (C, T, N) → (T kf).2.2.2 = false ∧ parseFieldDescriptor (T kf).2.2.1 = some (if b then .boolean else .int) := by
  intro ci kf b h C T N hc
  unfold putF at h
  split at h <;> first | (cases h; cases hc; exact ⟨rfl, by decide +kernel⟩) | cases h
theorem narB {b : Bool} {v : Int} (h : b = true → v = 0 ∨ v = 1) : narrow (if b then .boolean else .int) (.int (Int32.ofInt v)) = .int (Int32.ofInt v) ∧ fits (if b then .boolean else .int) (.int (Int32.ofInt v)) = true := by
  cases b with
  | false => exact ⟨rfl, rfl⟩
  | true => rcases h rfl with rfl | rfl <;> exact ⟨rfl, rfl⟩
theorem a_put (hz : Cx q z) {i a ci kf : Nat} {v : Int} {bb : Bool} {fs : List (Option Nat)} (hF : FOk q.1 (i, ci, kf)) (ht : tp[a]? = some (.inl (ci, fs))) (hf : fs[kf]? = some none) (hp : putF ci kf = some bb) (hv : bb = true → v = 0 ∨ v = 1) (hd : decode (qB q) pc = .ok (.putfield i, 3)) (k : Aw z (pc + 3) lv st (up M a kf v)) : Aw z pc lv (.inl v :: .inr a :: st) M := by
  obtain ⟨⟨l, D, cA, ad, A⟩, p, e, R, s, m, args, below, meth, c, cells, slots, QW⟩ := z
  obtain ⟨hx, hb, hml, hown, hts, hr, hlk, hK, hA, hmost, hfr, hlo, hce, hsl⟩ := hz
  intro okm okl oks H locs ls hP hD hS hl
  obtain ⟨C, T, N, h1, h2, h3⟩ := hF
  obtain ⟨e1, ty0, e2, e3⟩ := vc_in ci C T N h1
  obtain ⟨f1, f2⟩ := put_ok ci kf bb hp C T N h1
  refine va_put (D := D) (v := .int (Int32.ofInt v)) hx hb hts e1 ty0 e2 e3 hown hK hP hD hS a (wld_get ht) h1 kf h2 (hts _ h3) (fun _ h9 => h9) f1 f2 (narB hv).1 (narB hv).2 (by have := (List.getElem?_eq_some_iff.mp hf).1; simpa using this) hd (fun H1 locs1 hP1 hD1 hS1 => ?_)
  have e : (wld ad cA M).set a (ad a, .inr (ci, (fs.mapIdx (flE ad (M a))).set kf (.int (Int32.ofInt v)))) = wld ad cA (up M a kf v) := by
    rw [fl_set ad (M a) fs kf v hf]
    exact wld_set (sh := .inl (ci, fs)) ht
  rw [e] at hP1 hD1
  exact k (okM_up okm (ne999 ht) oks.head) okl oks.tail.tail H1 locs1 ls hP1 hD1 hS1 hl
theorem a_iaload (hz : Cx q z) {a n : Nat} {i : Int} (ht : tp[a]? = some (.inr (.inl (0, n)))) (h : 0 ≤ i ∧ i < n) (hd : decode (qB q) pc = .ok (.iaload, 1)) (k : Aw z (pc + 1) lv (.inl (M a i.toNat) :: st) M) : Aw z pc lv (.inl i :: .inr a :: st) M := by
  obtain ⟨⟨l, D, cA, ad, A⟩, p, e, R, s, m, args, below, meth, c, cells, slots, QW⟩ := z
  obtain ⟨hx, hb, hml, hown, hts, hr, hlk, hK, hA, hmost, hfr, hlo, hce, hsl⟩ := hz
  intro okm okl oks H locs ls hP hD hS hl
  have hi : inR i := oks.head
  have k2 := k okm okl (oks.tail.tail.cons (okm.1 a i.toNat)) H locs ls hP hD hS hl
  refine va_iald hx hb hK hP a 0 (wld_get ht) rfl (i32_in hi h) hd ?_
  rw [i32_n hi]
  exact k2
theorem a_baload (hz : Cx q z) {a n : Nat} {i : Int} (ht : tp[a]? = some (.inr (.inl (1, n)))) (h : 0 ≤ i ∧ i < n) (hd : decode (qB q) pc = .ok (.baload, 1)) (k : Aw z (pc + 1) lv (.inl (M a i.toNat) :: st) M) : Aw z pc lv (.inl i :: .inr a :: st) M := by
  obtain ⟨⟨l, D, cA, ad, A⟩, p, e, R, s, m, args, below, meth, c, cells, slots, QW⟩ := z
  obtain ⟨hx, hb, hml, hown, hts, hr, hlk, hK, hA, hmost, hfr, hlo, hce, hsl⟩ := hz
  intro okm okl oks H locs ls hP hD hS hl
  have hi : inR i := oks.head
  have k2 := k okm okl (oks.tail.tail.cons (okm.1 a i.toNat)) H locs ls hP hD hS hl
  refine va_zald hx hb hK hP a 1 (wld_get ht) rfl (i32_in hi h) hd ?_
  rw [i32_n hi]
  exact k2
theorem a_iastore (hz : Cx q z) {a n : Nat} {i v : Int} (ht : tp[a]? = some (.inr (.inl (0, n)))) (h : 0 ≤ i ∧ i < n) (hd : decode (qB q) pc = .ok (.iastore, 1)) (k : Aw z (pc + 1) lv st (up M a i.toNat v)) : Aw z pc lv (.inl v :: .inl i :: .inr a :: st) M := by
  obtain ⟨⟨l, D, cA, ad, A⟩, p, e, R, s, m, args, below, meth, c, cells, slots, QW⟩ := z
  obtain ⟨hx, hb, hml, hown, hts, hr, hlk, hK, hA, hmost, hfr, hlo, hce, hsl⟩ := hz
  intro okm okl oks H locs ls hP hD hS hl
  have hi : inR i := oks.tail.head
  refine va_iast hx hb hK hP hD hS a 0 (wld_get ht) rfl (i32_in hi h) hd (fun H1 locs1 hP1 hD1 hS1 => ?_)
  rw [i32_n hi, uf_i] at hP1 hD1
  have e := @wld_set ad cA M a (.inr (.inl (0, n))) (uf (M a) i.toNat v) ht
  have hP1 : va_P D vwCl (wld ad cA (up M a i.toNat v)) H1 := by unfold up; rw [← e]; exact hP1
  have hD1 : va_D A (wld ad cA (up M a i.toNat v)) := by unfold up; rw [← e]; exact hD1
  exact k (okM_up okm (ne999 ht) oks.head) okl oks.tail.tail.tail H1 locs1 ls hP1 hD1 hS1 hl
theorem a_bastore (hz : Cx q z) {a n : Nat} {i v : Int} (ht : tp[a]? = some (.inr (.inl (1, n)))) (h : 0 ≤ i ∧ i < n) (hv : v = 0 ∨ v = 1) (hd : decode (qB q) pc = .ok (.bastore, 1)) (k : Aw z (pc + 1) lv st (up M a i.toNat v)) : Aw z pc lv (.inl v :: .inl i :: .inr a :: st) M := by
  obtain ⟨⟨l, D, cA, ad, A⟩, p, e, R, s, m, args, below, meth, c, cells, slots, QW⟩ := z
  obtain ⟨hx, hb, hml, hown, hts, hr, hlk, hK, hA, hmost, hfr, hlo, hce, hsl⟩ := hz
  intro okm okl oks H locs ls hP hD hS hl
  have hi : inR i := oks.tail.head
  refine va_zast hx hb hK hP hD hS a 1 (wld_get ht) rfl (i32_in hi h) hd (fun H1 locs1 hP1 hD1 hS1 => ?_)
  rw [i32_n hi, i32_nar hv, uf_i] at hP1 hD1
  have e := @wld_set ad cA M a (.inr (.inl (1, n))) (uf (M a) i.toNat v) ht
  have hP1 : va_P D vwCl (wld ad cA (up M a i.toNat v)) H1 := by unfold up; rw [← e]; exact hP1
  have hD1 : va_D A (wld ad cA (up M a i.toNat v)) := by unfold up; rw [← e]; exact hD1
  exact k (okM_up okm (ne999 ht) oks.head) okl oks.tail.tail.tail H1 locs1 ls hP1 hD1 hS1 hl
theorem a_aaload (hz : Cx q z) {a o b : Nat} {i : Int} {rs : List Nat} (ht : tp[a]? = some (.inr (.inr rs))) (hb2 : rs[o]? = some b) (h : i = (o : Int)) (hd : decode (qB q) pc = .ok (.aaload, 1)) (k : Aw z (pc + 1) lv (.inr b :: st) M) : Aw z pc lv (.inl i :: .inr a :: st) M := by
  obtain ⟨⟨l, D, cA, ad, A⟩, p, e, R, s, m, args, below, meth, c, cells, slots, QW⟩ := z
  obtain ⟨hx, hb, hml, hown, hts, hr, hlk, hK, hA, hmost, hfr, hlo, hce, hsl⟩ := hz
  intro okm okl oks H locs ls hP hD hS hl
  have hi : inR i := oks.head
  have k2 := k okm okl (oks.tail.tail.cons trivial) H locs ls hP hD hS hl
  have ho := (List.getElem?_eq_some_iff.mp hb2).1
  refine va_aldq hx hb hK hP a 2 (wld_get ht) rfl (i32_in hi (by omega)) hd ?_
  have e : va_rf ((fun j => (rs[j]?).map ad) (Int32.ofInt i).toNatClampNeg) = .ref (ad b) := by
    rw [i32_n hi, h]
    show va_rf ((rs[(o : Int).toNat]?).map ad) = _
    rw [Int.toNat_natCast, hb2]
    rfl
  rw [e]
  exact k2
theorem a_mostload (hz : Cx q z) {i : Int} (h : 0 ≤ i ∧ i < 4) (hd : decode (qB q) pc = .ok (.iaload, 1)) (k : Aw z (pc + 1) lv (.inl (M 999 i.toNat) :: st) M) : Aw z pc lv (.inl i :: .inr 999 :: st) M := by
  obtain ⟨⟨l, D, cA, ad, A⟩, p, e, R, s, m, args, below, meth, c, cells, slots, QW⟩ := z
  obtain ⟨hx, hb, hml, hown, hts, hr, hlk, hK, hA, hmost, hfr, hlo, hce, hsl⟩ := hz
  intro okm okl oks H locs ls hP hD hS hl
  have hi : inR i := oks.head
  have k2 := k okm okl (oks.tail.tail.cons (okm.1 999 i.toNat)) H locs ls hP hD hS hl
  refine va_ti hx hb hmost.2 hS (i32_in hi h) ?_ hd k2
  rw [i32_n hi]
  obtain ⟨-, m0, m1, m2, m3⟩ := okm
  have hc : i = 0 ∨ i = 1 ∨ i = 2 ∨ i = 3 := by omega
  rcases hc with rfl | rfl | rfl | rfl
  · show mostV 0 = .int (Int32.ofInt (M 999 0)); rw [m0]; rfl
  · show mostV 1 = .int (Int32.ofInt (M 999 1)); rw [m1]; rfl
  · show mostV 2 = .int (Int32.ofInt (M 999 2)); rw [m2]; rfl
  · show mostV 3 = .int (Int32.ofInt (M 999 3)); rw [m3]; rfl
theorem a_most (hz : Cx q z) {i : Nat} (hF : Jvm.Cond.fieldLink q.1 i "RoadTrace$Rules" "MOST" "[I" ∈ gw_tbl) (hd : decode (qB q) pc = .ok (.getstatic i, 3)) (k : Aw z (pc + 3) lv (.inr 999 :: st) M) : Aw z pc lv st M := by
  obtain ⟨⟨l, D, cA, ad, A⟩, p, e, R, s, m, args, below, meth, c, cells, slots, QW⟩ := z
  obtain ⟨hx, hb, hml, hown, hts, hr, hlk, hK, hA, hmost, hfr, hlo, hce, hsl⟩ := hz
  intro okm okl oks H locs ls hP hD hS hl
  exact va_gets hx hb hmost.1 hS hown (hts _ hF) (fun _ h9 => h9) hd (k okm okl (oks.cons trivial) H locs ls hP hD hS hl)
theorem cat_sum (ad : Nat → Nat) (st : List Av) : ((st.map (cvV ad)).map fun v => v.category).sum = st.length := by
  induction st with
  | nil => rfl
  | cons v st ih => simp only [List.map_cons, List.sum_cons, ih, cvV_cat, List.length_cons]; omega
theorem a_mabs (hz : Cx q z) {a : Int} {i : Nat} (h : inR (-a)) (hL : Jvm.Cond.methodLink q.1 i Lib.Math.abs.name ∈ gw_tbl) (hf1 : 1 ≤ qf q) (hl1 : st.length + 13 ≤ ql q) (hd : decode (qB q) pc = .ok (.invokestatic i, 3)) (k : Aw z (pc + 3) lv (.inl (if 0 ≤ a then a else -a) :: st) M) : Aw z pc lv (.inl a :: st) M := by
  obtain ⟨⟨l, D, cA, ad, A⟩, p, e, R, s, m, args, below, meth, c, cells, slots, QW⟩ := z
  obtain ⟨hx, hb, hml, hown, hts, hr, hlk, hK, hA, hmost, hfr, hlo, hce, hsl⟩ := hz
  intro okm okl oks H locs ls hP hD hS hl
  have ha1 : inR a := oks.head
  have hv : inR (if 0 ≤ a then a else -a) := by split <;> assumption
  have k2 := k okm okl (oks.tail.cons hv) H locs ls hP hD hS hl
  refine va_mabs hx hb (by rw [hl.1]) hown (hts _ hL) (hts _ ms_abs.1) (hts _ ms_ini) (hts _ ms_abs.2) (by omega) (by rw [cat_sum]; omega) hce hsl hd ?_
  have e : (if (0 : Int32) ≤ Int32.ofInt a then Int32.ofInt a else 0 - Int32.ofInt a) = Int32.ofInt (if 0 ≤ a then a else -a) := by
    by_cases h0 : 0 ≤ a
    · rw [if_pos h0, if_pos (show (0 : Int32) ≤ Int32.ofInt a from (i32_le (show inR 0 by decide) ha1).mpr h0)]
    · rw [if_neg h0, if_neg (show ¬ (0 : Int32) ≤ Int32.ofInt a from fun h9 => h0 ((i32_le (show inR 0 by decide) ha1).mp h9)), Int32.ofInt_neg, Int32.zero_sub]
  rw [e]
  exact k2
theorem a_mmax (hz : Cx q z) {a b : Int} {i : Nat} (hL : Jvm.Cond.methodLink q.1 i Lib.Math.max.name ∈ gw_tbl) (hf1 : 1 ≤ qf q) (hl1 : st.length + 13 ≤ ql q) (hd : decode (qB q) pc = .ok (.invokestatic i, 3)) (k : Aw z (pc + 3) lv (.inl (if a < b then b else a) :: st) M) : Aw z pc lv (.inl b :: .inl a :: st) M := by
  obtain ⟨⟨l, D, cA, ad, A⟩, p, e, R, s, m, args, below, meth, c, cells, slots, QW⟩ := z
  obtain ⟨hx, hb, hml, hown, hts, hr, hlk, hK, hA, hmost, hfr, hlo, hce, hsl⟩ := hz
  intro okm okl oks H locs ls hP hD hS hl
  have hb1 : inR b := oks.head
  have ha1 : inR a := oks.tail.head
  have hv : inR (if a < b then b else a) := by split <;> assumption
  have k2 := k okm okl (oks.tail.tail.cons hv) H locs ls hP hD hS hl
  refine va_mmax hx hb (by rw [hl.1]) hown (hts _ hL) (hts _ ms_max.1) (hts _ ms_ini) (hts _ ms_max.2) (by omega) (by rw [cat_sum]; omega) hce hsl hd ?_
  have e : (if Int32.ofInt a < Int32.ofInt b then Int32.ofInt b else Int32.ofInt a) = Int32.ofInt (if a < b then b else a) := by
    by_cases h0 : a < b
    · rw [if_pos h0, if_pos ((i32_lt ha1 hb1).mpr h0)]
    · rw [if_neg h0, if_neg (fun h9 => h0 ((i32_lt ha1 hb1).mp h9))]
  rw [e]
  exact k2
theorem a_mmin (hz : Cx q z) {a b : Int} {i : Nat} (hL : Jvm.Cond.methodLink q.1 i Lib.Math.min.name ∈ gw_tbl) (hf1 : 1 ≤ qf q) (hl1 : st.length + 13 ≤ ql q) (hd : decode (qB q) pc = .ok (.invokestatic i, 3)) (k : Aw z (pc + 3) lv (.inl (if b < a then b else a) :: st) M) : Aw z pc lv (.inl b :: .inl a :: st) M := by
  obtain ⟨⟨l, D, cA, ad, A⟩, p, e, R, s, m, args, below, meth, c, cells, slots, QW⟩ := z
  obtain ⟨hx, hb, hml, hown, hts, hr, hlk, hK, hA, hmost, hfr, hlo, hce, hsl⟩ := hz
  intro okm okl oks H locs ls hP hD hS hl
  have hb1 : inR b := oks.head
  have ha1 : inR a := oks.tail.head
  have hv : inR (if b < a then b else a) := by split <;> assumption
  have k2 := k okm okl (oks.tail.tail.cons hv) H locs ls hP hD hS hl
  refine va_mmin hx hb (by rw [hl.1]) hown (hts _ hL) (hts _ ms_min.1) (hts _ ms_ini) (hts _ ms_min.2) (by omega) (by rw [cat_sum]; omega) hce hsl hd ?_
  have e : (if Int32.ofInt b < Int32.ofInt a then Int32.ofInt b else Int32.ofInt a) = Int32.ofInt (if b < a then b else a) := by
    by_cases h0 : b < a
    · rw [if_pos h0, if_pos ((i32_lt hb1 ha1).mpr h0)]
    · rw [if_neg h0, if_neg (fun h9 => h0 ((i32_lt hb1 ha1).mp h9))]
  rw [e]
  exact k2
theorem a_copy (hz : Cx q z) {i a b n0 n1 : Nat} {n : Int} (hL : Jvm.Cond.methodLink q.1 i arraycopyName ∈ gw_tbl) (ha : tp[a]? = some (.inr (.inl (0, n0)))) (hb2 : tp[b]? = some (.inr (.inl (0, n1)))) (h0 : 0 ≤ n ∧ n ≤ n0 ∧ n ≤ n1) (hf1 : 1 ≤ qf q) (hl1 : st.length + 18 ≤ ql q) (hd : decode (qB q) pc = .ok (.invokestatic i, 3)) (k : Aw z (pc + 3) lv st (upR M b (fun j => if j < n.toNat then M a j else M b j))) : Aw z pc lv (.inl n :: .inl 0 :: .inr b :: .inl 0 :: .inr a :: st) M := by
  obtain ⟨⟨l, D, cA, ad, A⟩, p, e, R, s, m, args, below, meth, c, cells, slots, QW⟩ := z
  obtain ⟨hx, hb, hml, hown, hts, hr, hlk, hK, hA, hmost, hfr, hlo, hce, hsl⟩ := hz
  intro okm okl oks H locs ls hP hD hS hl
  have hn : inR n := oks.head
  have z0 : (Int32.ofInt 0).toNatClampNeg = 0 := rfl
  refine va_copyi hx hb hl.1.symm hown (hts _ hL) (hts _ ac_ok.1) (hts _ ac_ok.2.1) (hts _ ac_ok.2.2) hK hP hD hS a b 0 0 (wld_get ha) (wld_get hb2) rfl rfl rfl (by decide) (by decide) (fun h9 => absurd ((i32_lt hn (show inR 0 by decide)).mp h9) (by omega)) (by rw [z0, i32_n hn]; omega) (by rw [z0, i32_n hn]; omega) (fun _ _ => rfl) (by omega) (by rw [cat_sum]; show st.length + (nativeFrameWords "java/lang/System" "arraycopy" 5 + 11) ≤ _; rw [show nativeFrameWords "java/lang/System" "arraycopy" 5 = 7 by decide]; omega) hd (fun H1 locs1 hP1 hD1 hS1 => ?_)
  have e : va_cpy (fun j => Int32.ofInt (M a j)) (fun j => Int32.ofInt (M b j)) (Int32.ofInt 0).toNatClampNeg (Int32.ofInt 0).toNatClampNeg (Int32.ofInt n).toNatClampNeg = fun j => Int32.ofInt (if j < n.toNat then M a j else M b j) := by
    funext j
    rw [z0, i32_n hn]
    unfold va_cpy
    by_cases hj : j < n.toNat
    · simp [hj]
    · simp [hj]
  have e2 := @wld_set ad cA M b (.inr (.inl (0, n1))) (fun j => if j < n.toNat then M a j else M b j) hb2
  rw [e] at hP1 hD1
  have hP1 : va_P D vwCl (wld ad cA (upR M b (fun j => if j < n.toNat then M a j else M b j))) H1 := by rw [← e2]; exact hP1
  have hD1 : va_D A (wld ad cA (upR M b (fun j => if j < n.toNat then M a j else M b j))) := by rw [← e2]; exact hD1
  exact k (okM_upR okm (ne999 hb2) (fun j => by split <;> exact okm.1 _ _)) okl oks.tail.tail.tail.tail.tail H1 locs1 ls hP1 hD1 hS1 hl
end RULES
