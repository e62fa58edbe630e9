/-! THE PURE PART: rules for what the functions answer -/
section OKR
variable {α β γ : Type}
theorem ok_gd {C : Prop} {inst : Decidable C} {t : Option α} {P : α → Prop} (h : C) (k : OK t P) : OK (@gd α C inst t) P := by unfold gd; rw [if_pos h]; exact k
theorem ok_if {C : Prop} {inst : Decidable C} {a b : Option α} {P : α → Prop} (k1 : C → OK a P) (k2 : ¬ C → OK b P) : OK (@ite (Option α) C inst a b) P := by
  by_cases h : C
  · rw [if_pos h]; exact k1 h
  · rw [if_neg h]; exact k2 h
theorem ok_t {C : Prop} {inst : Decidable C} {a b : Option α} {P : α → Prop} (h : C) (k : OK a P) : OK (@ite (Option α) C inst a b) P := by rw [if_pos h]; exact k
theorem ok_f {C : Prop} {inst : Decidable C} {a b : Option α} {P : α → Prop} (h : ¬ C) (k : OK b P) : OK (@ite (Option α) C inst a b) P := by rw [if_neg h]; exact k
theorem ok_cal {o : Option α} {f : α → Option β} {P1 : α → Prop} {P : β → Prop} (h : OK o P1) (k : ∀ a, P1 a → OK (f a) P) : OK (cal o f) P := by
  cases o with
  | none => exact h.elim
  | some a => exact k a h
theorem ok_cal2 {o : Option (α × γ)} {f : α → γ → Option β} {P1 : α × γ → Prop} {P : β → Prop} (h : OK o P1) (k : ∀ a c, P1 (a, c) → OK (f a c) P) : OK (cal2 o f) P := by
  cases o with
  | none => exact h.elim
  | some a => exact k a.1 a.2 h
theorem ok_bnd {e : α} {f : α → Option β} {P : β → Prop} (k : ∀ t, t = e → OK (f t) P) : OK (bnd e f) P := k e rfl
theorem ok_jn {k : α} {t : α → Option β} {P : β → Prop} (h : OK (t k) P) : OK (jn k t) P := h
theorem ok_jnK {k : α} {t : α → Option β} {P : β → Prop} (C : α → Prop) (hk : C k) (kk : ∀ k', C k' → OK (t k') P) : OK (jn k t) P := kk k hk
theorem ok_mono {o : Option α} {P Q : α → Prop} (h : OK o P) (k : ∀ a, P a → Q a) : OK o Q := by
  cases o with
  | none => exact h.elim
  | some a => exact k a h
theorem ok_eq {o : Option α} {a : α} {P : α → Prop} (h : o = some a) (k : P a) : OK o P := by rw [h]; exact k
theorem ok_get {o : Option α} {P : α → Prop} (h : OK o P) : ∃ a, o = some a ∧ P a := by
  cases o with
  | none => exact h.elim
  | some a => exact ⟨a, rfl, h⟩
end OKR
theorem up_row {M : Mm} {k j a : Nat} {v : Int} (h : a ≠ k) : up M k j v a = M a := by simp [up, upR, h]
theorem up_at {M : Mm} {k j b : Nat} {v : Int} : up M k j v k b = if b = j then v else M k b := by simp [up, upR, uf]
theorem up_eq {M : Mm} {k j : Nat} {v : Int} : up M k j v k j = v := by simp [up, upR, uf]
theorem up_ne {M : Mm} {k j b : Nat} {v : Int} (h : b ≠ j) : up M k j v k b = M k b := by simp [up, upR, uf, h]
theorem cp_row {M : Mm} {b a c : Nat} {n : Int} (h : c ≠ b) : cpM M b a n c = M c := by simp [cpM, upR, h]
theorem cp_at {M : Mm} {b a j : Nat} {n : Int} (h : j < n.toNat) : cpM M b a n b j = M a j := by simp [cpM, upR, h]
theorem tn (i : Nat) : (i : Int).toNat = i := Int.toNat_natCast i
theorem sc (i : Nat) : (i : Int) + 1 = ((i + 1 : Nat) : Int) := rfl
/-- the data that document, class and reference speak of -/
abbrev Dt : Type := (Int × Int × Int) × (Nat → Int) × (Nat → Int) × (Nat → Int) × (Nat → Int) × (Nat → Int) × (Nat → Int) × (Nat → Int) × (Nat → Int)
abbrev nC (d : Dt) : Int := d.1.1
abbrev nR (d : Dt) : Int := d.1.2.1
abbrev nF (d : Dt) : Int := d.1.2.2
abbrev cx (d : Dt) : Nat → Int := d.2.1
abbrev cy (d : Dt) : Nat → Int := d.2.2.1
abbrev rf (d : Dt) : Nat → Int := d.2.2.2.1
abbrev rl (d : Dt) : Nat → Int := d.2.2.2.2.1
abbrev rw' (d : Dt) : Nat → Int := d.2.2.2.2.2.1
abbrev ru (d : Dt) : Nat → Int := d.2.2.2.2.2.2.1
abbrev fx (d : Dt) : Nat → Int := d.2.2.2.2.2.2.2.1
abbrev fy (d : Dt) : Nat → Int := d.2.2.2.2.2.2.2.2
/-- the road's first and last crossing, as a place of its row -/
def rF (d : Dt) (r : Nat) : Nat := (rf d r).toNat
def rL (d : Dt) (r : Nat) : Nat := (rl d r).toNat
def len (d : Dt) (r : Nat) : Int := iabs (cx d (rF d r) - cx d (rL d r)) + iabs (cy d (rF d r) - cy d (rL d r))
/-- what holds of the data: numbers in their bounds, roads between different crossings in one row -/
def WN (d : Dt) : Prop := (0 ≤ nC d ∧ nC d ≤ 12) ∧ (0 ≤ nR d ∧ nR d ≤ 20) ∧ (∀ j : Nat, (j : Int) < nC d → (0 ≤ cx d j ∧ cx d j ≤ 63) ∧ (0 ≤ cy d j ∧ cy d j ≤ 63)) ∧ (∀ i j : Nat, (i : Int) < nC d → (j : Int) < nC d → cx d i = cx d j → cy d i = cy d j → i = j) ∧ ∀ r : Nat, (r : Int) < nR d → (0 ≤ rf d r ∧ rf d r < nC d) ∧ (0 ≤ rl d r ∧ rl d r < nC d) ∧ rf d r ≠ rl d r ∧ (cx d (rF d r) = cx d (rL d r) ∨ cy d (rF d r) = cy d (rL d r)) ∧ (rw' d r = 0 ∨ rw' d r = 1)
def WRu (d : Dt) : Prop := (0 ≤ ru d 0 ∧ ru d 0 ≤ 8) ∧ (0 ≤ ru d 1 ∧ ru d 1 ≤ 9) ∧ (0 ≤ ru d 2 ∧ ru d 2 ≤ 9) ∧ (0 ≤ ru d 3 ∧ ru d 3 ≤ 99)
def WF (d : Dt) : Prop := (0 ≤ nF d ∧ nF d ≤ 16) ∧ ∀ j : Nat, (j : Int) < nF d → (0 ≤ fx d j ∧ fx d j ≤ 63) ∧ (0 ≤ fy d j ∧ fy d j ≤ 63)
theorem iabs_nn (a : Int) : 0 ≤ iabs a := by unfold iabs; split <;> omega
theorem rF_lt {d : Dt} (h : WN d) {r : Nat} (hr : (r : Int) < nR d) : ((rF d r : Nat) : Int) = rf d r ∧ rF d r < 12 ∧ ((rF d r : Nat) : Int) < nC d := by
  obtain ⟨⟨h0, h1⟩, -, -, -, h5⟩ := h
  obtain ⟨⟨h6, h7⟩, -⟩ := h5 r hr
  unfold rF
  omega
theorem rL_lt {d : Dt} (h : WN d) {r : Nat} (hr : (r : Int) < nR d) : ((rL d r : Nat) : Int) = rl d r ∧ rL d r < 12 ∧ ((rL d r : Nat) : Int) < nC d := by
  obtain ⟨⟨h0, h1⟩, -, -, -, h5⟩ := h
  obtain ⟨-, ⟨h6, h7⟩, -⟩ := h5 r hr
  unfold rL
  omega
theorem len_b {d : Dt} (h : WN d) {r : Nat} (hr : (r : Int) < nR d) : 1 ≤ len d r ∧ len d r ≤ 63 := by
  obtain ⟨e1, -, l1⟩ := rF_lt h hr
  obtain ⟨e2, -, l2⟩ := rL_lt h hr
  obtain ⟨-, -, h3, h4, h5⟩ := h
  obtain ⟨-, -, hne, hrow, -⟩ := h5 r hr
  have a1 := h3 _ l1
  have a2 := h3 _ l2
  have h6 : ¬ (cx d (rF d r) = cx d (rL d r) ∧ cy d (rF d r) = cy d (rL d r)) := fun hh => hne (by rw [← e1, ← e2, h4 _ _ l1 l2 hh.1 hh.2])
  unfold len iabs
  split <;> split <;> omega
/-! least ways -/
def eg (d : Dt) (i k : Nat) (w : Int) : Prop := ∃ r : Nat, (r : Int) < nR d ∧ w = len d r ∧ ((rF d r = i ∧ rL d r = k) ∨ (rw' d r = 0 ∧ rL d r = i ∧ rF d r = k))
def wk (E : Nat → Nat → Int → Prop) : Nat → Nat → Nat → Int → Prop
  | 0, i, j, w => i = j ∧ w = 0
  | n + 1, i, j, w => ∃ k w1, E i k w1 ∧ wk E n k j (w - w1)
def EB (n : Int) (E : Nat → Nat → Int → Prop) : Prop := (0 ≤ n ∧ n ≤ 12) ∧ ∀ i k w, E i k w → (1 ≤ w ∧ w ≤ 63) ∧ (i : Int) < n ∧ (k : Int) < n
def DM (c : Int) (E : Nat → Nat → Int → Prop) (F : Nat → Nat → Int) : Prop := (∀ i : Nat, (i : Int) < c → F i i = 0) ∧ (∀ i j : Nat, (i : Int) < c → (j : Int) < c → F i j = -6 ∨ (0 ≤ F i j ∧ ∃ n, wk E n i j (F i j))) ∧ ∀ (i k : Nat) (w : Int) (j : Nat), E i k w → (j : Int) < c → F k j ≠ -6 → F i j ≠ -6 ∧ F i j ≤ w + F k j
theorem eg_b {d : Dt} (h : WN d) : EB (nC d) (eg d) := by
  refine ⟨h.1, fun i k w he => ?_⟩
  obtain ⟨r, hr, rfl, hh⟩ := he
  refine ⟨len_b h hr, ?_⟩
  have h1 := rF_lt h hr
  have h2 := rL_lt h hr
  rcases hh with ⟨a, b⟩ | ⟨-, a, b⟩
  · rw [← a, ← b]; exact ⟨h1.2.2, h2.2.2⟩
  · rw [← a, ← b]; exact ⟨h2.2.2, h1.2.2⟩
section WALKS
variable {c : Int} {E : Nat → Nat → Int → Prop} {F G : Nat → Nat → Int}
theorem wk_app : ∀ (n m i k j : Nat) (v w : Int), wk E n i k v → wk E m k j w → wk E (n + m) i j (v + w)
  | 0, m, i, k, j, v, w, h1, h2 => by
    obtain ⟨rfl, rfl⟩ := h1
    rw [Nat.zero_add, Int.zero_add]; exact h2
  | n + 1, m, i, k, j, v, w, h1, h2 => by
    obtain ⟨a, w1, e1, h3⟩ := h1
    have h4 := wk_app n m a k j (v - w1) w h3 h2
    rw [show n + 1 + m = (n + m) + 1 by omega]
    exact ⟨a, w1, e1, by rw [show v + w - w1 = v - w1 + w by omega]; exact h4⟩
theorem wk_sub {E2 : Nat → Nat → Int → Prop} (h : ∀ i k w, E i k w → E2 i k w) : ∀ (n i j : Nat) (w : Int), wk E n i j w → wk E2 n i j w
  | 0, i, j, w, h1 => h1
  | n + 1, i, j, w, h1 => by
    obtain ⟨k, w1, e, h2⟩ := h1
    exact ⟨k, w1, h _ _ _ e, wk_sub h n k j _ h2⟩
theorem wk_le (hN : EB c E) (hF : DM c E F) {j : Nat} (hj : (j : Int) < c) : ∀ (n i : Nat) (w : Int), (i : Int) < c → wk E n i j w → F i j ≠ -6 ∧ F i j ≤ w
  | 0, i, w, hi, h => by
    obtain ⟨rfl, rfl⟩ := h
    rw [hF.1 i hi]; omega
  | n + 1, i, w, hi, h => by
    obtain ⟨k, w1, e1, h2⟩ := h
    have hk := (hN.2 _ _ _ e1).2.2
    have h3 := wk_le hN hF hj n k (w - w1) hk h2
    have h4 := hF.2.2 i k w1 j e1 hj h3.1
    omega
theorem DM_uniq (hN : EB c E) (hF : DM c E F) (hG : DM c E G) {i j : Nat} (hi : (i : Int) < c) (hj : (j : Int) < c) : F i j = G i j := by
  rcases hF.2.1 i j hi hj with h1 | ⟨h1, n, h2⟩ <;> rcases hG.2.1 i j hi hj with h3 | ⟨h3, m, h4⟩
  · omega
  · have := wk_le hN hF hj m i _ hi h4; omega
  · have := wk_le hN hG hj n i _ hi h2; omega
  · have a := wk_le hN hF hj m i _ hi h4
    have b := wk_le hN hG hj n i _ hi h2
    omega
theorem DM_next (hN : EB c E) (hF : DM c E F) {i j : Nat} (hi : (i : Int) < c) (hj : (j : Int) < c) (hij : i ≠ j) (h : F i j ≠ -6) : ∃ k w, E i k w ∧ F k j ≠ -6 ∧ F i j = w + F k j := by
  rcases hF.2.1 i j hi hj with h1 | ⟨h1, n, h2⟩
  · exact absurd h1 h
  · cases n with
    | zero => exact absurd h2.1 hij
    | succ n =>
      obtain ⟨k, w, e, h3⟩ := h2
      have hk := (hN.2 _ _ _ e).2.2
      have h4 := wk_le hN hF hj n k _ hk h3
      have h5 := hF.2.2 i k w j e hj h4.1
      exact ⟨k, w, e, h4.1, by omega⟩
/-- how many of the first n -/
def cN (p : Nat → Bool) : Nat → Nat
  | 0 => 0
  | n + 1 => cN p n + (if p n then 1 else 0)
theorem cN_le (p : Nat → Bool) : ∀ n, cN p n ≤ n
  | 0 => Nat.le_refl 0
  | n + 1 => by
    have := cN_le p n
    unfold cN
    split <;> omega
theorem cN_mono {p q : Nat → Bool} : ∀ n, (∀ k, k < n → p k = true → q k = true) → cN p n ≤ cN q n
  | 0, _ => Nat.le_refl 0
  | n + 1, h => by
    have h1 := cN_mono n (fun k hk => h k (by omega))
    have h2 := h n (by omega)
    unfold cN
    by_cases hp : p n = true
    · rw [if_pos hp, if_pos (h2 hp)]; omega
    · rw [if_neg hp]; split <;> omega
theorem cN_lt {p q : Nat → Bool} : ∀ n, (∀ k, k < n → p k = true → q k = true) → (∃ k, k < n ∧ q k = true ∧ p k = false) → cN p n + 1 ≤ cN q n
  | 0, _, h => by obtain ⟨k, hk, -⟩ := h; omega
  | n + 1, h, hx => by
    obtain ⟨k, hk, h1, h2⟩ := hx
    have h3 := h n (by omega)
    unfold cN
    by_cases hkn : k = n
    · subst hkn
      have h4 := cN_mono (p := p) (q := q) k (fun a ha => h a (by omega))
      rw [if_neg (by rw [h2]; decide), if_pos h1]; omega
    · have h4 := cN_lt n (fun a ha => h a (by omega)) ⟨k, by omega, h1, h2⟩
      by_cases hp : p n = true
      · rw [if_pos hp, if_pos (h3 hp)]; omega
      · rw [if_neg hp]; split <;> omega
/-- the crossings that are nearer to j than i is -/
def nearer (F : Nat → Nat → Int) (n : Nat) (i j : Nat) : Nat := cN (fun k => decide (F k j ≠ -6 ∧ F k j < F i j)) n
theorem nearer_next (hN : EB c E) {i j k : Nat} {w : Int} (he : E i k w) (hk : F k j ≠ -6) (h : F i j = w + F k j) : nearer F c.toNat k j + 1 ≤ nearer F c.toNat i j := by
  have hb := hN.2 _ _ _ he
  refine cN_lt _ (fun a _ ha => ?_) ⟨k, by omega, ?_, ?_⟩
  · simp only [decide_eq_true_eq] at ha ⊢; omega
  · simp only [decide_eq_true_eq]; omega
  · simp only [decide_eq_false_iff_not]; omega
theorem DM_bd (hN : EB c E) (hF : DM c E F) {j : Nat} (hj : (j : Int) < c) : ∀ (m i : Nat), (i : Int) < c → F i j ≠ -6 → nearer F c.toNat i j ≤ m → F i j ≤ 63 * (m : Int)
  | 0, i, hi, h, hm => by
    by_cases hij : i = j
    · subst hij; rw [hF.1 i hi]; omega
    · obtain ⟨k, w, he, hk, e⟩ := DM_next hN hF hi hj hij h
      have := nearer_next hN he hk e
      omega
  | m + 1, i, hi, h, hm => by
    by_cases hij : i = j
    · subst hij; rw [hF.1 i hi]; omega
    · obtain ⟨k, w, he, hk, e⟩ := DM_next hN hF hi hj hij h
      have h1 := nearer_next hN he hk e
      have hb := hN.2 _ _ _ he
      have h2 := DM_bd hN hF hj m k hb.2.2 hk (by omega)
      have : ((m + 1 : Nat) : Int) = (m : Int) + 1 := rfl
      omega
theorem DM_b (hN : EB c E) (hF : DM c E F) {i j : Nat} (hi : (i : Int) < c) (hj : (j : Int) < c) : F i j = -6 ∨ (0 ≤ F i j ∧ F i j ≤ 756) := by
  rcases hF.2.1 i j hi hj with h1 | ⟨h1, -⟩
  · exact Or.inl h1
  · have h2 := DM_bd hN hF hj 12 i hi (by omega) (Nat.le_trans (cN_le _ _) (by have := hN.1; omega))
    exact Or.inr ⟨h1, by omega⟩
/-- a new edge -/
def mn (known ahead len behind : Int) : Int := if ahead = -6 ∨ behind = -6 then known else if known = -6 ∨ ahead + len + behind < known then ahead + len + behind else known
def addE (E : Nat → Nat → Int → Prop) (a b : Nat) (l : Int) : Nat → Nat → Int → Prop := fun i k w => E i k w ∨ (i = a ∧ k = b ∧ w = l)
theorem addE_b (hN : EB c E) {a b : Nat} {l : Int} (ha : (a : Int) < c) (hb : (b : Int) < c) (hl : 1 ≤ l ∧ l ≤ 63) : EB c (addE E a b l) := by
  refine ⟨hN.1, fun i k w h => ?_⟩
  rcases h with h | ⟨rfl, rfl, rfl⟩
  · exact hN.2 _ _ _ h
  · exact ⟨hl, ha, hb⟩
theorem DM_add (hN : EB c E) (hF : DM c E F) {a b : Nat} {l : Int} (ha : (a : Int) < c) (hb : (b : Int) < c) (hl : 1 ≤ l ∧ l ≤ 63) (hG : ∀ i j : Nat, (i : Int) < c → (j : Int) < c → G i j = mn (F i j) (F i a) l (F b j)) : DM c (addE E a b l) G := by
  have hs : ∀ i k w, E i k w → addE E a b l i k w := fun _ _ _ h => Or.inl h
  refine ⟨fun i hi => ?_, fun i j hi hj => ?_, fun i k w j he hj hk => ?_⟩
  · rw [hG i i hi hi]
    have h1 := hF.1 i hi
    have h2 := hF.2.1 i a hi ha
    have h3 := hF.2.1 b i hb hi
    unfold mn
    split
    · exact h1
    · split <;> omega
  · rw [hG i j hi hj]
    have h1 := hF.2.1 i j hi hj
    have h2 := hF.2.1 i a hi ha
    have h3 := hF.2.1 b j hb hj
    have old : F i j = -6 ∨ (0 ≤ F i j ∧ ∃ n, wk (addE E a b l) n i j (F i j)) := by
      rcases h1 with h | ⟨h, n, hw⟩
      · exact Or.inl h
      · exact Or.inr ⟨h, n, wk_sub hs n i j _ hw⟩
    unfold mn
    split
    · exact old
    · split
      · rcases h2 with h2 | ⟨h2, n, w1⟩
        · omega
        · rcases h3 with h3 | ⟨h3, m, w2⟩
          · omega
          · refine Or.inr ⟨by omega, n + (1 + m), ?_⟩
            have w3 : wk (addE E a b l) (1 + m) a j (l + F b j) := by
              rw [Nat.add_comm 1 m]
              exact ⟨b, l, Or.inr ⟨rfl, rfl, rfl⟩, by rw [show l + F b j - l = F b j by omega]; exact wk_sub hs m b j _ w2⟩
            have := wk_app n (1 + m) i a j _ _ (wk_sub hs n i a _ w1) w3
            rwa [show F i a + l + F b j = F i a + (l + F b j) by omega]
      · exact old
  · have hkc : (k : Int) < c := by
      rcases he with he | ⟨-, rfl, -⟩
      · exact (hN.2 _ _ _ he).2.2
      · exact hb
    have hic : (i : Int) < c := by
      rcases he with he | ⟨rfl, -, -⟩
      · exact (hN.2 _ _ _ he).2.1
      · exact ha
    rw [hG k j hkc hj] at hk ⊢
    rw [hG i j hic hj]
    have p1 := hF.2.1 i j hic hj
    have p2 := hF.2.1 i a hic ha
    have p3 := hF.2.1 b j hb hj
    have p4 := hF.2.1 k a hkc ha
    have p5 := hF.2.1 k j hkc hj
    rcases he with he | ⟨rfl, rfl, rfl⟩
    · have q1 := hF.2.2 i k w j he hj
      have q2 := hF.2.2 i k w a he ha
      unfold mn at hk ⊢
      (repeat' split) <;> (try split at hk) <;> (try split at hk) <;> omega
    · have q0 := hF.1 i hic
      unfold mn at hk ⊢
      (repeat' split) <;> (try split at hk) <;> (try split at hk) <;> omega
end WALKS
