/-! image, restore -/
theorem i_L20 {n : Nat} (hn : n < 2) {c : Int} (hc : c = 130 * (n : Int)) (x1 : Int) (M : Mm) (k : Int → Mm → Option (Int × Mm)) (P : Int × Mm → Prop) (hk : ∀ M' : Mm, (∀ a, a ≠ 89 → M' a = M a) → (∀ j : Nat, (j : Int) < 12 → M' 89 (130 * n + 0 + j) = M 72 j) → (∀ j : Nat, (j : Int) < 12 → M' 89 (130 * n + 12 + j) = M 73 j) → (∀ t, (t < 130 * n + 0 ∨ 130 * n + 24 ≤ t) → M' 89 t = M 89 t) → OK (k c M') P) : ∀ (m : Nat) (v : Int) (M4 : Mm), 0 ≤ v → v ≤ 12 → 12 < (m : Int) + v → (∀ a, a ≠ 89 → M4 a = M a) → (∀ j : Nat, (j : Int) < v → M4 89 (130 * n + 0 + j) = M 72 j) → (∀ j : Nat, (j : Int) < v → M4 89 (130 * n + 12 + j) = M 73 j) → (∀ t, (t < 130 * n + 0 ∨ 130 * n + 24 ≤ t) → M4 89 t = M 89 t) → OK (fX5_image_L20 x1 k m c v M4) P := by
  intro m
  induction m with
  | zero => intro v M4 h0 h1 h2; omega
  | succ m ih =>
    intro v M4 h0 h1 h2 ho c0 c1 hr
    unfold fX5_image_L20
    refine ok_if (fun z => ?_) (fun z => ?_)
    · have ev : v = 12 := by omega
      subst ev
      exact hk M4 ho c0 c1 hr
    · have z2 : v < 12 := by omega
      have i0 : (c + v).toNat = 130 * n + 0 + v.toNat := by omega
      have i1 : (c + 12 + v).toNat = 130 * n + 12 + v.toNat := by omega
      rw [i0, i1]
      refine ok_gd ⟨⟨by omega, by omega⟩, by omega, by omega⟩ (ok_bnd (fun N0 e0 => ok_gd ⟨⟨by omega, by omega⟩, ⟨by omega, by omega⟩, by omega, by omega⟩ (ok_bnd (fun N1 e1 => ok_gd ⟨by omega, by omega⟩ ?_))))
      have o0 : ∀ a, a ≠ 89 → N0 a = M a := fun a ha => by rw [e0, up_row ha, ho a ha]
      have a0 : ∀ t, N0 89 t = if t = 130 * n + 0 + v.toNat then M 72 v.toNat else M4 89 t := fun t => by rw [e0, up_at, ho 72 (by decide)]
      have o1 : ∀ a, a ≠ 89 → N1 a = M a := fun a ha => by rw [e1, up_row ha, o0 a ha]
      have a1 : ∀ t, N1 89 t = if t = 130 * n + 12 + v.toNat then M 73 v.toNat else N0 89 t := fun t => by rw [e1, up_at, o0 73 (by decide)]
      refine ih (v + 1) N1 (by omega) (by omega) (by omega) o1 (fun j hj => ?_) (fun j hj => ?_) (fun t ht => ?_)
      · by_cases hjv : j = v.toNat
        · rw [hjv, a1, if_neg (by omega), a0, if_pos rfl]
        · rw [a1, if_neg (by omega), a0, if_neg (by omega)]; exact c0 j (by omega)
      · by_cases hjv : j = v.toNat
        · rw [hjv, a1, if_pos rfl]
        · rw [a1, if_neg (by omega), a0, if_neg (by omega)]; exact c1 j (by omega)
      · rw [a1, if_neg (by omega), a0, if_neg (by omega)]; exact hr t ht
theorem i_L65 {n : Nat} (hn : n < 2) {c : Int} (hc : c = 130 * (n : Int)) (x1 : Int) (M : Mm) (k : Int → Mm → Option (Int × Mm)) (P : Int × Mm → Prop) (hk : ∀ M' : Mm, (∀ a, a ≠ 89 → M' a = M a) → (∀ j : Nat, (j : Int) < 20 → M' 89 (130 * n + 24 + j) = M 74 j) → (∀ j : Nat, (j : Int) < 20 → M' 89 (130 * n + 44 + j) = M 75 j) → (∀ j : Nat, (j : Int) < 20 → M' 89 (130 * n + 64 + j) = M 76 j) → (∀ t, (t < 130 * n + 24 ∨ 130 * n + 84 ≤ t) → M' 89 t = M 89 t) → OK (k c M') P) : ∀ (m : Nat) (v : Int) (M4 : Mm), 0 ≤ v → v ≤ 20 → 20 < (m : Int) + v → (∀ a, a ≠ 89 → M4 a = M a) → (∀ j : Nat, (j : Int) < v → M4 89 (130 * n + 24 + j) = M 74 j) → (∀ j : Nat, (j : Int) < v → M4 89 (130 * n + 44 + j) = M 75 j) → (∀ j : Nat, (j : Int) < v → M4 89 (130 * n + 64 + j) = M 76 j) → (∀ t, (t < 130 * n + 24 ∨ 130 * n + 84 ≤ t) → M4 89 t = M 89 t) → OK (fX5_image_L65 x1 k m c v M4) P := by
  intro m
  induction m with
  | zero => intro v M4 h0 h1 h2; omega
  | succ m ih =>
    intro v M4 h0 h1 h2 ho c0 c1 c2 hr
    unfold fX5_image_L65
    refine ok_if (fun z => ?_) (fun z => ?_)
    · have ev : v = 20 := by omega
      subst ev
      exact hk M4 ho c0 c1 c2 hr
    · have z2 : v < 20 := by omega
      have i0 : (c + 24 + v).toNat = 130 * n + 24 + v.toNat := by omega
      have i1 : (c + 44 + v).toNat = 130 * n + 44 + v.toNat := by omega
      have i2 : (c + 64 + v).toNat = 130 * n + 64 + v.toNat := by omega
      rw [i0, i1, i2]
      refine ok_gd ⟨⟨by omega, by omega⟩, ⟨by omega, by omega⟩, by omega, by omega⟩ (ok_bnd (fun N0 e0 => ok_gd ⟨⟨by omega, by omega⟩, ⟨by omega, by omega⟩, by omega, by omega⟩ (ok_bnd (fun N1 e1 => ok_gd ⟨⟨by omega, by omega⟩, ⟨by omega, by omega⟩, by omega, by omega⟩ (ok_bnd (fun N2 e2 => ok_gd ⟨by omega, by omega⟩ ?_))))))
      have o0 : ∀ a, a ≠ 89 → N0 a = M a := fun a ha => by rw [e0, up_row ha, ho a ha]
      have a0 : ∀ t, N0 89 t = if t = 130 * n + 24 + v.toNat then M 74 v.toNat else M4 89 t := fun t => by rw [e0, up_at, ho 74 (by decide)]
      have o1 : ∀ a, a ≠ 89 → N1 a = M a := fun a ha => by rw [e1, up_row ha, o0 a ha]
      have a1 : ∀ t, N1 89 t = if t = 130 * n + 44 + v.toNat then M 75 v.toNat else N0 89 t := fun t => by rw [e1, up_at, o0 75 (by decide)]
      have o2 : ∀ a, a ≠ 89 → N2 a = M a := fun a ha => by rw [e2, up_row ha, o1 a ha]
      have a2 : ∀ t, N2 89 t = if t = 130 * n + 64 + v.toNat then M 76 v.toNat else N1 89 t := fun t => by rw [e2, up_at, o1 76 (by decide)]
      refine ih (v + 1) N2 (by omega) (by omega) (by omega) o2 (fun j hj => ?_) (fun j hj => ?_) (fun j hj => ?_) (fun t ht => ?_)
      · by_cases hjv : j = v.toNat
        · rw [hjv, a2, if_neg (by omega), a1, if_neg (by omega), a0, if_pos rfl]
        · rw [a2, if_neg (by omega), a1, if_neg (by omega), a0, if_neg (by omega)]; exact c0 j (by omega)
      · by_cases hjv : j = v.toNat
        · rw [hjv, a2, if_neg (by omega), a1, if_pos rfl]
        · rw [a2, if_neg (by omega), a1, if_neg (by omega), a0, if_neg (by omega)]; exact c1 j (by omega)
      · by_cases hjv : j = v.toNat
        · rw [hjv, a2, if_pos rfl]
        · rw [a2, if_neg (by omega), a1, if_neg (by omega), a0, if_neg (by omega)]; exact c2 j (by omega)
      · rw [a2, if_neg (by omega), a1, if_neg (by omega), a0, if_neg (by omega)]; exact hr t ht
theorem i_L130 {n : Nat} (hn : n < 2) {c : Int} (hc : c = 130 * (n : Int)) (x1 : Int) (M : Mm) (k : Int → Mm → Option (Int × Mm)) (P : Int × Mm → Prop) (hk : ∀ M' : Mm, (∀ a, a ≠ 89 → M' a = M a) → (∀ j : Nat, (j : Int) < 16 → M' 89 (130 * n + 84 + j) = M 78 j) → (∀ j : Nat, (j : Int) < 16 → M' 89 (130 * n + 100 + j) = M 79 j) → (∀ t, (t < 130 * n + 84 ∨ 130 * n + 116 ≤ t) → M' 89 t = M 89 t) → OK (k c M') P) : ∀ (m : Nat) (v : Int) (M4 : Mm), 0 ≤ v → v ≤ 16 → 16 < (m : Int) + v → (∀ a, a ≠ 89 → M4 a = M a) → (∀ j : Nat, (j : Int) < v → M4 89 (130 * n + 84 + j) = M 78 j) → (∀ j : Nat, (j : Int) < v → M4 89 (130 * n + 100 + j) = M 79 j) → (∀ t, (t < 130 * n + 84 ∨ 130 * n + 116 ≤ t) → M4 89 t = M 89 t) → OK (fX5_image_L130 x1 k m c v M4) P := by
  intro m
  induction m with
  | zero => intro v M4 h0 h1 h2; omega
  | succ m ih =>
    intro v M4 h0 h1 h2 ho c0 c1 hr
    unfold fX5_image_L130
    refine ok_if (fun z => ?_) (fun z => ?_)
    · have ev : v = 16 := by omega
      subst ev
      exact hk M4 ho c0 c1 hr
    · have z2 : v < 16 := by omega
      have i0 : (c + 84 + v).toNat = 130 * n + 84 + v.toNat := by omega
      have i1 : (c + 100 + v).toNat = 130 * n + 100 + v.toNat := by omega
      rw [i0, i1]
      refine ok_gd ⟨⟨by omega, by omega⟩, ⟨by omega, by omega⟩, by omega, by omega⟩ (ok_bnd (fun N0 e0 => ok_gd ⟨⟨by omega, by omega⟩, ⟨by omega, by omega⟩, by omega, by omega⟩ (ok_bnd (fun N1 e1 => ok_gd ⟨by omega, by omega⟩ ?_))))
      have o0 : ∀ a, a ≠ 89 → N0 a = M a := fun a ha => by rw [e0, up_row ha, ho a ha]
      have a0 : ∀ t, N0 89 t = if t = 130 * n + 84 + v.toNat then M 78 v.toNat else M4 89 t := fun t => by rw [e0, up_at, ho 78 (by decide)]
      have o1 : ∀ a, a ≠ 89 → N1 a = M a := fun a ha => by rw [e1, up_row ha, o0 a ha]
      have a1 : ∀ t, N1 89 t = if t = 130 * n + 100 + v.toNat then M 79 v.toNat else N0 89 t := fun t => by rw [e1, up_at, o0 79 (by decide)]
      refine ih (v + 1) N1 (by omega) (by omega) (by omega) o1 (fun j hj => ?_) (fun j hj => ?_) (fun t ht => ?_)
      · by_cases hjv : j = v.toNat
        · rw [hjv, a1, if_neg (by omega), a0, if_pos rfl]
        · rw [a1, if_neg (by omega), a0, if_neg (by omega)]; exact c0 j (by omega)
      · by_cases hjv : j = v.toNat
        · rw [hjv, a1, if_pos rfl]
        · rw [a1, if_neg (by omega), a0, if_neg (by omega)]; exact c1 j (by omega)
      · rw [a1, if_neg (by omega), a0, if_neg (by omega)]; exact hr t ht
theorem i_L178 {n : Nat} (hn : n < 2) {c : Int} (hc : c = 130 * (n : Int)) (x1 : Int) (M : Mm) (k : Int → Mm → Option (Int × Mm)) (P : Int × Mm → Prop) (hk : ∀ M' : Mm, (∀ a, a ≠ 89 → M' a = M a) → (∀ j : Nat, (j : Int) < 4 → M' 89 (130 * n + 116 + j) = M 77 j) → (∀ t, (t < 130 * n + 116 ∨ 130 * n + 120 ≤ t) → M' 89 t = M 89 t) → OK (k c M') P) : ∀ (m : Nat) (v : Int) (M4 : Mm), 0 ≤ v → v ≤ 4 → 4 < (m : Int) + v → (∀ a, a ≠ 89 → M4 a = M a) → (∀ j : Nat, (j : Int) < v → M4 89 (130 * n + 116 + j) = M 77 j) → (∀ t, (t < 130 * n + 116 ∨ 130 * n + 120 ≤ t) → M4 89 t = M 89 t) → OK (fX5_image_L178 x1 k m c v M4) P := by
  intro m
  induction m with
  | zero => intro v M4 h0 h1 h2; omega
  | succ m ih =>
    intro v M4 h0 h1 h2 ho c0 hr
    unfold fX5_image_L178
    refine ok_if (fun z => ?_) (fun z => ?_)
    · have ev : v = 4 := by omega
      subst ev
      exact hk M4 ho c0 hr
    · have z2 : v < 4 := by omega
      have i0 : (c + 116 + v).toNat = 130 * n + 116 + v.toNat := by omega
      rw [i0]
      refine ok_gd ⟨⟨by omega, by omega⟩, ⟨by omega, by omega⟩, by omega, by omega⟩ (ok_bnd (fun N0 e0 => ok_gd ⟨by omega, by omega⟩ ?_))
      have o0 : ∀ a, a ≠ 89 → N0 a = M a := fun a ha => by rw [e0, up_row ha, ho a ha]
      have a0 : ∀ t, N0 89 t = if t = 130 * n + 116 + v.toNat then M 77 v.toNat else M4 89 t := fun t => by rw [e0, up_at, ho 77 (by decide)]
      refine ih (v + 1) N0 (by omega) (by omega) (by omega) o0 (fun j hj => ?_) (fun t ht => ?_)
      · by_cases hjv : j = v.toNat
        · rw [hjv, a0, if_pos rfl]
        · rw [a0, if_neg (by omega)]; exact c0 j (by omega)
      · rw [a0, if_neg (by omega)]; exact hr t ht
theorem r_L32 {n : Nat} (hn : n < 2) {c : Int} (hc : c = 130 * (n : Int)) (x1 : Int) (M : Mm) (k : Int → Mm → Option (Int × Mm)) (P : Int × Mm → Prop) (hk : ∀ M' : Mm, (∀ a, a ≠ 72 → a ≠ 73 → M' a = M a) → (∀ j : Nat, M' 72 j = if (j : Int) < 12 then M 89 (130 * n + 0 + j) else M 72 j) → (∀ j : Nat, M' 73 j = if (j : Int) < 12 then M 89 (130 * n + 12 + j) else M 73 j) → OK (k c M') P) : ∀ (m : Nat) (v : Int) (M4 : Mm), 0 ≤ v → v ≤ 12 → 12 < (m : Int) + v → (∀ a, a ≠ 72 → a ≠ 73 → M4 a = M a) → (∀ j : Nat, M4 72 j = if (j : Int) < v then M 89 (130 * n + 0 + j) else M 72 j) → (∀ j : Nat, M4 73 j = if (j : Int) < v then M 89 (130 * n + 12 + j) else M 73 j) → OK (fX5_restore_L32 x1 k m c v M4) P := by
  intro m
  induction m with
  | zero => intro v M4 h0 h1 h2; omega
  | succ m ih =>
    intro v M4 h0 h1 h2 ho c0 c1
    unfold fX5_restore_L32
    refine ok_if (fun z => ?_) (fun z => ?_)
    · have ev : v = 12 := by omega
      subst ev
      exact hk M4 ho c0 c1
    · have z2 : v < 12 := by omega
      have i0 : (c + v).toNat = 130 * n + 0 + v.toNat := by omega
      have i1 : (c + 12 + v).toNat = 130 * n + 12 + v.toNat := by omega
      rw [i0, i1]
      refine ok_gd ⟨⟨by omega, by omega⟩, ⟨by omega, by omega⟩, by omega, by omega⟩ (ok_bnd (fun N0 e0 => ok_gd ⟨⟨by omega, by omega⟩, ⟨by omega, by omega⟩, ⟨by omega, by omega⟩, by omega, by omega⟩ (ok_bnd (fun N1 e1 => ok_gd ⟨by omega, by omega⟩ ?_))))
      have q89 : M4 89 = M 89 := ho 89 (by decide) (by decide)
      have b0 : N0 89 = M 89 := by rw [e0, up_row (by decide), q89]
      have o0 : ∀ a, a ≠ 72 → N0 a = M4 a := fun a ha => by rw [e0, up_row ha]
      have a0 : ∀ t, N0 72 t = if t = v.toNat then M 89 (130 * n + 0 + v.toNat) else M4 72 t := fun t => by rw [e0, up_at, q89]
      have b1 : N1 89 = M 89 := by rw [e1, up_row (by decide), b0]
      have o1 : ∀ a, a ≠ 73 → N1 a = N0 a := fun a ha => by rw [e1, up_row ha]
      have a1 : ∀ t, N1 73 t = if t = v.toNat then M 89 (130 * n + 12 + v.toNat) else N0 73 t := fun t => by rw [e1, up_at, b0]
      refine ih (v + 1) N1 (by omega) (by omega) (by omega) (fun a h5 h6 => by rw [o1 a h6, o0 a h5, ho a h5 h6]) (fun j => ?_) (fun j => ?_)
      · by_cases hjv : j = v.toNat
        · rw [hjv, o1 72 (by decide), a0, if_pos rfl, if_pos (by omega)]
        · rw [o1 72 (by decide), a0, if_neg hjv, c0]
          by_cases hj2 : (j : Int) < v
          · rw [if_pos hj2, if_pos (by omega)]
          · rw [if_neg hj2, if_neg (by omega)]
      · by_cases hjv : j = v.toNat
        · rw [hjv, a1, if_pos rfl, if_pos (by omega)]
        · rw [a1, if_neg hjv, o0 73 (by decide), c1]
          by_cases hj2 : (j : Int) < v
          · rw [if_pos hj2, if_pos (by omega)]
          · rw [if_neg hj2, if_neg (by omega)]
theorem r_L77 {n : Nat} (hn : n < 2) {c : Int} (hc : c = 130 * (n : Int)) (x1 : Int) (M : Mm) (k : Int → Mm → Option (Int × Mm)) (P : Int × Mm → Prop) (hk : ∀ M' : Mm, (∀ a, a ≠ 74 → a ≠ 75 → a ≠ 76 → M' a = M a) → (∀ j : Nat, M' 74 j = if (j : Int) < 20 then M 89 (130 * n + 24 + j) else M 74 j) → (∀ j : Nat, M' 75 j = if (j : Int) < 20 then M 89 (130 * n + 44 + j) else M 75 j) → (∀ j : Nat, M' 76 j = if (j : Int) < 20 then M 89 (130 * n + 64 + j) else M 76 j) → OK (k c M') P) : ∀ (m : Nat) (v : Int) (M4 : Mm), 0 ≤ v → v ≤ 20 → 20 < (m : Int) + v → (∀ a, a ≠ 74 → a ≠ 75 → a ≠ 76 → M4 a = M a) → (∀ j : Nat, M4 74 j = if (j : Int) < v then M 89 (130 * n + 24 + j) else M 74 j) → (∀ j : Nat, M4 75 j = if (j : Int) < v then M 89 (130 * n + 44 + j) else M 75 j) → (∀ j : Nat, M4 76 j = if (j : Int) < v then M 89 (130 * n + 64 + j) else M 76 j) → OK (fX5_restore_L77 x1 k m c v M4) P := by
  intro m
  induction m with
  | zero => intro v M4 h0 h1 h2; omega
  | succ m ih =>
    intro v M4 h0 h1 h2 ho c0 c1 c2
    unfold fX5_restore_L77
    refine ok_if (fun z => ?_) (fun z => ?_)
    · have ev : v = 20 := by omega
      subst ev
      exact hk M4 ho c0 c1 c2
    · have z2 : v < 20 := by omega
      have i0 : (c + 24 + v).toNat = 130 * n + 24 + v.toNat := by omega
      have i1 : (c + 44 + v).toNat = 130 * n + 44 + v.toNat := by omega
      have i2 : (c + 64 + v).toNat = 130 * n + 64 + v.toNat := by omega
      rw [i0, i1, i2]
      refine ok_gd ⟨⟨by omega, by omega⟩, ⟨by omega, by omega⟩, ⟨by omega, by omega⟩, by omega, by omega⟩ (ok_bnd (fun N0 e0 => ok_gd ⟨⟨by omega, by omega⟩, ⟨by omega, by omega⟩, ⟨by omega, by omega⟩, by omega, by omega⟩ (ok_bnd (fun N1 e1 => ok_gd ⟨⟨by omega, by omega⟩, ⟨by omega, by omega⟩, ⟨by omega, by omega⟩, by omega, by omega⟩ (ok_bnd (fun N2 e2 => ok_gd ⟨by omega, by omega⟩ ?_))))))
      have q89 : M4 89 = M 89 := ho 89 (by decide) (by decide) (by decide)
      have b0 : N0 89 = M 89 := by rw [e0, up_row (by decide), q89]
      have o0 : ∀ a, a ≠ 74 → N0 a = M4 a := fun a ha => by rw [e0, up_row ha]
      have a0 : ∀ t, N0 74 t = if t = v.toNat then M 89 (130 * n + 24 + v.toNat) else M4 74 t := fun t => by rw [e0, up_at, q89]
      have b1 : N1 89 = M 89 := by rw [e1, up_row (by decide), b0]
      have o1 : ∀ a, a ≠ 75 → N1 a = N0 a := fun a ha => by rw [e1, up_row ha]
      have a1 : ∀ t, N1 75 t = if t = v.toNat then M 89 (130 * n + 44 + v.toNat) else N0 75 t := fun t => by rw [e1, up_at, b0]
      have b2 : N2 89 = M 89 := by rw [e2, up_row (by decide), b1]
      have o2 : ∀ a, a ≠ 76 → N2 a = N1 a := fun a ha => by rw [e2, up_row ha]
      have a2 : ∀ t, N2 76 t = if t = v.toNat then M 89 (130 * n + 64 + v.toNat) else N1 76 t := fun t => by rw [e2, up_at, b1]
      refine ih (v + 1) N2 (by omega) (by omega) (by omega) (fun a h5 h6 h7 => by rw [o2 a h7, o1 a h6, o0 a h5, ho a h5 h6 h7]) (fun j => ?_) (fun j => ?_) (fun j => ?_)
      · by_cases hjv : j = v.toNat
        · rw [hjv, o2 74 (by decide), o1 74 (by decide), a0, if_pos rfl, if_pos (by omega)]
        · rw [o2 74 (by decide), o1 74 (by decide), a0, if_neg hjv, c0]
          by_cases hj2 : (j : Int) < v
          · rw [if_pos hj2, if_pos (by omega)]
          · rw [if_neg hj2, if_neg (by omega)]
      · by_cases hjv : j = v.toNat
        · rw [hjv, o2 75 (by decide), a1, if_pos rfl, if_pos (by omega)]
        · rw [o2 75 (by decide), a1, if_neg hjv, o0 75 (by decide), c1]
          by_cases hj2 : (j : Int) < v
          · rw [if_pos hj2, if_pos (by omega)]
          · rw [if_neg hj2, if_neg (by omega)]
      · by_cases hjv : j = v.toNat
        · rw [hjv, a2, if_pos rfl, if_pos (by omega)]
        · rw [a2, if_neg hjv, o1 76 (by decide), o0 76 (by decide), c2]
          by_cases hj2 : (j : Int) < v
          · rw [if_pos hj2, if_pos (by omega)]
          · rw [if_neg hj2, if_neg (by omega)]
theorem r_L142 {n : Nat} (hn : n < 2) {c : Int} (hc : c = 130 * (n : Int)) (x1 : Int) (M : Mm) (k : Int → Mm → Option (Int × Mm)) (P : Int × Mm → Prop) (hk : ∀ M' : Mm, (∀ a, a ≠ 78 → a ≠ 79 → M' a = M a) → (∀ j : Nat, M' 78 j = if (j : Int) < 16 then M 89 (130 * n + 84 + j) else M 78 j) → (∀ j : Nat, M' 79 j = if (j : Int) < 16 then M 89 (130 * n + 100 + j) else M 79 j) → OK (k c M') P) : ∀ (m : Nat) (v : Int) (M4 : Mm), 0 ≤ v → v ≤ 16 → 16 < (m : Int) + v → (∀ a, a ≠ 78 → a ≠ 79 → M4 a = M a) → (∀ j : Nat, M4 78 j = if (j : Int) < v then M 89 (130 * n + 84 + j) else M 78 j) → (∀ j : Nat, M4 79 j = if (j : Int) < v then M 89 (130 * n + 100 + j) else M 79 j) → OK (fX5_restore_L142 x1 k m c v M4) P := by
  intro m
  induction m with
  | zero => intro v M4 h0 h1 h2; omega
  | succ m ih =>
    intro v M4 h0 h1 h2 ho c0 c1
    unfold fX5_restore_L142
    refine ok_if (fun z => ?_) (fun z => ?_)
    · have ev : v = 16 := by omega
      subst ev
      exact hk M4 ho c0 c1
    · have z2 : v < 16 := by omega
      have i0 : (c + 84 + v).toNat = 130 * n + 84 + v.toNat := by omega
      have i1 : (c + 100 + v).toNat = 130 * n + 100 + v.toNat := by omega
      rw [i0, i1]
      refine ok_gd ⟨⟨by omega, by omega⟩, ⟨by omega, by omega⟩, ⟨by omega, by omega⟩, by omega, by omega⟩ (ok_bnd (fun N0 e0 => ok_gd ⟨⟨by omega, by omega⟩, ⟨by omega, by omega⟩, ⟨by omega, by omega⟩, by omega, by omega⟩ (ok_bnd (fun N1 e1 => ok_gd ⟨by omega, by omega⟩ ?_))))
      have q89 : M4 89 = M 89 := ho 89 (by decide) (by decide)
      have b0 : N0 89 = M 89 := by rw [e0, up_row (by decide), q89]
      have o0 : ∀ a, a ≠ 78 → N0 a = M4 a := fun a ha => by rw [e0, up_row ha]
      have a0 : ∀ t, N0 78 t = if t = v.toNat then M 89 (130 * n + 84 + v.toNat) else M4 78 t := fun t => by rw [e0, up_at, q89]
      have b1 : N1 89 = M 89 := by rw [e1, up_row (by decide), b0]
      have o1 : ∀ a, a ≠ 79 → N1 a = N0 a := fun a ha => by rw [e1, up_row ha]
      have a1 : ∀ t, N1 79 t = if t = v.toNat then M 89 (130 * n + 100 + v.toNat) else N0 79 t := fun t => by rw [e1, up_at, b0]
      refine ih (v + 1) N1 (by omega) (by omega) (by omega) (fun a h5 h6 => by rw [o1 a h6, o0 a h5, ho a h5 h6]) (fun j => ?_) (fun j => ?_)
      · by_cases hjv : j = v.toNat
        · rw [hjv, o1 78 (by decide), a0, if_pos rfl, if_pos (by omega)]
        · rw [o1 78 (by decide), a0, if_neg hjv, c0]
          by_cases hj2 : (j : Int) < v
          · rw [if_pos hj2, if_pos (by omega)]
          · rw [if_neg hj2, if_neg (by omega)]
      · by_cases hjv : j = v.toNat
        · rw [hjv, a1, if_pos rfl, if_pos (by omega)]
        · rw [a1, if_neg hjv, o0 79 (by decide), c1]
          by_cases hj2 : (j : Int) < v
          · rw [if_pos hj2, if_pos (by omega)]
          · rw [if_neg hj2, if_neg (by omega)]
theorem r_L190 {n : Nat} (hn : n < 2) {c : Int} (hc : c = 130 * (n : Int)) (x1 : Int) (M : Mm) (k : Int → Mm → Option (Int × Mm)) (P : Int × Mm → Prop) (hk : ∀ M' : Mm, (∀ a, a ≠ 77 → M' a = M a) → (∀ j : Nat, M' 77 j = if (j : Int) < 4 then M 89 (130 * n + 116 + j) else M 77 j) → OK (k c M') P) : ∀ (m : Nat) (v : Int) (M4 : Mm), 0 ≤ v → v ≤ 4 → 4 < (m : Int) + v → (∀ a, a ≠ 77 → M4 a = M a) → (∀ j : Nat, M4 77 j = if (j : Int) < v then M 89 (130 * n + 116 + j) else M 77 j) → OK (fX5_restore_L190 x1 k m c v M4) P := by
  intro m
  induction m with
  | zero => intro v M4 h0 h1 h2; omega
  | succ m ih =>
    intro v M4 h0 h1 h2 ho c0
    unfold fX5_restore_L190
    refine ok_if (fun z => ?_) (fun z => ?_)
    · have ev : v = 4 := by omega
      subst ev
      exact hk M4 ho c0
    · have z2 : v < 4 := by omega
      have i0 : (c + 116 + v).toNat = 130 * n + 116 + v.toNat := by omega
      rw [i0]
      refine ok_gd ⟨⟨by omega, by omega⟩, ⟨by omega, by omega⟩, ⟨by omega, by omega⟩, by omega, by omega⟩ (ok_bnd (fun N0 e0 => ok_gd ⟨by omega, by omega⟩ ?_))
      have q89 : M4 89 = M 89 := ho 89 (by decide)
      have b0 : N0 89 = M 89 := by rw [e0, up_row (by decide), q89]
      have o0 : ∀ a, a ≠ 77 → N0 a = M4 a := fun a ha => by rw [e0, up_row ha]
      have a0 : ∀ t, N0 77 t = if t = v.toNat then M 89 (130 * n + 116 + v.toNat) else M4 77 t := fun t => by rw [e0, up_at, q89]
      refine ih (v + 1) N0 (by omega) (by omega) (by omega) (fun a h5 => by rw [o0 a h5, ho a h5]) (fun j => ?_)
      · by_cases hjv : j = v.toNat
        · rw [hjv, a0, if_pos rfl, if_pos (by omega)]
        · rw [a0, if_neg hjv, c0]
          by_cases hj2 : (j : Int) < v
          · rw [if_pos hj2, if_pos (by omega)]
          · rw [if_neg hj2, if_neg (by omega)]
/-- what the reference keeps -/
theorem m_image {n : Nat} (hn : n < 2) {x : Int} (hx : x = (n : Int)) (M : Mm) (P : Int × Mm → Prop) (hk : ∀ M' : Mm, (∀ a, a ≠ 89 → a ≠ 90 → M' a = M a) → (∀ j, M' 90 j = if j = n then 1 else M 90 j) → (∀ t, (t < 130 * n ∨ 130 * n + 123 ≤ t) → M' 89 t = M 89 t) → (Zr M → dI n M' = mB M) → P (1, M')) : OK (fX5_image M x) P := by
  have tx : x.toNat = n := by omega
  unfold fX5_image
  have hc : 130 * x = 130 * (n : Int) := by omega
  refine ok_cal (k_in M x 0 1) (fun r1 h1 => ok_f (fun q => yes_f h1 q (by omega)) (ok_gd ⟨by omega, by omega⟩ ?_))
  generalize 130 * x = c at hc ⊢
  refine i_L20 hn hc _ M _ _ (fun M1 o1 a1 a2 f1 => ?_) 1000 0 M (by omega) (by omega) (by omega) (fun _ _ => rfl) (fun j hj => by omega) (fun j hj => by omega) (fun _ _ => rfl)
  refine i_L65 hn hc _ M1 _ _ (fun M2 o2 a3 a4 a5 f2 => ?_) 1000 0 M1 (by omega) (by omega) (by omega) (fun _ _ => rfl) (fun j hj => by omega) (fun j hj => by omega) (fun j hj => by omega) (fun _ _ => rfl)
  refine i_L130 hn hc _ M2 _ _ (fun M3 o3 a6 a7 f3 => ?_) 1000 0 M2 (by omega) (by omega) (by omega) (fun _ _ => rfl) (fun j hj => by omega) (fun j hj => by omega) (fun _ _ => rfl)
  refine i_L178 hn hc _ M3 _ _ (fun M4 o4 a8 f4 => ?_) 1000 0 M3 (by omega) (by omega) (by omega) (fun _ _ => rfl) (fun j hj => by omega) (fun _ _ => rfl)
  have p4 : ∀ a, a ≠ 89 → M4 a = M a := fun a ha => by rw [o4 a ha, o3 a ha, o2 a ha, o1 a ha]
  have i0 : (c + 120).toNat = 130 * n + 120 := by omega
  have i1 : (c + 121).toNat = 130 * n + 121 := by omega
  have i2 : (c + 122).toNat = 130 * n + 122 := by omega
  rw [i0, i1, i2, tx]
  refine ok_gd ⟨⟨by omega, by omega⟩, by omega, by omega⟩ (ok_bnd (fun N0 e0 => ok_gd ⟨⟨by omega, by omega⟩, by omega, by omega⟩ (ok_bnd (fun N1 e1 => ok_gd ⟨⟨by omega, by omega⟩, by omega, by omega⟩ (ok_bnd (fun N2 e2 => ok_gd ⟨by omega, Or.inr rfl⟩ (ok_bnd (fun N3 e3 => ok_some ?_))))))))
  have u0 : ∀ a, a ≠ 89 → N0 a = M a := fun a ha => by rw [e0, up_row ha, p4 a ha]
  have u1 : ∀ a, a ≠ 89 → N1 a = M a := fun a ha => by rw [e1, up_row ha, u0 a ha]
  have u2 : ∀ a, a ≠ 89 → N2 a = M a := fun a ha => by rw [e2, up_row ha, u1 a ha]
  have a9 : ∀ t, N0 89 t = if t = 130 * n + 120 then M 71 2 else M4 89 t := fun t => by rw [e0, up_at, p4 71 (by decide)]
  have a10 : ∀ t, N1 89 t = if t = 130 * n + 121 then M 71 6 else N0 89 t := fun t => by rw [e1, up_at, u0 71 (by decide)]
  have a11 : ∀ t, N2 89 t = if t = 130 * n + 122 then M 71 10 else N1 89 t := fun t => by rw [e2, up_at, u1 71 (by decide)]
  have w : ∀ t, N3 89 t = if t = 130 * n + 122 then M 71 10 else if t = 130 * n + 121 then M 71 6 else if t = 130 * n + 120 then M 71 2 else M4 89 t := fun t => by rw [e3, up_row (by decide), a11, a10, a9]
  have wo : ∀ t, (t < 130 * n + 120 ∨ 130 * n + 123 ≤ t) → N3 89 t = M4 89 t := fun t ht => by rw [w, if_neg (by omega), if_neg (by omega), if_neg (by omega)]
  refine hk N3 (fun a h1 h2 => by rw [e3, up_row h2, u2 a h1]) (fun j => by rw [e3, up_at, u2 90 (by decide)]) (fun t ht => by rw [wo t (by omega), f4 t (by omega), f3 t (by omega), f2 t (by omega), f1 t (by omega)]) (fun hZ => ?_)
  have r1 : cut 12 (fun j => N3 89 (130 * n + j)) = M 72 := by
    funext j
    unfold cut
    by_cases hj : j < 12
    · rw [if_pos hj]; dsimp only; rw [wo _ (by omega), f4 _ (by omega), f3 _ (by omega), f2 _ (by omega)]; exact a1 j (by omega)
    · rw [if_neg hj]; exact (((hZ j).1 (by omega)).1).symm
  have r2 : cut 12 (fun j => N3 89 (130 * n + 12 + j)) = M 73 := by
    funext j
    unfold cut
    by_cases hj : j < 12
    · rw [if_pos hj]; dsimp only; rw [wo _ (by omega), f4 _ (by omega), f3 _ (by omega), f2 _ (by omega)]; exact a2 j (by omega)
    · rw [if_neg hj]; exact (((hZ j).1 (by omega)).2).symm
  have r3 : cut 20 (fun j => N3 89 (130 * n + 24 + j)) = M 74 := by
    funext j
    unfold cut
    by_cases hj : j < 20
    · rw [if_pos hj]; dsimp only; rw [wo _ (by omega), f4 _ (by omega), f3 _ (by omega), a3 j (by omega), o1 74 (by decide)]
    · rw [if_neg hj]; exact (((hZ j).2.1 (by omega)).1).symm
  have r4 : cut 20 (fun j => N3 89 (130 * n + 44 + j)) = M 75 := by
    funext j
    unfold cut
    by_cases hj : j < 20
    · rw [if_pos hj]; dsimp only; rw [wo _ (by omega), f4 _ (by omega), f3 _ (by omega), a4 j (by omega), o1 75 (by decide)]
    · rw [if_neg hj]; exact (((hZ j).2.1 (by omega)).2.1).symm
  have r5 : cut 20 (fun j => N3 89 (130 * n + 64 + j)) = M 76 := by
    funext j
    unfold cut
    by_cases hj : j < 20
    · rw [if_pos hj]; dsimp only; rw [wo _ (by omega), f4 _ (by omega), f3 _ (by omega), a5 j (by omega), o1 76 (by decide)]
    · rw [if_neg hj]; exact (((hZ j).2.1 (by omega)).2.2).symm
  have r6 : cut 4 (fun j => N3 89 (130 * n + 116 + j)) = M 77 := by
    funext j
    unfold cut
    by_cases hj : j < 4
    · rw [if_pos hj]; dsimp only; rw [wo _ (by omega), a8 j (by omega), o3 77 (by decide), o2 77 (by decide), o1 77 (by decide)]
    · rw [if_neg hj]; exact ((hZ j).2.2.1 (by omega)).symm
  have r7 : cut 16 (fun j => N3 89 (130 * n + 84 + j)) = M 78 := by
    funext j
    unfold cut
    by_cases hj : j < 16
    · rw [if_pos hj]; dsimp only; rw [wo _ (by omega), f4 _ (by omega), a6 j (by omega), o2 78 (by decide), o1 78 (by decide)]
    · rw [if_neg hj]; exact (((hZ j).2.2.2 (by omega)).1).symm
  have r8 : cut 16 (fun j => N3 89 (130 * n + 100 + j)) = M 79 := by
    funext j
    unfold cut
    by_cases hj : j < 16
    · rw [if_pos hj]; dsimp only; rw [wo _ (by omega), f4 _ (by omega), a7 j (by omega), o2 79 (by decide), o1 79 (by decide)]
    · rw [if_neg hj]; exact (((hZ j).2.2.2 (by omega)).2).symm
  unfold dI
  rw [r1, r2, r3, r4, r5, r6, r7, r8, w, w, w, if_neg (by omega), if_neg (by omega), if_pos rfl, if_neg (by omega), if_pos rfl, if_pos rfl]
  rfl
/-- what the reference takes back -/
theorem m_restore {n : Nat} (hn : n < 2) {x : Int} (hx : x = (n : Int)) (M : Mm) (hZ : Zr M) (P : Int × Mm → Prop) (h0 : M 90 n = 0 → P (-3, M)) (hk : M 90 n ≠ 0 → ∀ M' : Mm, (∀ a, (a < 71 ∨ 79 < a) → M' a = M a) → mB M' = dI n M → Zr M' → P (1, M')) : OK (fX5_restore M x) P := by
  have tx : x.toNat = n := by omega
  have hc : 130 * x = 130 * (n : Int) := by omega
  unfold fX5_restore
  rw [tx]
  refine ok_cal (k_in M x 0 1) (fun r1 h1 => ok_f (fun q => yes_f h1 q (by omega)) (ok_gd (by omega) (ok_if (fun z => ok_some (h0 z)) (fun z => ok_gd ⟨by omega, by omega⟩ ?_))))
  generalize 130 * x = c at hc ⊢
  refine r_L32 hn hc _ M _ _ (fun M1 o1 a1 a2 => ?_) 1000 0 M (by omega) (by omega) (by omega) (fun _ _ _ => rfl) (fun j => by rw [if_neg (by omega)]) (fun j => by rw [if_neg (by omega)])
  refine r_L77 hn hc _ M1 _ _ (fun M2 o2 a3 a4 a5 => ?_) 1000 0 M1 (by omega) (by omega) (by omega) (fun _ _ _ _ => rfl) (fun j => by rw [if_neg (by omega)]) (fun j => by rw [if_neg (by omega)]) (fun j => by rw [if_neg (by omega)])
  refine r_L142 hn hc _ M2 _ _ (fun M3 o3 a6 a7 => ?_) 1000 0 M2 (by omega) (by omega) (by omega) (fun _ _ _ => rfl) (fun j => by rw [if_neg (by omega)]) (fun j => by rw [if_neg (by omega)])
  refine r_L190 hn hc _ M3 _ _ (fun M4 o4 a8 => ?_) 1000 0 M3 (by omega) (by omega) (by omega) (fun _ _ => rfl) (fun j => by rw [if_neg (by omega)])
  have s1 : M1 89 = M 89 := o1 89 (by decide) (by decide)
  have s2 : M2 89 = M 89 := by rw [o2 89 (by decide) (by decide) (by decide), s1]
  have s3 : M3 89 = M 89 := by rw [o3 89 (by decide) (by decide), s2]
  have s4 : M4 89 = M 89 := by rw [o4 89 (by decide), s3]
  have i0 : (c + 120).toNat = 130 * n + 120 := by omega
  have i1 : (c + 121).toNat = 130 * n + 121 := by omega
  have i2 : (c + 122).toNat = 130 * n + 122 := by omega
  rw [i0, i1, i2]
  refine ok_gd ⟨⟨by omega, by omega⟩, by omega, by omega⟩ (ok_bnd (fun N0 e0 => ok_gd ⟨⟨by omega, by omega⟩, by omega, by omega⟩ (ok_bnd (fun N1 e1 => ok_gd ⟨⟨by omega, by omega⟩, by omega, by omega⟩ (ok_bnd (fun N2 e2 => ok_some ?_))))))
  have u0 : ∀ a, a ≠ 71 → N0 a = M4 a := fun a ha => by rw [e0, up_row ha]
  have u1 : ∀ a, a ≠ 71 → N1 a = M4 a := fun a ha => by rw [e1, up_row ha, u0 a ha]
  have u2 : ∀ a, a ≠ 71 → N2 a = M4 a := fun a ha => by rw [e2, up_row ha, u1 a ha]
  have b1 : N2 71 10 = M 89 (130 * n + 122) := by rw [e2, up_eq, u1 89 (by decide), s4]
  have b2 : N2 71 6 = M 89 (130 * n + 121) := by rw [e2, up_ne (by decide), e1, up_eq, u0 89 (by decide), s4]
  have b3 : N2 71 2 = M 89 (130 * n + 120) := by rw [e2, up_ne (by decide), e1, up_ne (by decide), e0, up_eq, s4]
  have d72 : N2 72 = M1 72 := by rw [u2 72 (by decide), o4 72 (by decide), o3 72 (by decide) (by decide), o2 72 (by decide) (by decide) (by decide)]
  have d73 : N2 73 = M1 73 := by rw [u2 73 (by decide), o4 73 (by decide), o3 73 (by decide) (by decide), o2 73 (by decide) (by decide) (by decide)]
  have d74 : N2 74 = M2 74 := by rw [u2 74 (by decide), o4 74 (by decide), o3 74 (by decide) (by decide)]
  have d75 : N2 75 = M2 75 := by rw [u2 75 (by decide), o4 75 (by decide), o3 75 (by decide) (by decide)]
  have d76 : N2 76 = M2 76 := by rw [u2 76 (by decide), o4 76 (by decide), o3 76 (by decide) (by decide)]
  have d78 : N2 78 = M3 78 := by rw [u2 78 (by decide), o4 78 (by decide)]
  have d79 : N2 79 = M3 79 := by rw [u2 79 (by decide), o4 79 (by decide)]
  have d77 : N2 77 = M4 77 := u2 77 (by decide)
  have c72 : N2 72 = cut 12 (fun j => M 89 (130 * n + j)) := by
    funext j
    rw [d72, a1 j]; unfold cut
    by_cases hj : j < 12
    · rw [if_pos (by omega), if_pos hj]; rfl
    · rw [if_neg (by omega), if_neg hj]; exact ((hZ j).1 (by omega)).1
  have c73 : N2 73 = cut 12 (fun j => M 89 (130 * n + 12 + j)) := by
    funext j
    rw [d73, a2 j]; unfold cut
    by_cases hj : j < 12
    · rw [if_pos (by omega), if_pos hj]
    · rw [if_neg (by omega), if_neg hj]; exact ((hZ j).1 (by omega)).2
  have c74 : N2 74 = cut 20 (fun j => M 89 (130 * n + 24 + j)) := by
    funext j
    rw [d74, a3 j, s1, o1 74 (by decide) (by decide)]; unfold cut
    by_cases hj : j < 20
    · rw [if_pos (by omega), if_pos hj]
    · rw [if_neg (by omega), if_neg hj]; exact ((hZ j).2.1 (by omega)).1
  have c75 : N2 75 = cut 20 (fun j => M 89 (130 * n + 44 + j)) := by
    funext j
    rw [d75, a4 j, s1, o1 75 (by decide) (by decide)]; unfold cut
    by_cases hj : j < 20
    · rw [if_pos (by omega), if_pos hj]
    · rw [if_neg (by omega), if_neg hj]; exact ((hZ j).2.1 (by omega)).2.1
  have c76 : N2 76 = cut 20 (fun j => M 89 (130 * n + 64 + j)) := by
    funext j
    rw [d76, a5 j, s1, o1 76 (by decide) (by decide)]; unfold cut
    by_cases hj : j < 20
    · rw [if_pos (by omega), if_pos hj]
    · rw [if_neg (by omega), if_neg hj]; exact ((hZ j).2.1 (by omega)).2.2
  have c77 : N2 77 = cut 4 (fun j => M 89 (130 * n + 116 + j)) := by
    funext j
    rw [d77, a8 j, s3, o3 77 (by decide) (by decide), o2 77 (by decide) (by decide) (by decide), o1 77 (by decide) (by decide)]; unfold cut
    by_cases hj : j < 4
    · rw [if_pos (by omega), if_pos hj]
    · rw [if_neg (by omega), if_neg hj]; exact (hZ j).2.2.1 (by omega)
  have c78 : N2 78 = cut 16 (fun j => M 89 (130 * n + 84 + j)) := by
    funext j
    rw [d78, a6 j, s2, o2 78 (by decide) (by decide) (by decide), o1 78 (by decide) (by decide)]; unfold cut
    by_cases hj : j < 16
    · rw [if_pos (by omega), if_pos hj]
    · rw [if_neg (by omega), if_neg hj]; exact ((hZ j).2.2.2 (by omega)).1
  have c79 : N2 79 = cut 16 (fun j => M 89 (130 * n + 100 + j)) := by
    funext j
    rw [d79, a7 j, s2, o2 79 (by decide) (by decide) (by decide), o1 79 (by decide) (by decide)]; unfold cut
    by_cases hj : j < 16
    · rw [if_pos (by omega), if_pos hj]
    · rw [if_neg (by omega), if_neg hj]; exact ((hZ j).2.2.2 (by omega)).2
  refine hk z N2 (fun a ha => ?_) ?_ (fun j => ⟨fun hj => ⟨?_, ?_⟩, fun hj => ⟨?_, ?_, ?_⟩, fun hj => ?_, fun hj => ⟨?_, ?_⟩⟩)
  · rw [u2 a (by omega), o4 a (by omega), o3 a (by omega) (by omega), o2 a (by omega) (by omega) (by omega), o1 a (by omega) (by omega)]
  · show ((N2 71 2, N2 71 6, N2 71 10), N2 72, N2 73, N2 74, N2 75, N2 76, N2 77, N2 78, N2 79) = _
    rw [b1, b2, b3, c72, c73, c74, c75, c76, c77, c78, c79]
    rfl
  · rw [c72]; exact if_neg (by omega)
  · rw [c73]; exact if_neg (by omega)
  · rw [c74]; exact if_neg (by omega)
  · rw [c75]; exact if_neg (by omega)
  · rw [c76]; exact if_neg (by omega)
  · rw [c77]; exact if_neg (by omega)
  · rw [c78]; exact if_neg (by omega)
  · rw [c79]; exact if_neg (by omega)
theorem dI_frame {n : Nat} {M M' : Mm} (h : ∀ t, 130 * n ≤ t → t < 130 * n + 123 → M' 89 t = M 89 t) : dI n M' = dI n M := by
  have e : ∀ (m o : Nat), o + m ≤ 120 → cut m (fun j => M' 89 (130 * n + o + j)) = cut m (fun j => M 89 (130 * n + o + j)) := fun m o ho => by
    funext j
    unfold cut
    by_cases hj : j < m
    · rw [if_pos hj, if_pos hj]; exact h _ (by omega) (by omega)
    · rw [if_neg hj, if_neg hj]
  have e0 : cut 12 (fun j => M' 89 (130 * n + j)) = cut 12 (fun j => M 89 (130 * n + j)) := e 12 0 (by omega)
  unfold dI
  rw [e0, e 12 12 (by omega), e 20 24 (by omega), e 20 44 (by omega), e 20 64 (by omega), e 4 116 (by omega), e 16 84 (by omega), e 16 100 (by omega), h (130 * n + 120) (by omega) (by omega), h (130 * n + 121) (by omega) (by omega), h (130 * n + 122) (by omega) (by omega)]
theorem IM_frame2 {n b : Nat} {M M' : Mm} (h : ∀ a, b ≤ a → a ≤ b + 22 → M' a = M a) (h89 : ∀ t, 130 * n ≤ t → t < 130 * n + 123 → M' 89 t = M 89 t) (h90 : M' 90 n = M 90 n) (k : IM n b M) : IM n b M' := by
  have e : dI n M' = dI n M := dI_frame h89
  unfold IM at *
  rw [e, h90, h b (by omega) (by omega)]
  exact ⟨k.1, k.2.1, fun h1 => ⟨(k.2.2 h1).1, CL_frame (fun a a1 a2 => h a (by omega) a2) (k.2.2 h1).2⟩⟩
section IMC
variable {M : Mm}
theorem Zr_hi {M' : Mm} (h : ∀ a, 71 ≤ a → a ≤ 79 → M' a = M a) (hZ : Zr M) : Zr M' := by
  unfold Zr
  rw [h 72 (by decide) (by decide), h 73 (by decide) (by decide), h 74 (by decide) (by decide), h 75 (by decide) (by decide), h 76 (by decide) (by decide), h 77 (by decide) (by decide), h 78 (by decide) (by decide), h 79 (by decide) (by decide)]
  exact hZ
theorem mB_79 {M' : Mm} (h : ∀ a, 71 ≤ a → a ≤ 79 → M' a = M a) : mB M' = mB M := by
  unfold mB
  rw [h 71 (by decide) (by decide), h 72 (by decide) (by decide), h 73 (by decide) (by decide), h 74 (by decide) (by decide), h 75 (by decide) (by decide), h 76 (by decide) (by decide), h 77 (by decide) (by decide), h 78 (by decide) (by decide), h 79 (by decide) (by decide)]
/-- an image is kept: n at b, the other one n2 at c -/
theorem q_keep (hI : Inv M) {n n2 b c : Nat} {x : Int} (hn : n < 2) (hx : x = (n : Int)) (hnn : (n = 0 ∧ n2 = 1 ∧ b = 25 ∧ c = 48) ∨ (n = 1 ∧ n2 = 0 ∧ b = 48 ∧ c = 25)) (P : Int × Mm → Prop) (hP : ∀ M', Inv M' → P (1, M')) : OK (fX2_copyFrom b 2 M) (fun M1 => OK (fX5_image (up M1 b 3 1) x) P) := by
  obtain ⟨hW, hCL, hZ, i0, i1, hM⟩ := id hI
  refine ok_mono (k_copy (b := b) (b2 := 2) (by omega) hW hCL) (fun M1 h1 => ?_)
  obtain ⟨c1, c2⟩ := h1
  show OK (fX5_image (up M1 b 3 1) x) P
  have u : ∀ a, a ≠ b → up M1 b 3 1 a = M1 a := fun a ha => up_row ha
  have ub : up M1 b 3 1 b 3 = 1 := up_eq
  generalize up M1 b 3 1 = M2 at *
  have v : ∀ a, (a < b ∨ b + 22 < a) → M2 a = M a := fun a ha => by rw [u a (by omega), c1 a (by omega)]
  have eb2 : mB M2 = mB M := mB_79 (fun a a1 a2 => v a (by omega))
  have hZ2 : Zr M2 := Zr_hi (fun a a1 a2 => v a (by omega)) hZ
  refine m_image hn hx M2 P (fun M' o q f g => hP M' ?_)
  have w : ∀ a, (a < b ∨ b + 22 < a) → a ≠ 89 → a ≠ 90 → M' a = M a := fun a ha h1 h2 => by rw [o a h1 h2, v a ha]
  have eb : mB M' = mB M := mB_79 (fun a a1 a2 => w a (by omega) (by omega) (by omega))
  have ed : dI n M' = mB M := by rw [g hZ2, eb2]
  have this1 : IM n b M' := by
    have e9 : M' 90 n = 1 := by rw [q, if_pos rfl]
    refine ⟨Or.inr e9, ?_, fun _ => ?_⟩
    · rw [e9, o b (by omega) (by omega)]; exact ub
    · rw [ed]
      exact ⟨hW, CL_frame (fun a a1 a2 => by rw [o a (by omega) (by omega), u a (by omega)]) c2⟩
  have that : IM n2 c M → IM n2 c M' := fun k => IM_frame2 (fun a a1 a2 => w a (by omega) (by omega) (by omega)) (fun t t1 t2 => by rw [f t (by omega), v 89 (by omega)]) (by rw [q, if_neg (by omega), v 90 (by omega)]) k
  refine ⟨by rw [eb]; exact hW, by rw [eb]; exact CL_frame (fun a a1 a2 => w a (by omega) (by omega) (by omega)) hCL, Zr_hi (fun a a1 a2 => w a (by omega) (by omega) (by omega)) hZ, ?_, ?_, by rw [w 999 (by omega) (by omega) (by omega)]; exact hM⟩
  · rcases hnn with ⟨rfl, rfl, rfl, rfl⟩ | ⟨rfl, rfl, rfl, rfl⟩
    · exact this1
    · exact that i0
  · rcases hnn with ⟨rfl, rfl, rfl, rfl⟩ | ⟨rfl, rfl, rfl, rfl⟩
    · exact that i1
    · exact this1
theorem q_image (hI : Inv M) (x : Int) : OK (fX4_image M x) (fun p => OK (fX5_image p.2 x) (fun q => p.1 = q.1 ∧ Inv q.2)) := by
  have out : ¬ (0 ≤ x ∧ x ≤ 1) → OK (fX5_image M x) (fun q => (-2 : Int) = q.1 ∧ Inv q.2) := fun h9 => by
    unfold fX5_image
    exact ok_cal (k_in M x 0 1) (fun r1 h1 => ok_if (fun _ => ok_some ⟨rfl, hI⟩) (fun q => absurd (yes_t h1 q) h9))
  unfold fX4_image
  refine ok_if (fun z => ok_some (out (by omega))) (fun z => ok_if (fun z1 => ok_if (fun z2 => ?_) (fun z2 => ok_t (by omega) ?_)) (fun z1 => ok_some (out (by omega))))
  · exact ok_cal (q_keep hI (n := 0) (n2 := 1) (b := 25) (c := 48) (x := x) (by decide) (by omega) (by decide) (fun q => (1 : Int) = q.1 ∧ Inv q.2) (fun M' h => ⟨rfl, h⟩)) (fun M1 h1 => ok_t z2 (ok_bnd (fun M2 e2 => ok_some (by rw [e2]; exact h1))))
  · have e : x = 1 := by omega
    exact ok_cal (q_keep hI (n := 1) (n2 := 0) (b := 48) (c := 25) (x := x) (by decide) (by omega) (by decide) (fun q => (1 : Int) = q.1 ∧ Inv q.2) (fun M' h => ⟨rfl, h⟩)) (fun M1 h1 => ok_f z2 (ok_t e (ok_bnd (fun M2 e2 => ok_some (by rw [e2]; exact h1)))))
/-- an image is taken back -/
theorem q_back (hI : Inv M) {n b : Nat} {x : Int} (hn : n < 2) (hx : x = (n : Int)) (hnb : (n = 0 ∧ b = 25) ∨ (n = 1 ∧ b = 48)) (hk : M 90 n ≠ 0) : OK (fX2_copyFrom 2 b M) (fun M1 => OK (fX5_restore M1 x) (fun q => (1 : Int) = q.1 ∧ Inv q.2)) := by
  obtain ⟨hW, hCL, hZ, i0, i1, hM⟩ := id hI
  have hi : IM n b M := by
    rcases hnb with ⟨rfl, rfl⟩ | ⟨rfl, rfl⟩
    · exact i0
    · exact i1
  obtain ⟨j1, -, j2⟩ := hi
  obtain ⟨dW, dC⟩ := j2 (by omega)
  refine ok_mono (k_copy (b := 2) (b2 := b) (by omega) dW dC) (fun M1 h1 => ?_)
  obtain ⟨c1, c2⟩ := h1
  have hZ1 : Zr M1 := Zr_hi (fun a a1 a2 => c1 a (by omega)) hZ
  have ed : dI n M1 = dI n M := dI_frame (fun t _ _ => by rw [c1 89 (by omega)])
  refine m_restore hn hx M1 hZ1 _ (fun h9 => absurd (by rw [c1 90 (by omega)] at h9; exact h9) hk) (fun _ M' o e z => ⟨rfl, ?_⟩)
  rw [ed] at e
  refine Inv_mk (M' := M') hI (fun a ha => by rw [o a (by omega), c1 a (by omega)]) (by rw [e]; exact dW) ?_ z
  rw [e]
  exact CL_frame (fun a a1 a2 => o a (by omega)) c2
theorem q_restore (hI : Inv M) (x : Int) : OK (fX4_restore M x) (fun p => OK (fX5_restore p.2 x) (fun q => p.1 = q.1 ∧ Inv q.2)) := by
  obtain ⟨hW, hCL, hZ, i0, i1, hM⟩ := id hI
  have out : ¬ (0 ≤ x ∧ x ≤ 1) → OK (fX5_restore M x) (fun q => (-2 : Int) = q.1 ∧ Inv q.2) := fun h9 => by
    unfold fX5_restore
    exact ok_cal (k_in M x 0 1) (fun r1 h1 => ok_if (fun _ => ok_some ⟨rfl, hI⟩) (fun q => absurd (yes_t h1 q) h9))
  unfold fX4_restore
  refine ok_if (fun z => ok_some (out (by omega))) (fun z => ok_if (fun z1 => ok_if (fun z2 => ?_) (fun z2 => ok_t (by omega) ?_)) (fun z1 => ok_some (out (by omega))))
  · have e3 : M 25 3 = M 90 0 := i0.2.1
    rw [e3]
    refine ok_if (fun z3 => ok_some (m_restore (n := 0) (x := x) (by decide) (by omega) M hZ _ (fun _ => ⟨rfl, hI⟩) (fun h => absurd z3 h))) (fun z3 => ok_t z2 (ok_cal (q_back hI (n := 0) (b := 25) (x := x) (by decide) (by omega) (by decide) z3) (fun M1 h1 => ok_some h1)))
  · have e : x = 1 := by omega
    have e3 : M 48 3 = M 90 1 := i1.2.1
    rw [e3]
    refine ok_if (fun z3 => ok_some (m_restore (n := 1) (x := x) (by decide) (by omega) M hZ _ (fun _ => ⟨rfl, hI⟩) (fun h => absurd z3 h))) (fun z3 => ok_f z2 (ok_t e (ok_cal (q_back hI (n := 1) (b := 48) (x := x) (by decide) (by omega) (by decide) z3) (fun M1 h1 => ok_some h1))))
end IMC
