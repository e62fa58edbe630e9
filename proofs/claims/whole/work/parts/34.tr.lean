/-! what the tables of fixes hold -/
def lng (pc : Nat → Int) : Nat → Int
  | 0 => -6
  | f + 1 => if pc f = -6 then lng pc f else (f : Int)
theorem lng_spec (pc : Nat → Int) : ∀ f : Nat, (lng pc f = -6 ∧ ∀ h, h < f → pc h = -6) ∨ ∃ g : Nat, g < f ∧ lng pc f = (g : Int) ∧ pc g ≠ -6 ∧ ∀ h, g < h → h < f → pc h = -6
  | 0 => Or.inl ⟨rfl, fun h hh => by omega⟩
  | f + 1 => by
    have ih := lng_spec pc f
    by_cases h : pc f = -6
    · have e : lng pc (f + 1) = lng pc f := by conv => { lhs; unfold lng }; rw [if_pos h]
      rw [e]
      rcases ih with ⟨a, b⟩ | ⟨g, a, b, c, e2⟩
      · refine Or.inl ⟨a, fun x hx => ?_⟩
        by_cases hxf : x = f
        · rw [hxf]; exact h
        · exact b x (by omega)
      · refine Or.inr ⟨g, by omega, b, c, fun x h1 h2 => ?_⟩
        by_cases hxf : x = f
        · rw [hxf]; exact h
        · exact e2 x h1 (by omega)
    · have e : lng pc (f + 1) = f := by conv => { lhs; unfold lng }; rw [if_neg h]
      exact Or.inr ⟨f, by omega, e, h, fun x h1 h2 => by omega⟩
theorem lng_congr {pc pc' : Nat → Int} : ∀ f : Nat, (∀ h, h < f → pc' h = pc h) → lng pc' f = lng pc f
  | 0, _ => rfl
  | f + 1, h => by
    unfold lng
    rw [h f (by omega), lng_congr f (fun x hx => h x (by omega))]
def stF (d : Dt) (f g : Nat) : Int := iabs (fx d f - fx d g) + iabs (fy d f - fy d g)
def jrT (d : Dt) (G : Nat → Nat → Int) (cn sp co : Nat → Int) (f g k : Nat) : Int × Int := jcs d G sp co g (sp (20 * f + k)) (stF d f g) (cn g).toNat
def TB (d : Dt) (cn ap co bk : Nat → Int) (f : Nat) : Prop := ∀ k : Nat, (k : Int) < cn f → co (20 * f + k) = ru d 1 * ap (20 * f + k) ∧ bk (20 * f + k) = -6
def TJ (d : Dt) (G : Nat → Nat → Int) (cn sp ap co bk : Nat → Int) (f g : Nat) : Prop := ∀ k : Nat, (k : Int) < cn f → co (20 * f + k) = jco d (jrT d G cn sp co f g k) (ap (20 * f + k)) ∧ bk (20 * f + k) = (jrT d G cn sp co f g k).2
def TR1 (d : Dt) (G : Nat → Nat → Int) (cn pc bf sp ap co bk : Nat → Int) (f : Nat) : Prop := CD d f cn sp ap ∧ ((cn f = 0 ∧ pc f = -6) ∨ (cn f ≠ 0 ∧ lng pc f = -6 ∧ pc f = 0 ∧ bf f = -6 ∧ TB d cn ap co bk f) ∨ (cn f ≠ 0 ∧ ∃ g : Nat, g < f ∧ lng pc f = (g : Int) ∧ (∃ k : Nat, (k : Int) < cn f ∧ (jrT d G cn sp co f g k).1 ≠ -6) ∧ pc f = pc g ∧ bf f = (g : Int) ∧ TJ d G cn sp ap co bk f g) ∨ (cn f ≠ 0 ∧ ∃ g : Nat, g < f ∧ lng pc f = (g : Int) ∧ (∀ k : Nat, (k : Int) < cn f → (jrT d G cn sp co f g k).1 = -6) ∧ pc f = pc g + 1 ∧ bf f = -6 ∧ TB d cn ap co bk f))
def TR (d : Dt) (G : Nat → Nat → Int) (cn pc bf sp ap co bk : Nat → Int) (n : Int) : Prop := ∀ f : Nat, (f : Int) < n → TR1 d G cn pc bf sp ap co bk f
theorem jcs_d {d d' : Dt} {G : Nat → Nat → Int} {sp co : Nat → Int} {g : Nat} {s st : Int} (h1 : ru d' = ru d) (h2 : wy d' = wy d) : ∀ n : Nat, jcs d' G sp co g s st n = jcs d G sp co g s st n
  | 0 => rfl
  | n + 1 => by
    unfold jcs sj
    rw [jcs_d h1 h2 n, h1, h2]
/-- a net that is the same -/
def sameN (d d' : Dt) : Prop := nR d' = nR d ∧ ru d' = ru d ∧ apR d' = apR d ∧ ofR d' = ofR d ∧ wy d' = wy d
theorem TR1_congr {d d' : Dt} {G : Nat → Nat → Int} {cn pc bf sp ap co bk cn' pc' bf' sp' ap' co' bk' : Nat → Int} {f : Nat} (hd : sameN d d') (hx : ∀ i, i ≤ f → fx d' i = fx d i ∧ fy d' i = fy d i) (hc : ∀ i, i ≤ f → cn' i = cn i ∧ pc' i = pc i ∧ cn i ≤ 20) (hbf : cn f ≠ 0 → bf' f = bf f) (ht : ∀ i k, i ≤ f → k < 20 → sp' (20 * i + k) = sp (20 * i + k) ∧ ap' (20 * i + k) = ap (20 * i + k) ∧ co' (20 * i + k) = co (20 * i + k) ∧ bk' (20 * i + k) = bk (20 * i + k)) (h : TR1 d G cn pc bf sp ap co bk f) : TR1 d' G cn' pc' bf' sp' ap' co' bk' f := by
  obtain ⟨d1, d2, d3, d4, d5⟩ := hd
  obtain ⟨c1, c2, c3⟩ := hc f (Nat.le_refl f)
  have el : lng pc' f = lng pc f := lng_congr f (fun i hi => (hc i (by omega)).2.1)
  have ej : ∀ g k : Nat, g < f → (k : Int) < cn f → jrT d' G cn' sp' co' f g k = jrT d G cn sp co f g k := by
    intro g k hg hk
    obtain ⟨g1, g2, g3⟩ := hc g (by omega)
    unfold jrT stF
    rw [jcs_d d2 d5, (hx f (Nat.le_refl f)).1, (hx f (Nat.le_refl f)).2, (hx g (by omega)).1, (hx g (by omega)).2, g1, (ht f k (Nat.le_refl f) (by omega)).1]
    exact jcs_congr _ (fun i hi => ⟨(ht g i (by omega) (by omega)).2.2.1, Or.inr (by rw [(ht g i (by omega) (by omega)).1])⟩)
  have eB : TB d cn ap co bk f → TB d' cn' ap' co' bk' f := by
    intro hB k hk
    rw [c1] at hk
    obtain ⟨-, t2, t3, t4⟩ := ht f k (Nat.le_refl f) (by omega)
    rw [t2, t3, t4, d2]
    exact hB k hk
  refine ⟨CD_congr ⟨d1, d2, d3, d4, hx f (Nat.le_refl f)⟩ c3 c1 (fun k hk => ⟨(ht f k (Nat.le_refl f) hk).1, (ht f k (Nat.le_refl f) hk).2.1⟩) h.1, ?_⟩
  rw [c1, c2, el]
  rcases h.2 with ⟨a, b⟩ | ⟨a, b, c, e, g⟩ | ⟨a, g, b, c, e, i, j, l⟩ | ⟨a, g, b, c, e, i, j, l⟩
  · exact Or.inl ⟨a, b⟩
  · exact Or.inr (Or.inl ⟨a, b, c, by rw [hbf a]; exact e, eB g⟩)
  · have hg := hc g (by omega)
    refine Or.inr (Or.inr (Or.inl ⟨a, g, b, c, ?_, by rw [hg.2.1]; exact i, by rw [hbf a]; exact j, fun k hk => ?_⟩))
    · obtain ⟨k, k1, k2⟩ := e
      exact ⟨k, k1, by rw [ej g k b k1]; exact k2⟩
    · rw [c1] at hk
      obtain ⟨-, t2, t3, t4⟩ := ht f k (Nat.le_refl f) (by omega)
      rw [ej g k b hk, t2, t3, t4]
      have := l k hk
      unfold jco at this ⊢
      rw [d2]
      exact this
  · have hg := hc g (by omega)
    refine Or.inr (Or.inr (Or.inr ⟨a, g, b, c, fun k hk => ?_, by rw [hg.2.1]; exact i, by rw [hbf a]; exact j, eB l⟩))
    rw [ej g k b hk]; exact e k hk
section TRF
variable {d : Dt} {G : Nat → Nat → Int} {cn pc bf sp ap co bk : Nat → Int} {n : Int}
theorem TR_cn (hN : WN d) (h : TR d G cn pc bf sp ap co bk n) {f : Nat} (hf : (f : Int) < n) : 0 ≤ cn f ∧ cn f ≤ 20 := CD_n hN (h f hf).1
theorem TR_pc (h : TR d G cn pc bf sp ap co bk n) : ∀ (m f : Nat), f < m → (f : Int) < n → (cn f = 0 ∧ pc f = -6) ∨ (cn f ≠ 0 ∧ 0 ≤ pc f ∧ pc f ≤ f)
  | 0, f, h1, _ => by omega
  | m + 1, f, h1, hf => by
    have ih := TR_pc h m
    rcases (h f hf).2 with ⟨a, b⟩ | ⟨a, b, c, e, g⟩ | ⟨a, g, b, c, e, i, j, l⟩ | ⟨a, g, b, c, e, i, j, l⟩
    · exact Or.inl ⟨a, b⟩
    · exact Or.inr ⟨a, by omega, by omega⟩
    · have hg := ih g (by omega) (by omega)
      rcases lng_spec pc f with ⟨q, -⟩ | ⟨g2, -, q2, q3, -⟩
      · omega
      · have e2 : g2 = g := by omega
        rw [e2] at q3
        refine Or.inr ⟨a, ?_, ?_⟩ <;> omega
    · have hg := ih g (by omega) (by omega)
      rcases lng_spec pc f with ⟨q, -⟩ | ⟨g2, -, q2, q3, -⟩
      · omega
      · have e2 : g2 = g := by omega
        rw [e2] at q3
        refine Or.inr ⟨a, ?_, ?_⟩ <;> omega
theorem TR_pcf (h : TR d G cn pc bf sp ap co bk n) {f : Nat} (hf : (f : Int) < n) : (cn f = 0 ∧ pc f = -6) ∨ (cn f ≠ 0 ∧ 0 ≤ pc f ∧ pc f ≤ f) := TR_pc h (f + 1) f (by omega) hf
/-- the straight distance of two fixes -/
theorem stF_b (hW : WF d) {f g : Nat} (hf : (f : Int) < nF d) (hg : (g : Int) < nF d) : 0 ≤ stF d f g ∧ stF d f g ≤ 126 := by
  have a := hW.2 f hf
  have b := hW.2 g hg
  unfold stF iabs
  split <;> split <;> omega
theorem TR_co (hN : WN d) (hR : WRu d) (hW : WF d) (hG : DM (nC d) (eg d) G) (h : TR d G cn pc bf sp ap co bk n) (hn : n ≤ nF d) : ∀ (m f : Nat), f < m → (f : Int) < n → ∀ k : Nat, (k : Int) < cn f → okC (1206 * ((f : Int) + 1)) (co (20 * f + k))
  | 0, f, h1, _ => by omega
  | m + 1, f, h1, hf => by
    have ih := TR_co hN hR hW hG h hn m
    intro k hk
    obtain ⟨r, -, -, -, -, -, hs, ha⟩ := CD_k hN hR (h f hf).1 hk
    have hB : TB d cn ap co bk f → okC (1206 * ((f : Int) + 1)) (co (20 * f + k)) := by
      intro hb
      have mb := mul_b hR.2.1 ha
      rw [(hb k hk).1]
      exact Or.inr ⟨by omega, by omega⟩
    rcases (h f hf).2 with ⟨a, b⟩ | ⟨a, b, c, e, g⟩ | ⟨a, g, b, c, e, i, j, l⟩ | ⟨a, g, b, c, e, i, j, l⟩
    · omega
    · exact hB g
    · have hg := ih g (by omega) (by omega)
      have cg := TR_cn hN h (f := g) (by omega)
      have st := stF_b hW (f := f) (g := g) (by omega) (by omega)
      have jb := jcs_b hN hR hG (sp := sp) (co := co) (g := g) (s := sp (20 * f + k)) (st := stF d f g) (B := 1206 * ((g : Int) + 1)) hs st (cn g).toNat (fun i hi => by
        obtain ⟨-, -, -, -, -, -, hs2, -⟩ := CD_k hN hR (h g (by omega)).1 (k := i) (by omega)
        exact ⟨hs2, hg i (by omega)⟩)
      have cb := jco_b hR (p := jrT d G cn sp co f g k) (a := ap (20 * f + k)) (B := 1206 * ((g : Int) + 1) + 1134) ha (by
        unfold jrT
        rcases jb with e | e
        · rw [e]; exact Or.inl rfl
        · exact Or.inr e.1)
      rw [(l k hk).1]
      unfold okC
      omega
    · exact hB l
theorem TR_cof (hN : WN d) (hR : WRu d) (hW : WF d) (hG : DM (nC d) (eg d) G) (h : TR d G cn pc bf sp ap co bk n) (hn : n ≤ nF d) {f : Nat} (hf : (f : Int) < n) {k : Nat} (hk : (k : Int) < cn f) : okC 19296 (co (20 * f + k)) := by
  have h1 := TR_co hN hR hW hG h hn (f + 1) f (by omega) hf k hk
  have h2 := hW.1
  unfold okC at *
  omega
end TRF
theorem TR_uniq {d : Dt} (hN : WN d) (hR : WRu d) {G : Nat → Nat → Int} {cn pc bf sp ap co bk cn' pc' bf' sp' ap' co' bk' : Nat → Int} {n : Int} (h : TR d G cn pc bf sp ap co bk n) (h' : TR d G cn' pc' bf' sp' ap' co' bk' n) : ∀ (m f : Nat), f < m → (f : Int) < n → cn' f = cn f ∧ pc' f = pc f ∧ (cn f ≠ 0 → bf' f = bf f) ∧ ∀ k : Nat, (k : Int) < cn f → sp' (20 * f + k) = sp (20 * f + k) ∧ ap' (20 * f + k) = ap (20 * f + k) ∧ co' (20 * f + k) = co (20 * f + k) ∧ bk' (20 * f + k) = bk (20 * f + k)
  | 0, f, h1, _ => by omega
  | m + 1, f, h1, hf => by
    have ih := TR_uniq hN hR h h' m
    obtain ⟨c1, c2⟩ := CD_uniq hN hR (h f hf).1 (h' f hf).1
    have el : lng pc' f = lng pc f := lng_congr f (fun i hi => (ih i (by omega) (by omega)).2.1)
    have ej : ∀ g k : Nat, g < f → (k : Int) < cn f → jrT d G cn' sp' co' f g k = jrT d G cn sp co f g k := by
      intro g k hg hk
      obtain ⟨g1, g2, g3, g4⟩ := ih g (by omega) (by omega)
      unfold jrT
      rw [g1, ← (c2 k hk).1]
      exact jcs_congr _ (fun i hi => ⟨(g4 i (by omega)).2.2.1, Or.inr (by rw [(g4 i (by omega)).1])⟩)
    have spap : ∀ k : Nat, (k : Int) < cn f → sp' (20 * f + k) = sp (20 * f + k) ∧ ap' (20 * f + k) = ap (20 * f + k) := fun k hk => ⟨(c2 k hk).1.symm, (c2 k hk).2.symm⟩
    have hB : TB d cn ap co bk f → TB d cn' ap' co' bk' f → ∀ k : Nat, (k : Int) < cn f → sp' (20 * f + k) = sp (20 * f + k) ∧ ap' (20 * f + k) = ap (20 * f + k) ∧ co' (20 * f + k) = co (20 * f + k) ∧ bk' (20 * f + k) = bk (20 * f + k) := by
      intro b1 b2 k hk
      have q1 := b1 k hk
      have q2 := b2 k (by rw [← c1]; exact hk)
      exact ⟨(spap k hk).1, (spap k hk).2, by rw [q1.1, q2.1, (spap k hk).2], by rw [q1.2, q2.2]⟩
    rcases (h f hf).2 with ⟨a, b⟩ | ⟨a, b, c, e, g⟩ | ⟨a, g, b, c, e, i, j, l⟩ | ⟨a, g, b, c, e, i, j, l⟩ <;>
      rcases (h' f hf).2 with ⟨a', b'⟩ | ⟨a', b', c', e', g'⟩ | ⟨a', g', b', c', e', i', j', l'⟩ | ⟨a', g', b', c', e', i', j', l'⟩ <;> rw [← c1] at a' <;> (try (exact absurd a a')) <;> (try (exact absurd a' a)) <;> (try rw [el] at b') <;> (try rw [el] at c') <;> (try omega)
    · exact ⟨c1.symm, by omega, fun h9 => absurd a h9, fun k hk => by omega⟩
    · exact ⟨c1.symm, by omega, fun _ => by omega, hB g g'⟩
    · have eg : g' = g := by omega
      subst eg
      have pg := (ih g' (by omega) (by omega)).2.1
      refine ⟨c1.symm, by rw [i, i', pg], fun _ => by omega, fun k hk => ?_⟩
      have q1 := l k hk
      have q2 := l' k (by rw [← c1]; exact hk)
      rw [ej g' k b hk] at q2
      exact ⟨(spap k hk).1, (spap k hk).2, by rw [q1.1, q2.1, (spap k hk).2], by rw [q1.2, q2.2]⟩
    · have eg : g' = g := by omega
      subst eg
      obtain ⟨k, k1, k2⟩ := e
      exact absurd (e' k (by rw [← c1]; exact k1)) (by rw [ej g' k b k1]; exact k2)
    · have eg : g' = g := by omega
      subst eg
      obtain ⟨k, k1, k2⟩ := e'
      rw [← c1] at k1
      rw [ej g' k b k1] at k2
      exact absurd (e k k1) k2
    · have eg : g' = g := by omega
      subst eg
      have pg := (ih g' (by omega) (by omega)).2.1
      exact ⟨c1.symm, by rw [i, i', pg], fun _ => by omega, hB l l'⟩
