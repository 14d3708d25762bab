/-! the smallest number of changes, by mappings -/
abbrev IF : Type := Int × (Int → Int)
def okF (F : IF) : Prop := ∀ k, 0 ≤ k → k < F.1 → k < F.2 k ∧ F.2 k ≤ F.1 ∧ ∀ k', k ≤ k' → k' < F.2 k → F.2 k' ≤ F.2 k
def an (F : IF) (a b : Int) : Prop := a ≤ b ∧ b < F.2 a
def lf (F : IF) (a b : Int) : Prop := F.2 a ≤ b
def RR (F0 F1 : IF) (p q : Int × Int) : Prop := (p.1 ≠ q.1 ∧ p.2 ≠ q.2) ∧ (an F0 p.1 q.1 ↔ an F1 p.2 q.2) ∧ (an F0 q.1 p.1 ↔ an F1 q.2 p.2) ∧ (lf F0 p.1 q.1 ↔ lf F1 p.2 q.2) ∧ (lf F0 q.1 p.1 ↔ lf F1 q.2 p.2)
theorem RR.sy {F0 F1 : IF} {p q : Int × Int} (h : RR F0 F1 p q) : RR F0 F1 q p := ⟨⟨fun z => h.1.1 z.symm, fun z => h.1.2 z.symm⟩, h.2.2.1, h.2.1, h.2.2.2.2, h.2.2.2.1⟩
def gn (w : Int → Int → Int) : List (Int × Int) → Int
  | [] => 0
  | p :: L => w p.1 p.2 + gn w L
theorem gn_app (w : Int → Int → Int) : ∀ (L M : List (Int × Int)), gn w (L ++ M) = gn w L + gn w M
  | [], M => by show gn w M = 0 + gn w M; omega
  | p :: L, M => by
    show w p.1 p.2 + gn w (L ++ M) = w p.1 p.2 + gn w L + gn w M
    rw [gn_app w L M]; omega
theorem gn_fil (w : Int → Int → Int) (f : Int × Int → Bool) : ∀ (L : List (Int × Int)), gn w L = gn w (L.filter f) + gn w (L.filter (fun p => !f p))
  | [] => rfl
  | p :: L => by
    have ih := gn_fil w f L
    cases hf : f p
    · rw [List.filter_cons_of_neg (by rw [hf]; decide), List.filter_cons_of_pos (by show (!f p) = true; rw [hf]; rfl)]
      show w p.1 p.2 + gn w L = _ + (w p.1 p.2 + _)
      omega
    · rw [List.filter_cons_of_pos hf, List.filter_cons_of_neg (by show ¬ (!f p) = true; rw [hf]; decide)]
      show w p.1 p.2 + gn w L = (w p.1 p.2 + _) + _
      omega
def inB (i j e e' : Int) (L : List (Int × Int)) : Prop := ∀ p ∈ L, (i ≤ p.1 ∧ p.1 < e) ∧ (j ≤ p.2 ∧ p.2 < e')
def isG (F0 F1 : IF) (w : Int → Int → Int) (i j e e' v : Int) : Prop := (∃ L, L.Pairwise (RR F0 F1) ∧ inB i j e e' L ∧ gn w L = v) ∧ ∀ L, L.Pairwise (RR F0 F1) → inB i j e e' L → gn w L ≤ v
theorem isG_uniq {F0 F1 : IF} {w : Int → Int → Int} {i j e e' v v' : Int} (h : isG F0 F1 w i j e e' v) (h' : isG F0 F1 w i j e e' v') : v = v' := by
  obtain ⟨⟨L, a, b, c⟩, d⟩ := h
  obtain ⟨⟨L', a', b', c'⟩, d'⟩ := h'
  have := d L' a' b'
  have := d' L a b
  omega
theorem isG_nn {F0 F1 : IF} {w : Int → Int → Int} {i j e e' v : Int} (h : isG F0 F1 w i j e e' v) : 0 ≤ v := h.2 [] List.Pairwise.nil (fun p hp => nomatch hp)
theorem isG_base {F0 F1 : IF} {w : Int → Int → Int} {i j e e' : Int} (h : e ≤ i ∨ e' ≤ j) : isG F0 F1 w i j e e' 0 := by
  refine ⟨⟨[], List.Pairwise.nil, fun p hp => (nomatch hp), rfl⟩, fun L hL hB => ?_⟩
  cases L with
  | nil => exact Int.le_refl _
  | cons p L => have := hB p (List.mem_cons_self ..); omega
/-- both first nodes are paired: with each other -/
theorem pair_first {F0 F1 : IF} {i j e e' : Int} {L : List (Int × Int)} (hF1 : okF F1) (j0 : 0 ≤ j) (he' : e' ≤ F1.1) (hL : L.Pairwise (RR F0 F1)) (hB : inB i j e e' L) {p q : Int × Int} (hp : p ∈ L) (hq : q ∈ L) (h1 : p.1 = i) (h2 : q.2 = j) : p = (i, j) := by
  have bp := hB p hp
  have bq := hB q hq
  by_cases e1 : q.1 = i
  · -- the same node of tree 0
    by_cases e2 : p = q
    · rw [e2]; exact Prod.ext e1 h2
    · exfalso
      have : ∀ (L : List (Int × Int)), L.Pairwise (RR F0 F1) → p ∈ L → q ∈ L → RR F0 F1 p q := by
        intro L
        induction L with
        | nil => intro _ hp; exact nomatch hp
        | cons r L ih =>
          intro hL hp hq
          rw [List.pairwise_cons] at hL
          rcases List.mem_cons.1 hp with y | y
          · rcases List.mem_cons.1 hq with z | z
            · exact absurd (y.trans z.symm) e2
            · rw [y]; exact hL.1 q z
          · rcases List.mem_cons.1 hq with z | z
            · rw [z]; exact (hL.1 p y).sy
            · exact ih hL.2 y z
      exact (this L hL hp hq).1.1 (h1.trans e1.symm)
  · exfalso
    have hne : p ≠ q := fun z => e1 (by rw [← z]; exact h1)
    have : ∀ (L : List (Int × Int)), L.Pairwise (RR F0 F1) → p ∈ L → q ∈ L → RR F0 F1 p q := by
      intro L
      induction L with
      | nil => intro _ hp; exact nomatch hp
      | cons r L ih =>
        intro hL hp hq
        rw [List.pairwise_cons] at hL
        rcases List.mem_cons.1 hp with y | y
        · rcases List.mem_cons.1 hq with z | z
          · exact absurd (y.trans z.symm) hne
          · rw [y]; exact hL.1 q z
        · rcases List.mem_cons.1 hq with z | z
          · rw [z]; exact (hL.1 p y).sy
          · exact ih hL.2 y z
    have r := this L hL hp hq
    have py := hF1 p.2 (by omega) (by omega)
    by_cases c : q.1 < F0.2 i
    · have := (r.2.1).1 ⟨by omega, by rw [h1]; exact c⟩
      unfold an at this
      have := r.1.2
      omega
    · have := (r.2.2.2.1).1 (by unfold lf; rw [h1]; omega)
      unfold lf at this
      omega
theorem isG_tree {F0 F1 : IF} {w : Int → Int → Int} {i j e e' g1 g2 g4 v : Int} (hF0 : okF F0) (hF1 : okF F1) (i0 : 0 ≤ i) (j0 : 0 ≤ j) (i1 : i < e) (j1 : j < e') (he : F0.2 i = e) (he' : F1.2 j = e') (hn : e ≤ F0.1) (hn' : e' ≤ F1.1) (h1 : isG F0 F1 w (i + 1) j e e' g1) (h2 : isG F0 F1 w i (j + 1) e e' g2) (h4 : isG F0 F1 w (i + 1) (j + 1) e e' g4)
    (v1 : g1 ≤ v) (v2 : g2 ≤ v) (v4 : g4 + w i j ≤ v) (hv : v = g1 ∨ v = g2 ∨ v = g4 + w i j) : isG F0 F1 w i j e e' v := by
  refine ⟨?_, fun L hL hB => ?_⟩
  · rcases hv with z | z | z
    · obtain ⟨⟨L, a, b, c⟩, _⟩ := h1
      exact ⟨L, a, fun p hp => by have := b p hp; omega, by omega⟩
    · obtain ⟨⟨L, a, b, c⟩, _⟩ := h2
      exact ⟨L, a, fun p hp => by have := b p hp; omega, by omega⟩
    · obtain ⟨⟨L, a, b, c⟩, _⟩ := h4
      refine ⟨(i, j) :: L, List.pairwise_cons.2 ⟨fun q hq => ?_, a⟩, fun p hp => ?_, ?_⟩
      · have bq := b q hq
        have e1 := hF0 q.1 (by omega) (by omega)
        have e2 := hF1 q.2 (by omega) (by omega)
        unfold RR an lf
        show (i ≠ q.1 ∧ j ≠ q.2) ∧ (i ≤ q.1 ∧ q.1 < F0.2 i ↔ j ≤ q.2 ∧ q.2 < F1.2 j) ∧ (q.1 ≤ i ∧ i < F0.2 q.1 ↔ q.2 ≤ j ∧ j < F1.2 q.2) ∧ (F0.2 i ≤ q.1 ↔ F1.2 j ≤ q.2) ∧ (F0.2 q.1 ≤ i ↔ F1.2 q.2 ≤ j)
        omega
      · rcases List.mem_cons.1 hp with y | y
        · rw [y]; show (i ≤ i ∧ i < e) ∧ (j ≤ j ∧ j < e'); omega
        · have := b p y; omega
      · show w i j + gn w L = v
        omega
  · by_cases c1 : ∃ p, p ∈ L ∧ p.1 = i
    · by_cases c2 : ∃ q, q ∈ L ∧ q.2 = j
      · obtain ⟨p, hp, ep⟩ := c1
        obtain ⟨q, hq, eq⟩ := c2
        have hpe := pair_first hF1 j0 hn' hL hB hp hq ep eq
        rw [hpe] at hp
        obtain ⟨s, t, hs⟩ := List.append_of_mem hp
        rw [hs] at hL hB ⊢
        rw [List.pairwise_append] at hL
        have ht := List.pairwise_cons.1 hL.2.1
        have rel : ∀ r ∈ s ++ t, RR F0 F1 (i, j) r := fun r hr => by
          rcases List.mem_append.1 hr with y | y
          · exact (hL.2.2 r y (i, j) (List.mem_cons_self ..)).sy
          · exact ht.1 r y
        have pw : (s ++ t).Pairwise (RR F0 F1) := List.pairwise_append.2 ⟨hL.1, ht.2, fun x hx y hy => hL.2.2 x hx y (List.mem_cons_of_mem _ hy)⟩
        have := h4.2 (s ++ t) pw (fun r hr => by
          have hb : (i ≤ r.1 ∧ r.1 < e) ∧ (j ≤ r.2 ∧ r.2 < e') := hB r (by
            rcases List.mem_append.1 hr with y | y
            · exact List.mem_append.2 (Or.inl y)
            · exact List.mem_append.2 (Or.inr (List.mem_cons_of_mem _ y)))
          have rr := rel r hr
          have n1 : i ≠ r.1 := rr.1.1
          have n2 : j ≠ r.2 := rr.1.2
          omega)
        rw [gn_app] at this ⊢
        show gn w s + (w i j + gn w t) ≤ v
        omega
      · have := h2.2 L hL (fun p hp => by
          have b := hB p hp
          have : p.2 ≠ j := fun z => c2 ⟨p, hp, z⟩
          omega)
        omega
    · have := h1.2 L hL (fun p hp => by
        have b := hB p hp
        have : p.1 ≠ i := fun z => c1 ⟨p, hp, z⟩
        omega)
      omega
theorem isG_step {F0 F1 : IF} {w : Int → Int → Int} {i j e e' g1 g2 g3 gT v : Int} (hF0 : okF F0) (hF1 : okF F1) (i0 : 0 ≤ i) (j0 : 0 ≤ j) (i1 : i < e) (j1 : j < e') (he : F0.2 i ≤ e) (he' : F1.2 j ≤ e') (hn : e ≤ F0.1) (hn' : e' ≤ F1.1) (h1 : isG F0 F1 w (i + 1) j e e' g1) (h2 : isG F0 F1 w i (j + 1) e e' g2) (h3 : isG F0 F1 w (F0.2 i) (F1.2 j) e e' g3) (hT : isG F0 F1 w i j (F0.2 i) (F1.2 j) gT)
    (v1 : g1 ≤ v) (v2 : g2 ≤ v) (v4 : g3 + gT ≤ v) (hv : v = g1 ∨ v = g2 ∨ v = g3 + gT) : isG F0 F1 w i j e e' v := by
  have oi := hF0 i i0 (by omega)
  have oj := hF1 j j0 (by omega)
  refine ⟨?_, fun L hL hB => ?_⟩
  · rcases hv with z | z | z
    · obtain ⟨⟨L, a, b, c⟩, _⟩ := h1
      exact ⟨L, a, fun p hp => by have := b p hp; omega, by omega⟩
    · obtain ⟨⟨L, a, b, c⟩, _⟩ := h2
      exact ⟨L, a, fun p hp => by have := b p hp; omega, by omega⟩
    · obtain ⟨⟨L, a, b, c⟩, _⟩ := h3
      obtain ⟨⟨M, a', b', c'⟩, _⟩ := hT
      refine ⟨M ++ L, List.pairwise_append.2 ⟨a', a, fun p hp q hq => ?_⟩, fun p hp => ?_, by rw [gn_app]; omega⟩
      · have bp := b' p hp
        have bq := b q hq
        have e1 := oi.2.2 p.1 (by omega) (by omega)
        have e2 := oj.2.2 p.2 (by omega) (by omega)
        have e3 := hF0 q.1 (by omega) (by omega)
        have e4 := hF1 q.2 (by omega) (by omega)
        unfold RR an lf
        omega
      · rcases List.mem_append.1 hp with y | y
        · have := b' p y; omega
        · have := b p y; omega
  · by_cases c1 : ∃ p, p ∈ L ∧ p.1 = i
    · by_cases c2 : ∃ q, q ∈ L ∧ q.2 = j
      · obtain ⟨p, hp, ep⟩ := c1
        obtain ⟨q, hq, eq⟩ := c2
        have hpe := pair_first hF1 j0 hn' hL hB hp hq ep eq
        rw [hpe] at hp
        obtain ⟨s, t, hs⟩ := List.append_of_mem hp
        rw [hs] at hL hB ⊢
        rw [List.pairwise_append] at hL
        have ht := List.pairwise_cons.1 hL.2.1
        have rel : ∀ r ∈ s ++ t, RR F0 F1 (i, j) r := fun r hr => by
          rcases List.mem_append.1 hr with y | y
          · exact (hL.2.2 r y (i, j) (List.mem_cons_self ..)).sy
          · exact ht.1 r y
        have pw : (s ++ t).Pairwise (RR F0 F1) := List.pairwise_append.2 ⟨hL.1, ht.2, fun x hx y hy => hL.2.2 x hx y (List.mem_cons_of_mem _ hy)⟩
        have bx : ∀ r ∈ s ++ t, ((i ≤ r.1 ∧ r.1 < e) ∧ (j ≤ r.2 ∧ r.2 < e')) ∧ (r.1 < F0.2 i → r.2 < F1.2 j) ∧ (¬ r.1 < F0.2 i → F1.2 j ≤ r.2) := fun r hr => by
          have hb : (i ≤ r.1 ∧ r.1 < e) ∧ (j ≤ r.2 ∧ r.2 < e') := hB r (by
            rcases List.mem_append.1 hr with y | y
            · exact List.mem_append.2 (Or.inl y)
            · exact List.mem_append.2 (Or.inr (List.mem_cons_of_mem _ y)))
          have rr := rel r hr
          refine ⟨hb, fun z => ?_, fun z => ?_⟩
          · have h := rr.2.1.1 (show an F0 i r.1 from ⟨hb.1.1, z⟩)
            exact h.2
          · exact rr.2.2.2.1.1 (show lf F0 i r.1 by unfold lf; omega)
        have hA := hT.2 ((i, j) :: (s ++ t).filter (fun r => decide (r.1 < F0.2 i))) (List.pairwise_cons.2 ⟨fun r hr => rel r (List.mem_filter.1 hr).1, pw.filter _⟩) (fun r hr => by
          rcases List.mem_cons.1 hr with y | y
          · rw [y]; show (i ≤ i ∧ i < F0.2 i) ∧ (j ≤ j ∧ j < F1.2 j); omega
          · have hm := List.mem_filter.1 y
            have hd : r.1 < F0.2 i := of_decide_eq_true hm.2
            have := bx r hm.1
            have := this.2.1 hd
            omega)
        have hC := h3.2 ((s ++ t).filter (fun r => !decide (r.1 < F0.2 i))) (pw.filter _) (fun r hr => by
          have hm := List.mem_filter.1 hr
          have hd : ¬ r.1 < F0.2 i := by
            have h2 := hm.2
            have h3 : decide (r.1 < F0.2 i) = false := by
              cases hx : decide (r.1 < F0.2 i) with
              | true => rw [hx] at h2; exact absurd h2 (by decide)
              | false => rfl
            exact of_decide_eq_false h3
          have := bx r hm.1
          have := this.2.2 hd
          omega)
        have hsp := gn_fil w (fun r => decide (r.1 < F0.2 i)) (s ++ t)
        have hA' : w i j + gn w ((s ++ t).filter (fun r => decide (r.1 < F0.2 i))) ≤ gT := hA
        rw [gn_app] at hsp
        rw [gn_app]
        show gn w s + (w i j + gn w t) ≤ v
        omega
      · have := h2.2 L hL (fun p hp => by
          have b := hB p hp
          have : p.2 ≠ j := fun z => c2 ⟨p, hp, z⟩
          omega)
        omega
    · have := h1.2 L hL (fun p hp => by
        have b := hB p hp
        have : p.1 ≠ i := fun z => c1 ⟨p, hp, z⟩
        omega)
      omega
/-- so many changes -/
def isD (F0 F1 : IF) (w : Int → Int → Int) (i j e e' d : Int) : Prop := isG F0 F1 w i j e e' ((e - i) + (e' - j) - d) ∧ 0 ≤ d
theorem isD_uniq {F0 F1 : IF} {w : Int → Int → Int} {i j e e' d d' : Int} (h : isD F0 F1 w i j e e' d) (h' : isD F0 F1 w i j e e' d') : d = d' := by
  have := isG_uniq h.1 h'.1
  omega
theorem isD_le {F0 F1 : IF} {w : Int → Int → Int} {i j e e' d : Int} (h : isD F0 F1 w i j e e' d) : d ≤ (e - i) + (e' - j) := by
  have := isG_nn h.1
  omega
theorem isD_b0 {F0 F1 : IF} {w : Int → Int → Int} {i j e e' : Int} (h : e = i) (h2 : j ≤ e') : isD F0 F1 w i j e e' (e' - j) := ⟨by rw [show (e - i) + (e' - j) - (e' - j) = 0 by omega]; exact isG_base (Or.inl (by omega)), by omega⟩
theorem isD_b1 {F0 F1 : IF} {w : Int → Int → Int} {i j e e' : Int} (h : e' = j) (h2 : i ≤ e) : isD F0 F1 w i j e e' (e - i) := ⟨by rw [show (e - i) + (e' - j) - (e - i) = 0 by omega]; exact isG_base (Or.inr (by omega)), by omega⟩
theorem isD_tree {F0 F1 : IF} {w : Int → Int → Int} {i j e e' d1 d2 d4 c d : Int} (hF0 : okF F0) (hF1 : okF F1) (i0 : 0 ≤ i) (j0 : 0 ≤ j) (i1 : i < e) (j1 : j < e') (he : F0.2 i = e) (he' : F1.2 j = e') (hn : e ≤ F0.1) (hn' : e' ≤ F1.1) (h1 : isD F0 F1 w (i + 1) j e e' d1) (h2 : isD F0 F1 w i (j + 1) e e' d2) (h4 : isD F0 F1 w (i + 1) (j + 1) e e' d4) (hc : w i j = 2 - c) (c0 : 0 ≤ c)
    (v1 : d ≤ d1 + 1) (v2 : d ≤ d2 + 1) (v4 : d ≤ d4 + c) (hv : d = d1 + 1 ∨ d = d2 + 1 ∨ d = d4 + c) : isD F0 F1 w i j e e' d := ⟨isG_tree hF0 hF1 i0 j0 i1 j1 he he' hn hn' h1.1 h2.1 h4.1 (by omega) (by omega) (by omega) (by omega), by have := h1.2; have := h2.2; have := h4.2; omega⟩
theorem isD_step {F0 F1 : IF} {w : Int → Int → Int} {i j e e' d1 d2 d3 dT d : Int} (hF0 : okF F0) (hF1 : okF F1) (i0 : 0 ≤ i) (j0 : 0 ≤ j) (i1 : i < e) (j1 : j < e') (he : F0.2 i ≤ e) (he' : F1.2 j ≤ e') (hn : e ≤ F0.1) (hn' : e' ≤ F1.1) (h1 : isD F0 F1 w (i + 1) j e e' d1) (h2 : isD F0 F1 w i (j + 1) e e' d2) (h3 : isD F0 F1 w (F0.2 i) (F1.2 j) e e' d3) (hT : isD F0 F1 w i j (F0.2 i) (F1.2 j) dT)
    (v1 : d ≤ d1 + 1) (v2 : d ≤ d2 + 1) (v4 : d ≤ d3 + dT) (hv : d = d1 + 1 ∨ d = d2 + 1 ∨ d = d3 + dT) : isD F0 F1 w i j e e' d := ⟨isG_step hF0 hF1 i0 j0 i1 j1 he he' hn hn' h1.1 h2.1 h3.1 hT.1 (by omega) (by omega) (by omega) (by omega), by have := h1.2; have := h2.2; have := h3.2; have := hT.2; omega⟩
/-- two ways to number the same nodes -/
theorem isG_map {F0 F1 G0 G1 : IF} {w w' : Int → Int → Int} {r0 r1 s0 s1 : Int → Int} {v : Int}
    (hr0 : ∀ k, 0 ≤ k → k < F0.1 → 0 ≤ r0 k ∧ r0 k < G0.1) (hr1 : ∀ k, 0 ≤ k → k < F1.1 → 0 ≤ r1 k ∧ r1 k < G1.1)
    (hs0 : ∀ k, 0 ≤ k → k < G0.1 → 0 ≤ s0 k ∧ s0 k < F0.1 ∧ r0 (s0 k) = k) (hs1 : ∀ k, 0 ≤ k → k < G1.1 → 0 ≤ s1 k ∧ s1 k < F1.1 ∧ r1 (s1 k) = k)
    (hw : ∀ x y, 0 ≤ x → x < F0.1 → 0 ≤ y → y < F1.1 → w' (r0 x) (r1 y) = w x y)
    (hR : ∀ p q : Int × Int, (0 ≤ p.1 ∧ p.1 < F0.1 ∧ 0 ≤ p.2 ∧ p.2 < F1.1) → (0 ≤ q.1 ∧ q.1 < F0.1 ∧ 0 ≤ q.2 ∧ q.2 < F1.1) → (RR F0 F1 p q ↔ RR G0 G1 (r0 p.1, r1 p.2) (r0 q.1, r1 q.2)))
    (h : isG F0 F1 w 0 0 F0.1 F1.1 v) : isG G0 G1 w' 0 0 G0.1 G1.1 v := by
  have go : ∀ (L : List (Int × Int)), inB 0 0 F0.1 F1.1 L → inB 0 0 G0.1 G1.1 (L.map (fun p => (r0 p.1, r1 p.2))) ∧ gn w' (L.map (fun p => (r0 p.1, r1 p.2))) = gn w L ∧ (L.Pairwise (RR F0 F1) ↔ (L.map (fun p => (r0 p.1, r1 p.2))).Pairwise (RR G0 G1)) := by
    intro L
    induction L with
    | nil => intro _; exact ⟨fun p hp => (nomatch hp), rfl, ⟨fun _ => List.Pairwise.nil, fun _ => List.Pairwise.nil⟩⟩
    | cons p L ih =>
      intro hB
      have hp := hB p (List.mem_cons_self ..)
      obtain ⟨a, b, c⟩ := ih (fun q hq => hB q (List.mem_cons_of_mem _ hq))
      refine ⟨fun q hq => ?_, ?_, ?_⟩
      · rw [List.map_cons] at hq
        rcases List.mem_cons.1 hq with z | z
        · rw [z]
          have h0 := hr0 p.1 hp.1.1 hp.1.2
          have h1 := hr1 p.2 hp.2.1 hp.2.2
          exact ⟨h0, h1⟩
        · exact a q z
      · rw [List.map_cons]
        show w' (r0 p.1) (r1 p.2) + gn w' _ = w p.1 p.2 + gn w L
        rw [hw p.1 p.2 hp.1.1 hp.1.2 hp.2.1 hp.2.2, b]
      · rw [List.map_cons, List.pairwise_cons, List.pairwise_cons, c]
        refine and_congr_left (fun _ => ⟨fun h q hq => ?_, fun h q hq => ?_⟩)
        · obtain ⟨q', hq', e⟩ := List.mem_map.1 hq
          have bq := hB q' (List.mem_cons_of_mem _ hq')
          rw [← e]
          exact (hR p q' ⟨hp.1.1, hp.1.2, hp.2.1, hp.2.2⟩ ⟨bq.1.1, bq.1.2, bq.2.1, bq.2.2⟩).1 (h q' hq')
        · have bq := hB q (List.mem_cons_of_mem _ hq)
          exact (hR p q ⟨hp.1.1, hp.1.2, hp.2.1, hp.2.2⟩ ⟨bq.1.1, bq.1.2, bq.2.1, bq.2.2⟩).2 (h _ (List.mem_map.2 ⟨q, hq, rfl⟩))
  obtain ⟨⟨L, a, b, c⟩, d⟩ := h
  obtain ⟨g1, g2, g3⟩ := go L b
  refine ⟨⟨_, g3.1 a, g1, by rw [g2]; exact c⟩, fun M hM hB => ?_⟩
  have back : M = (M.map (fun p => (s0 p.1, s1 p.2))).map (fun p => (r0 p.1, r1 p.2)) := by
    rw [List.map_map]
    have : ∀ (M : List (Int × Int)), inB 0 0 G0.1 G1.1 M → M = M.map ((fun p => (r0 p.1, r1 p.2)) ∘ (fun p => (s0 p.1, s1 p.2))) := by
      intro M
      induction M with
      | nil => intro _; rfl
      | cons p M ih =>
        intro hB
        have hp := hB p (List.mem_cons_self ..)
        rw [List.map_cons, ← ih (fun q hq => hB q (List.mem_cons_of_mem _ hq))]
        have e : ((fun p : Int × Int => (r0 p.1, r1 p.2)) ∘ (fun p : Int × Int => (s0 p.1, s1 p.2))) p = p := Prod.ext (hs0 p.1 hp.1.1 hp.1.2).2.2 (hs1 p.2 hp.2.1 hp.2.2).2.2
        rw [e]
    exact this M hB
  have bM : inB 0 0 F0.1 F1.1 (M.map (fun p => (s0 p.1, s1 p.2))) := fun q hq => by
    obtain ⟨p, hp, e⟩ := List.mem_map.1 hq
    have b := hB p hp
    have h0 := hs0 p.1 b.1.1 b.1.2
    have h1 := hs1 p.2 b.2.1 b.2.2
    rw [← e]
    exact ⟨⟨h0.1, h0.2.1⟩, ⟨h1.1, h1.2.1⟩⟩
  obtain ⟨_, k2, k3⟩ := go _ bM
  rw [← back] at k2 k3
  rw [k2]
  exact d _ (k3.2 hM) bM
