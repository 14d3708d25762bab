/-! trees in preorder: n nodes, pa the parents -/
def wfN (n : Int) (pa : Int → Int) : Prop := (1 ≤ n ∧ n ≤ 24) ∧ pa 0 = -1 ∧ (∀ k, 1 ≤ k → k < n → 0 ≤ pa k ∧ pa k < k) ∧ (∀ j k, 0 < k → k < n → pa k < j → j < k → pa k ≤ pa j)
/-- e is the number behind the last node below k -/
def isEn (n : Int) (pa : Int → Int) (k e : Int) : Prop := k < e ∧ e ≤ n ∧ (∀ j, k < j → j < e → k ≤ pa j) ∧ (e = n ∨ pa e < k)
theorem isEn_uniq {n : Int} {pa : Int → Int} {k e e' : Int} (h : isEn n pa k e) (h' : isEn n pa k e') : e = e' := by
  obtain ⟨a1, a2, a3, a4⟩ := h
  obtain ⟨b1, b2, b3, b4⟩ := h'
  rcases Int.lt_trichotomy e e' with q | q | q
  · have := b3 e a1 q
    rcases a4 with z | z <;> omega
  · exact q
  · have := a3 e' b1 q
    rcases b4 with z | z <;> omega
def enF (pa : Int → Int) (k : Int) : Nat → Int → Int
  | 0, j => j
  | f + 1, j => if pa j < k then j else enF pa k f (j + 1)
def en (n : Int) (pa : Int → Int) (k : Int) : Int := enF pa k (n - k - 1).toNat (k + 1)
theorem enF_ok {n : Int} {pa : Int → Int} {k : Int} : ∀ (f : Nat) (j : Int), k < j → j + f = n → (∀ i, k < i → i < j → k ≤ pa i) → isEn n pa k (enF pa k f j)
  | 0, j, h1, h2, h3 => ⟨h1, by show j ≤ n; omega, h3, Or.inl (by show j = n; omega)⟩
  | f + 1, j, h1, h2, h3 => by
    unfold enF
    by_cases h : pa j < k
    · rw [if_pos h]
      exact ⟨h1, by omega, h3, Or.inr h⟩
    · rw [if_neg h]
      refine enF_ok f (j + 1) (by omega) (by omega) (fun i a b => ?_)
      by_cases q : i = j
      · rw [q]; omega
      · exact h3 i a (by omega)
theorem en_ok {n : Int} {pa : Int → Int} {k : Int} (h : k < n) : isEn n pa k (en n pa k) := enF_ok _ _ (by omega) (by omega) (fun i a b => by omega)
section
variable {n : Int} {pa : Int → Int}
/-- a node's end is not behind its parent's -/
theorem en_le (h : wfN n pa) {k : Int} (h1 : 1 ≤ k) (h2 : k < n) : k < en n pa (pa k) ∧ en n pa k ≤ en n pa (pa k) := by
  obtain ⟨w1, w2, w3, w4⟩ := h
  have hp := w3 k h1 h2
  obtain ⟨a1, a2, a3, a4⟩ := en_ok (n := n) (pa := pa) (k := pa k) (by omega)
  obtain ⟨b1, b2, b3, b4⟩ := en_ok (n := n) (pa := pa) (k := k) h2
  have hk : k < en n pa (pa k) := by
    rcases a4 with z | z
    · omega
    · by_cases q : en n pa (pa k) ≤ k
      · by_cases q2 : en n pa (pa k) = k
        · rw [q2] at z; omega
        · have := w4 (en n pa (pa k)) k (by omega) h2 a1 (by omega)
          omega
      · omega
  refine ⟨hk, ?_⟩
  rcases a4 with z | z
  · omega
  · by_cases q : en n pa k ≤ en n pa (pa k)
    · exact q
    · have := b3 (en n pa (pa k)) hk (by omega)
      omega
/-- behind a node that isn't its parent's last one stands a brother -/
theorem en_next (h : wfN n pa) {k : Int} (h1 : 1 ≤ k) (h2 : k < n) (h3 : en n pa k < en n pa (pa k)) : pa (en n pa k) = pa k := by
  obtain ⟨w1, w2, w3, w4⟩ := h
  have hp := w3 k h1 h2
  obtain ⟨a1, a2, a3, a4⟩ := en_ok (n := n) (pa := pa) (k := pa k) (by omega)
  obtain ⟨b1, b2, b3, b4⟩ := en_ok (n := n) (pa := pa) (k := k) h2
  have c1 := a3 (en n pa k) (by omega) h3
  rcases b4 with z | z
  · omega
  · by_cases q : pa (en n pa k) = pa k
    · exact q
    · have := w4 k (en n pa k) (by omega) (by omega) z b1
      omega
/-- a node with something below it: the next one is its child -/
theorem en_first (h : wfN n pa) {k : Int} (h1 : 0 ≤ k) (h3 : k + 1 < en n pa k) (h2 : k < n) : pa (k + 1) = k := by
  obtain ⟨b1, b2, b3, b4⟩ := en_ok (n := n) (pa := pa) (k := k) h2
  have c1 := b3 (k + 1) (by omega) h3
  have c2 := h.2.2.1 (k + 1) (by omega) (by omega)
  omega
/-- within a subtree: the ends too -/
theorem en_in (h : wfN n pa) {a : Int} (h0 : 0 ≤ a) (ha : a < n) : ∀ (f : Nat) (k : Int), k < f → a ≤ k → k < en n pa a → en n pa k ≤ en n pa a
  | 0, k, h1, h2, h3 => by omega
  | f + 1, k, h1, h2, h3 => by
    by_cases q : k = a
    · rw [q]; exact Int.le_refl _
    · obtain ⟨b1, b2, b3, b4⟩ := en_ok (n := n) (pa := pa) (k := a) ha
      have c1 := b3 k (by omega) h3
      have c2 := en_le h (k := k) (by omega) (by omega)
      have c3 := h.2.2.1 k (by omega) (by omega)
      have c4 := en_in h h0 ha f (pa k) (by omega) c1 (by omega)
      omega
end
/-! the number of nodes of a subtree, as both sides count it: from the last node on -/
def srun (pa : Int → Int) : Nat → (Int → Int) → Int → Int
  | 0, s => s
  | k + 1, s => srun pa k (up s (pa ((k : Int) + 1)) (s (pa ((k : Int) + 1)) + s ((k : Int) + 1)))
def szT (n : Int) (pa : Int → Int) : Int → Int := srun pa (n - 1).toNat (fun _ => 1)
/-- of k's children, those behind i begin at c -/
def isNx (n : Int) (pa : Int → Int) (i k c : Int) : Prop := (en n pa k ≤ i + 1 ∧ c = en n pa k) ∨ (i < c ∧ c ≤ en n pa k ∧ i + 1 < en n pa k ∧ (c = en n pa k ∨ pa c = k) ∧ ∀ j, i < j → j < c → pa j ≠ k)
theorem srun_ok {n : Int} {pa : Int → Int} (h : wfN n pa) : ∀ (i : Nat) (s : Int → Int), (i : Int) < n → (∀ k : Int, (i : Int) < k → k < n → s k = en n pa k - k) → (∀ k : Int, 0 ≤ k → k ≤ (i : Int) → ∃ c : Int, isNx n pa (i : Int) k c ∧ s k = 1 + en n pa k - c) → ∀ k : Int, 0 ≤ k → k < n → srun pa i s k = en n pa k - k
  | 0, s, hi, h1, h2 => by
    intro k k1 k2
    show s k = _
    by_cases q : k = 0
    · subst q
      obtain ⟨c, hc, e⟩ := h2 0 (by omega) (by omega)
      obtain ⟨b1, b2, b3, b4⟩ := en_ok (n := n) (pa := pa) (k := 0) (by omega)
      rcases hc with ⟨c1, c2⟩ | ⟨c1, c2, c3, c4, c5⟩
      · have c1 : en n pa 0 ≤ 1 := c1
        omega
      · have c1 : 0 < c := c1
        have c3 : 1 < en n pa 0 := c3
        have f := en_first h (k := 0) (by omega) c3 (by omega)
        have : c = 1 := by
          by_cases z : c = 1
          · exact z
          · exact absurd f (c5 1 (by show (0:Int) < 1; omega) (by omega))
        omega
    · exact h1 k (by show (0:Int) < k; omega) k2
  | i + 1, s, hi, h1, h2 => by
    have hi' : ((i : Int) + 1) < n := by push_cast at hi; exact hi
    have hp := h.2.2.1 ((i : Int) + 1) (by omega) hi'
    obtain ⟨b1, b2, b3, b4⟩ := en_ok (n := n) (pa := pa) (k := (i : Int) + 1) hi'
    have e1 := en_le h (k := (i : Int) + 1) (by omega) hi'
    -- the node itself is ready
    have si : s ((i : Int) + 1) = en n pa ((i : Int) + 1) - ((i : Int) + 1) := by
      obtain ⟨c, hc, e⟩ := h2 ((i : Int) + 1) (by omega) (by push_cast; omega)
      rw [e]
      rcases hc with ⟨c1, c2⟩ | ⟨c1, c2, c3, c4, c5⟩
      · push_cast at c1
        omega
      · push_cast at c1 c3 c5
        have f := en_first h (k := (i : Int) + 1) (by omega) c3 hi'
        have : c = (i : Int) + 1 + 1 := by
          by_cases z : c = (i : Int) + 1 + 1
          · exact z
          · exact absurd f (c5 ((i : Int) + 1 + 1) (by omega) (by omega))
        omega
    unfold srun
    refine srun_ok h i _ (by omega) (fun k k1 k2 => ?_) (fun k k1 k2 => ?_)
    · rw [up_n _ _ (by omega)]
      by_cases q : k = (i : Int) + 1
      · rw [q]; exact si
      · exact h1 k (by push_cast; omega) k2
    · obtain ⟨c, hc, e⟩ := h2 k k1 (by push_cast; omega)
      by_cases q : k = pa ((i : Int) + 1)
      · refine ⟨(i : Int) + 1, ?_, ?_⟩
        · refine Or.inr ⟨by omega, by rw [q]; omega, by rw [q]; omega, Or.inr q.symm, fun j j1 j2 => by omega⟩
        · rw [q, up_s, si, ← q, e]
          have : c = en n pa ((i : Int) + 1) := by
            rw [q] at hc
            rcases hc with ⟨c1, c2⟩ | ⟨c1, c2, c3, c4, c5⟩
            · push_cast at c1
              omega
            · push_cast at c1 c3 c5
              by_cases z : en n pa ((i : Int) + 1) < en n pa (pa ((i : Int) + 1))
              · have nx := en_next h (k := (i : Int) + 1) (by omega) hi' z
                have lo : en n pa ((i : Int) + 1) ≤ c := by
                  by_cases z2 : c < en n pa ((i : Int) + 1)
                  · have d1 := b3 c (by omega) z2
                    rcases c4 with c4 | c4
                    · omega
                    · omega
                  · omega
                by_cases z3 : en n pa ((i : Int) + 1) = c
                · exact z3.symm
                · exact absurd nx (c5 _ (by omega) (by omega))
              · rcases c4 with c4 | c4
                · omega
                · by_cases z2 : c < en n pa ((i : Int) + 1)
                  · have d1 := b3 c (by omega) z2
                    omega
                  · omega
          omega
      · rw [up_n _ _ q]
        refine ⟨c, ?_, e⟩
        rcases hc with ⟨c1, c2⟩ | ⟨c1, c2, c3, c4, c5⟩
        · push_cast at c1
          by_cases z : en n pa k ≤ (i : Int) + 1
          · exact Or.inl ⟨z, c2⟩
          · have z3 : en n pa k = (i : Int) + 1 + 1 := by omega
            refine Or.inr ⟨by omega, by omega, by omega, Or.inl c2, fun j j1 j2 => ?_⟩
            have : j = (i : Int) + 1 := by omega
            rw [this]
            exact fun z2 => q z2.symm
        · push_cast at c1 c3 c5
          refine Or.inr ⟨by omega, c2, by omega, c4, fun j j1 j2 => ?_⟩
          by_cases z : j = (i : Int) + 1
          · rw [z]; exact fun z2 => q z2.symm
          · exact c5 j (by omega) j2
theorem sz_ok {n : Int} {pa : Int → Int} (h : wfN n pa) {k : Int} (h1 : 0 ≤ k) (h2 : k < n) : szT n pa k = en n pa k - k := by
  unfold szT
  have hn := h.1
  refine srun_ok h _ _ (by omega) (fun j j1 j2 => by omega) (fun j j1 j2 => ⟨en n pa j, Or.inl ⟨?_, rfl⟩, by omega⟩) k h1 h2
  have := (en_ok (n := n) (pa := pa) (k := j) (by omega)).2.1
  omega
