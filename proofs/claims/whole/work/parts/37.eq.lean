/-! trees as values -/
abbrev TT : Type := Int × (Int → Int) × (Int → Int) × (Int → Int)
def tn (t : TT) : Int := t.1
def tl (t : TT) : Int → Int := t.2.1
def tv (t : TT) : Int → Int := t.2.2.1
def tp (t : TT) : Int → Int := t.2.2.2
def te (t : TT) (k : Int) : Int := en (tn t) (tp t) k
def wfT (t : TT) : Prop := wfN (tn t) (tp t) ∧ ∀ k, 0 ≤ k → k < tn t → (0 ≤ tl t k ∧ tl t k ≤ 7) ∧ (0 ≤ tv t k ∧ tv t k ≤ 99)
def cT (S : QMem) (a : Nat) (t : TT) : Prop := CT S a (tn t) (tl t) (tv t) (tp t)
def mT (S : QMem) (m : Nat) (i : Int) (t : TT) : Prop := MT S m i (tn t) (tl t) (tv t) (tp t) ∧ MS S m i (tn t) (tp t)
def WC (se : Nat) (S : QMem) (t0 t1 : TT) : Prop := cT S (S.2 se 0) t0 ∧ cT S (S.2 se 1) t1 ∧ wfT t0 ∧ wfT t1
def WM (m : Nat) (S : QMem) (t0 t1 : TT) : Prop := mT S m 0 t0 ∧ mT S m 1 t1 ∧ wfT t0 ∧ wfT t1
theorem tn_rng {t : TT} (h : wfT t) : 1 ≤ tn t ∧ tn t ≤ 24 := h.1.1
theorem te_rng {t : TT} {k : Int} (h2 : k < tn t) : k < te t k ∧ te t k ≤ tn t := ⟨(en_ok h2).1, (en_ok h2).2.1⟩
theorem tp_rng {t : TT} (h : wfT t) {k : Int} (h1 : 0 ≤ k) (h2 : k < tn t) : -1 ≤ tp t k ∧ tp t k < k ∧ (1 ≤ k → 0 ≤ tp t k) ∧ (k = 0 → tp t k = -1) := by
  by_cases q : k = 0
  · rw [q]
    have := h.1.2.1
    exact ⟨by omega, by omega, fun z => by omega, fun _ => this⟩
  · have := h.1.2.2.1 k (by omega) h2
    exact ⟨by omega, by omega, fun _ => this.1, fun z => by omega⟩
/-- the subtrees at x and y are equal -/
def eqT (t0 t1 : TT) (x y : Int) : Prop := te t0 x - x = te t1 y - y ∧ ∀ k, 0 ≤ k → k < te t0 x - x → tl t0 (x + k) = tl t1 (y + k) ∧ tv t0 (x + k) = tv t1 (y + k) ∧ (k = 0 ∨ tp t0 (x + k) - x = tp t1 (y + k) - y)
def eqC (t0 t1 : TT) (x y : Int) : Prop := te t0 x - x = te t1 y - y ∧ ∀ k, 0 ≤ k → k < te t0 x - x → tl t0 (x + k) = tl t1 (y + k) ∧ tv t0 (x + k) = tv t1 (y + k) ∧ te t0 (x + k) - (x + k) = te t1 (y + k) - (y + k)
/-- equal parents, equal ends -/
theorem eq_end {t0 t1 : TT} (h0 : wfT t0) (h1 : wfT t1) {x y : Int} (x0 : 0 ≤ x) (x1 : x < tn t0) (y0 : 0 ≤ y) (y1 : y < tn t1) (h : eqT t0 t1 x y) {k : Int} (k0 : 0 ≤ k) (k1 : k < te t0 x - x) : te t1 (y + k) - y = te t0 (x + k) - x := by
  obtain ⟨hs, hk⟩ := h
  have ex := te_rng x1
  have ey := te_rng y1
  obtain ⟨a1, a2, a3, a4⟩ := en_ok (n := tn t0) (pa := tp t0) (k := x + k) (by omega)
  have a5 := en_in h0.1 x0 x1 ((x + k).toNat + 1) (x + k) (by omega) (by omega) (by show x + k < te t0 x; omega)
  obtain ⟨b1, b2, b3, b4⟩ := en_ok (n := tn t1) (pa := tp t1) (k := y) y1
  have key : isEn (tn t1) (tp t1) (y + k) (te t0 (x + k) - x + y) := by
    have a1' : x + k < te t0 (x + k) := a1
    have a5' : te t0 (x + k) ≤ te t0 x := a5
    refine ⟨by omega, by omega, fun j j1 j2 => ?_, ?_⟩
    · have h2 := (hk (j - y) (by omega) (by omega)).2.2
      have h3 := a3 (x + (j - y)) (by omega) (by show x + (j - y) < te t0 (x + k); omega)
      rw [show y + (j - y) = j by omega] at h2
      rcases h2 with h2 | h2 <;> omega
    · by_cases q : te t0 (x + k) = te t0 x
      · have e1 : te t0 (x + k) - x + y = te t1 y := by omega
        rw [e1]
        rcases b4 with z | z
        · exact Or.inl z
        · right
          have z : tp t1 (te t1 y) < y := z
          omega
      · right
        have h2 := (hk (te t0 (x + k) - x) (by omega) (by omega)).2.2
        rw [show x + (te t0 (x + k) - x) = te t0 (x + k) by omega, show y + (te t0 (x + k) - x) = te t0 (x + k) - x + y by omega] at h2
        have a4' : te t0 (x + k) = tn t0 ∨ tp t0 (te t0 (x + k)) < x + k := a4
        omega
  have := isEn_uniq (en_ok (n := tn t1) (pa := tp t1) (k := y + k) (by omega)) key
  show en (tn t1) (tp t1) (y + k) - y = _
  omega
theorem eq_CT {t0 t1 : TT} (h0 : wfT t0) (h1 : wfT t1) {x y : Int} (x0 : 0 ≤ x) (x1 : x < tn t0) (y0 : 0 ≤ y) (y1 : y < tn t1) : eqC t0 t1 x y ↔ eqT t0 t1 x y := by
  refine ⟨fun h => ⟨h.1, fun k k0 k1 => ⟨(h.2 k k0 k1).1, (h.2 k k0 k1).2.1, ?_⟩⟩, fun h => ⟨h.1, fun k k0 k1 => ⟨(h.2 k k0 k1).1, (h.2 k k0 k1).2.1, ?_⟩⟩⟩
  · -- the parent is the last node before that ends behind
    by_cases q : k = 0
    · exact Or.inl q
    · right
      have ex := te_rng x1
      have ey := te_rng y1
      have hs := h.1
      obtain ⟨a1, a2, a3, a4⟩ := en_ok (n := tn t0) (pa := tp t0) (k := x) x1
      obtain ⟨b1, b2, b3, b4⟩ := en_ok (n := tn t1) (pa := tp t1) (k := y) y1
      have p0 := a3 (x + k) (by omega) (by show x + k < te t0 x; omega)
      have p1 := b3 (y + k) (by omega) (by show y + k < te t1 y; omega)
      have p2 := h0.1.2.2.1 (x + k) (by omega) (by omega)
      have p3 := h1.1.2.2.1 (y + k) (by omega) (by omega)
      have q0 : x + k < te t0 (tp t0 (x + k)) := (en_le h0.1 (k := x + k) (by omega) (by omega)).1
      have q1 : y + k < te t1 (tp t1 (y + k)) := (en_le h1.1 (k := y + k) (by omega) (by omega)).1
      have e0 := (h.2 (tp t0 (x + k) - x) (by omega) (by omega)).2.2
      have e1 := (h.2 (tp t1 (y + k) - y) (by omega) (by omega)).2.2
      rw [show x + (tp t0 (x + k) - x) = tp t0 (x + k) by omega] at e0
      rw [show y + (tp t1 (y + k) - y) = tp t1 (y + k) by omega] at e1
      rcases Int.lt_trichotomy (tp t0 (x + k) - x) (tp t1 (y + k) - y) with z | z | z
      · obtain ⟨c1, c2, c3, c4⟩ := en_ok (n := tn t0) (pa := tp t0) (k := x + (tp t1 (y + k) - y)) (by omega)
        have := c3 (x + k) (by omega) (by show x + k < te t0 (x + (tp t1 (y + k) - y)); omega)
        omega
      · exact z
      · obtain ⟨c1, c2, c3, c4⟩ := en_ok (n := tn t1) (pa := tp t1) (k := y + (tp t0 (x + k) - x)) (by omega)
        have := c3 (y + k) (by omega) (by show y + k < te t1 (y + (tp t0 (x + k) - x)); omega)
        omega
  · have := eq_end h0 h1 x0 x1 y0 y1 h k0 k1
    omega
/-! heights by the children -/
def isHt (n : Int) (pa h : Int → Int) (i : Int) : Prop := ∀ k, 0 ≤ k → k < n → (∀ j, i < j → j < n → pa j = k → h j + 1 ≤ h k) ∧ (h k = 1 ∨ ∃ j, i < j ∧ j < n ∧ pa j = k ∧ h k = h j + 1)
theorem hrun_ok {n : Int} {pa : Int → Int} (hw : wfN n pa) : ∀ (i : Nat) (h : Int → Int), (i : Int) < n → (∀ k, 1 ≤ h k) → isHt n pa h (i : Int) → isHt n pa (hrun pa i h) 0
  | 0, h, _, _, hh => hh
  | i + 1, h, hi, h1, hh => by
    push_cast at hi hh
    unfold hrun
    have hp := hw.2.2.1 ((i : Int) + 1) (by omega) hi
    refine hrun_ok hw i _ (by omega) (fun k => ?_) (fun k k0 k1 => ⟨fun j j0 j1 j2 => ?_, ?_⟩)
    · have := h1 k
      have := h1 (pa ((i : Int) + 1))
      have := h1 ((i : Int) + 1)
      unfold up
      split
      · split <;> omega
      · omega
    · have hjp : j ≠ pa ((i : Int) + 1) := by omega
      rw [up_n _ _ hjp]
      by_cases q : k = pa ((i : Int) + 1)
      · rw [q, up_s]
        by_cases qj : j = (i : Int) + 1
        · rw [qj]; split <;> omega
        · have := (hh k k0 k1).1 j (by omega) j1 j2
          rw [q] at this
          split <;> omega
      · rw [up_n _ _ q]
        by_cases qj : j = (i : Int) + 1
        · rw [qj] at j2; exact absurd j2.symm q
        · exact (hh k k0 k1).1 j (by omega) j1 j2
    · by_cases q : k = pa ((i : Int) + 1)
      · rw [q, up_s]
        split
        · rcases (hh k k0 k1).2 with z | ⟨j, j0, j1, j2, j3⟩
          · rw [q] at z; exact Or.inl z
          · right
            have j2' := hw.2.2.1 j (by omega) j1
            refine ⟨j, by omega, j1, by rw [← q]; exact j2, ?_⟩
            rw [up_n _ _ (by omega), ← q]; exact j3
        · right
          exact ⟨(i : Int) + 1, by omega, hi, rfl, by rw [up_n _ _ (by omega)]⟩
      · rw [up_n _ _ q]
        rcases (hh k k0 k1).2 with z | ⟨j, j0, j1, j2, j3⟩
        · exact Or.inl z
        · right
          have j2' := hw.2.2.1 j (by omega) j1
          exact ⟨j, by omega, j1, j2, by rw [up_n _ _ (by omega)]; exact j3⟩
theorem hg_ok {n : Int} {pa : Int → Int} (hw : wfN n pa) : isHt n pa (hgT n pa) 0 := by
  have := hw.1
  exact hrun_ok hw _ _ (by omega) (fun _ => Int.le_refl _) (fun k k0 k1 => ⟨fun j j0 j1 j2 => by omega, Or.inl rfl⟩)
def th (t : TT) (k : Int) : Int := hgT (tn t) (tp t) k
theorem th_rng {t : TT} (h : wfT t) (k : Int) : 1 ≤ th t k ∧ th t k ≤ 24 := by
  have := hg_rng h.1 k
  have := tn_rng h
  unfold th
  omega
/-- equal subtrees have equal heights -/
theorem eq_ht {t0 t1 : TT} (h0 : wfT t0) (h1 : wfT t1) {x y : Int} (x0 : 0 ≤ x) (x1 : x < tn t0) (y0 : 0 ≤ y) (y1 : y < tn t1) (h : eqT t0 t1 x y) : ∀ (f : Nat) (k : Int), 0 ≤ k → k < te t0 x - x → te t0 x - x - k < f → th t0 (x + k) = th t1 (y + k)
  | 0, k, k0, k1, k2 => by omega
  | f + 1, k, k0, k1, k2 => by
    have ex := te_rng x1
    have ey := te_rng y1
    obtain ⟨hs, hk⟩ := h
    have u0 := hg_ok h0.1 (x + k) (by omega) (by omega)
    have u1 := hg_ok h1.1 (y + k) (by omega) (by omega)
    have r0 := th_rng h0 (x + k)
    have r1 := th_rng h1 (y + k)
    -- a child on one side is one on the other
    have le1 : th t0 (x + k) ≤ th t1 (y + k) := by
      rcases u0.2 with z | ⟨j, j0, j1, j2, j3⟩
      · have z : th t0 (x + k) = 1 := z
        omega
      · have j3 : th t0 (x + k) = th t0 j + 1 := j3
        have c1 := h0.1.2.2.1 j (by omega) j1
        have c2 : j < te t0 (x + k) := by
          have := (en_le h0.1 (k := j) (by omega) j1).1
          rw [j2] at this
          exact this
        have c3 := en_in h0.1 x0 x1 ((x + k).toNat + 1) (x + k) (by omega) (by omega) (by show x + k < te t0 x; omega)
        have c3' : te t0 (x + k) ≤ te t0 x := c3
        have c4 := eq_ht h0 h1 x0 x1 y0 y1 ⟨hs, hk⟩ f (j - x) (by omega) (by omega) (by omega)
        have c5 := (hk (j - x) (by omega) (by omega)).2.2
        rw [show x + (j - x) = j by omega] at c4 c5
        have c6 := u1.1 (y + (j - x)) (by omega) (by omega) (by omega)
        have c6' : th t1 (y + (j - x)) + 1 ≤ th t1 (y + k) := c6
        omega
    have le2 : th t1 (y + k) ≤ th t0 (x + k) := by
      rcases u1.2 with z | ⟨j, j0, j1, j2, j3⟩
      · have z : th t1 (y + k) = 1 := z
        omega
      · have j3 : th t1 (y + k) = th t1 j + 1 := j3
        have c1 := h1.1.2.2.1 j (by omega) j1
        have c2 : j < te t1 (y + k) := by
          have := (en_le h1.1 (k := j) (by omega) j1).1
          rw [j2] at this
          exact this
        have c3 := en_in h1.1 y0 y1 ((y + k).toNat + 1) (y + k) (by omega) (by omega) (by show y + k < te t1 y; omega)
        have c3' : te t1 (y + k) ≤ te t1 y := c3
        have c4 := eq_ht h0 h1 x0 x1 y0 y1 ⟨hs, hk⟩ f (j - y) (by omega) (by omega) (by omega)
        have c5 := (hk (j - y) (by omega) (by omega)).2.2
        rw [show y + (j - y) = j by omega] at c4 c5
        have c6 := u0.1 (x + (j - y)) (by omega) (by omega) (by omega)
        have c6' : th t0 (x + (j - y)) + 1 ≤ th t0 (x + k) := c6
        omega
    omega
/-! kinship -/
def kinF (t0 t1 : TT) : Nat → Int → Int → Int
  | 0, _, _ => 0
  | f + 1, a, b => if a < 0 ∨ b < 0 ∨ ¬ tl t0 a = tl t1 b then 0 else kinF t0 t1 f (tp t0 a) (tp t1 b) + 1
def kin (t0 t1 : TT) (x y : Int) : Int := kinF t0 t1 30 (tp t0 x) (tp t1 y)
theorem kinF_fuel {t0 t1 : TT} (h0 : wfT t0) : ∀ (f g : Nat) (a b : Int), a < tn t0 → a < f → a < g → kinF t0 t1 (f + 1) a b = kinF t0 t1 (g + 1) a b
  | f, g, a, b, h, hf, hg => by
    unfold kinF
    by_cases q : a < 0 ∨ b < 0 ∨ ¬ tl t0 a = tl t1 b
    · rw [if_pos q, if_pos q]
    · rw [if_neg q, if_neg q]
      have hp := tp_rng h0 (k := a) (by omega) h
      have hf1 : f = (f - 1) + 1 := by omega
      have hg1 : g = (g - 1) + 1 := by omega
      rw [hf1, hg1, kinF_fuel h0 (f - 1) (g - 1) (tp t0 a) (tp t1 b) (by omega) (by omega) (by omega)]
  termination_by f _ _ _ => f
  decreasing_by all_goals omega
theorem kinF_rng {t0 t1 : TT} (h0 : wfT t0) : ∀ (f : Nat) (a b : Int), a < tn t0 → -1 ≤ a → 0 ≤ kinF t0 t1 f a b ∧ kinF t0 t1 f a b ≤ a + 1
  | 0, a, b, _, _ => ⟨Int.le_refl _, by show 0 ≤ a + 1; omega⟩
  | f + 1, a, b, h, h1 => by
    unfold kinF
    by_cases q : a < 0 ∨ b < 0 ∨ ¬ tl t0 a = tl t1 b
    · rw [if_pos q]; omega
    · rw [if_neg q]
      have hp := tp_rng h0 (k := a) (by omega) h
      have := kinF_rng (t1 := t1) h0 f (tp t0 a) (tp t1 b) (by omega) (by omega)
      omega
