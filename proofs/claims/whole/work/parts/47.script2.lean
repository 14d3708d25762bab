/-! the making of a script, as one value -/
def rowF (t1 : TT) (Z : ZZ) (y : Int) : Nat → Int × (Int → Int)
  | 0 => (0, fun _ => 0)
  | k + 1 => if tp t1 (k : Int) = y ∧ zp Z (k : Int) ≠ -1 ∧ wa (zw Z) (zp Z (k : Int)) = rm Z y then ((rowF t1 Z y k).1 + 1, up (rowF t1 Z y k).2 (rowF t1 Z y k).1 (k : Int)) else rowF t1 Z y k
def inRow (t1 : TT) (Z : ZZ) (y k : Int) : Prop := tp t1 k = y ∧ zp Z k ≠ -1 ∧ wa (zw Z) (zp Z k) = rm Z y
theorem rowF_y {t1 : TT} {Z : ZZ} {y : Int} {k : Nat} (h : inRow t1 Z y (k : Int)) : rowF t1 Z y (k + 1) = ((rowF t1 Z y k).1 + 1, up (rowF t1 Z y k).2 (rowF t1 Z y k).1 (k : Int)) := if_pos h
theorem rowF_n {t1 : TT} {Z : ZZ} {y : Int} {k : Nat} (h : ¬ inRow t1 Z y (k : Int)) : rowF t1 Z y (k + 1) = rowF t1 Z y k := if_neg h
theorem rowF_ok {t1 : TT} {Z : ZZ} {y : Int} : ∀ (k : Nat), (0 ≤ (rowF t1 Z y k).1 ∧ (rowF t1 Z y k).1 ≤ k) ∧ (∀ i, 0 ≤ i → i < (rowF t1 Z y k).1 → 0 ≤ (rowF t1 Z y k).2 i ∧ (rowF t1 Z y k).2 i < k ∧ inRow t1 Z y ((rowF t1 Z y k).2 i)) ∧ ∀ i j, 0 ≤ i → i < j → j < (rowF t1 Z y k).1 → (rowF t1 Z y k).2 i < (rowF t1 Z y k).2 j
  | 0 => ⟨⟨Int.le_refl _, Int.le_refl _⟩, fun i a b => by have b : i < 0 := b; omega, fun i j a b c => by have c : j < 0 := c; omega⟩
  | k + 1 => by
    obtain ⟨h1, h2, h3⟩ := rowF_ok (t1 := t1) (Z := Z) (y := y) k
    by_cases q : inRow t1 Z y (k : Int)
    · rw [rowF_y q]
      refine ⟨⟨by show 0 ≤ (rowF t1 Z y k).1 + 1; omega, by show (rowF t1 Z y k).1 + 1 ≤ ((k + 1 : Nat) : Int); omega⟩, fun i a b => ?_, fun i j a b c => ?_⟩
      · have b : i < (rowF t1 Z y k).1 + 1 := b
        show 0 ≤ up (rowF t1 Z y k).2 (rowF t1 Z y k).1 (k : Int) i ∧ up (rowF t1 Z y k).2 (rowF t1 Z y k).1 (k : Int) i < ((k + 1 : Nat) : Int) ∧ inRow t1 Z y (up (rowF t1 Z y k).2 (rowF t1 Z y k).1 (k : Int) i)
        by_cases q2 : i = (rowF t1 Z y k).1
        · rw [q2, up_s]; exact ⟨by omega, by omega, q⟩
        · rw [up_n _ _ q2]
          have := h2 i a (by omega)
          exact ⟨this.1, by omega, this.2.2⟩
      · have c : j < (rowF t1 Z y k).1 + 1 := c
        show up (rowF t1 Z y k).2 (rowF t1 Z y k).1 (k : Int) i < up (rowF t1 Z y k).2 (rowF t1 Z y k).1 (k : Int) j
        rw [up_n _ _ (by omega : i ≠ (rowF t1 Z y k).1)]
        by_cases q2 : j = (rowF t1 Z y k).1
        · rw [q2, up_s]; exact (h2 i a (by omega)).2.1
        · rw [up_n _ _ q2]; exact h3 i j a b (by omega)
    · rw [rowF_n q]
      exact ⟨by omega, fun i a b => ⟨(h2 i a b).1, by have := (h2 i a b).2.1; omega, (h2 i a b).2.2⟩, h3⟩
def rc (t1 : TT) (Z : ZZ) (y : Int) : Int := (rowF t1 Z y (tn t1).toNat).1
def rv (t1 : TT) (Z : ZZ) (y : Int) : Int → Int := (rowF t1 Z y (tn t1).toNat).2
theorem rv_ok {t1 : TT} (w1 : wfT t1) {Z : ZZ} {y : Int} : (0 ≤ rc t1 Z y ∧ rc t1 Z y ≤ 24) ∧ (∀ i, 0 ≤ i → i < rc t1 Z y → 0 ≤ rv t1 Z y i ∧ rv t1 Z y i < tn t1 ∧ inRow t1 Z y (rv t1 Z y i)) ∧ ∀ i j, 0 ≤ i → i < j → j < rc t1 Z y → rv t1 Z y i < rv t1 Z y j := by
  have n1 := tn_rng w1
  obtain ⟨h1, h2, h3⟩ := rowF_ok (t1 := t1) (Z := Z) (y := y) (tn t1).toNat
  unfold rc rv
  exact ⟨by omega, fun i a b => ⟨(h2 i a b).1, by have := (h2 i a b).2.1; omega, (h2 i a b).2.2⟩, h3⟩
/-- the longest rising sequence that begins with i -/
def inL (P g : Int → Int) (i : Int) : Nat → Int
  | 0 => 1
  | k + 1 => if P i < P (i + 1 + (k : Int)) ∧ inL P g i k ≤ g (i + 1 + (k : Int)) then g (i + 1 + (k : Int)) + 1 else inL P g i k
theorem inL_rng {P g : Int → Int} {i n : Int} : ∀ (k : Nat), i + k < n → (∀ j, i < j → j < n → 1 ≤ g j ∧ g j ≤ n - j) → 1 ≤ inL P g i k ∧ inL P g i k ≤ n - i
  | 0, h, _ => by show 1 ≤ 1 ∧ 1 ≤ n - i; omega
  | k + 1, h, hg => by
    have ih := inL_rng (P := P) k (by omega) hg
    have := hg (i + 1 + (k : Int)) (by omega) (by omega)
    unfold inL
    split <;> omega
def lgR (P : Int → Int) (n : Int) : Nat → (Int → Int)
  | 0 => fun _ => 0
  | f + 1 => up (lgR P n f) (n - 1 - (f : Int)) (inL P (lgR P n f) (n - 1 - (f : Int)) f)
theorem lgR_rng {P : Int → Int} {n : Int} : ∀ (f : Nat), (f : Int) ≤ n → ∀ i, n - f ≤ i → i < n → 1 ≤ lgR P n f i ∧ lgR P n f i ≤ n - i
  | 0, _, i, a, b => by omega
  | f + 1, h, i, a, b => by
    have ih := lgR_rng (P := P) (n := n) f (by omega)
    show 1 ≤ up (lgR P n f) (n - 1 - (f : Int)) (inL P (lgR P n f) (n - 1 - (f : Int)) f) i ∧ up (lgR P n f) (n - 1 - (f : Int)) (inL P (lgR P n f) (n - 1 - (f : Int)) f) i ≤ n - i
    by_cases q : i = n - 1 - (f : Int)
    · rw [q, up_s]
      exact inL_rng f (by omega) (fun j j0 j1 => ih j (by omega) j1)
    · rw [up_n _ _ q]
      exact ih i (by omega) b
theorem lgR_up {P : Int → Int} {n : Int} (f : Nat) : ∀ (d : Nat) (i : Int), n - f ≤ i → lgR P n (f + d) i = lgR P n f i
  | 0, i, _ => rfl
  | d + 1, i, h => by
    show up (lgR P n (f + d)) (n - 1 - ((f + d : Nat) : Int)) _ i = _
    rw [up_n _ _ (by omega)]
    exact lgR_up f d i h
def mx (g : Int → Int) : Nat → Int
  | 0 => 0
  | k + 1 => if mx g k < g (k : Int) then g (k : Int) else mx g k
def isMx (g : Int → Int) (lo hi v : Int) : Prop := 0 ≤ v ∧ (∀ i, lo ≤ i → i < hi → g i ≤ v) ∧ (v = 0 ∨ ∃ i, lo ≤ i ∧ i < hi ∧ g i = v)
theorem isMx_uniq {g : Int → Int} {lo hi v v' : Int} (h : isMx g lo hi v) (h' : isMx g lo hi v') : v = v' := by
  obtain ⟨a, b, c⟩ := h
  obtain ⟨a', b', c'⟩ := h'
  have h1 : v ≤ v' := by
    rcases c with z | ⟨i, i0, i1, e⟩
    · omega
    · have := b' i i0 i1; omega
  have h2 : v' ≤ v := by
    rcases c' with z | ⟨i, i0, i1, e⟩
    · omega
    · have := b i i0 i1; omega
  omega
theorem mx_ok (g : Int → Int) : ∀ (k : Nat), isMx g 0 k (mx g k)
  | 0 => ⟨Int.le_refl _, fun i a b => by omega, Or.inl rfl⟩
  | k + 1 => by
    obtain ⟨a, b, c⟩ := mx_ok g k
    unfold mx
    by_cases q : mx g k < g (k : Int)
    · rw [if_pos q]
      refine ⟨by omega, fun i i0 i1 => ?_, Or.inr ⟨(k : Int), by omega, by omega, rfl⟩⟩
      by_cases q2 : i = (k : Int)
      · rw [q2]; exact Int.le_refl _
      · have := b i i0 (by omega); omega
    · rw [if_neg q]
      refine ⟨a, fun i i0 i1 => ?_, ?_⟩
      · by_cases q2 : i = (k : Int)
        · rw [q2]; omega
        · exact b i i0 (by omega)
      · rcases c with z | ⟨i, i0, i1, e⟩
        · exact Or.inl z
        · exact Or.inr ⟨i, i0, by omega, e⟩
theorem mx_rng {g : Int → Int} {k : Nat} {B : Int} (hB : 0 ≤ B) (h : ∀ i : Int, 0 ≤ i → i < k → g i ≤ B) : 0 ≤ mx g k ∧ mx g k ≤ B := by
  obtain ⟨a, b, c⟩ := mx_ok g k
  refine ⟨a, ?_⟩
  rcases c with z | ⟨i, i0, i1, e⟩
  · omega
  · have := h i i0 i1; omega
/-- due, last place, marks, lengths of those not marked -/
abbrev MK : Type := Int × Int × (Int → Int) × (Int → Int)
def mkF (P g r : Int → Int) (d : Int) (m0 : Int → Int) : Nat → MK
  | 0 => (d, -1, m0, g)
  | k + 1 => if g (k : Int) = (mkF P g r d m0 k).1 ∧ (mkF P g r d m0 k).2.1 < P (k : Int) then ((mkF P g r d m0 k).1 - 1, P (k : Int), up (mkF P g r d m0 k).2.2.1 (r (k : Int)) 1, up (mkF P g r d m0 k).2.2.2 (k : Int) 0) else mkF P g r d m0 k
theorem mkF_y {P g r : Int → Int} {d : Int} {m0 : Int → Int} {k : Nat} (h : g (k : Int) = (mkF P g r d m0 k).1 ∧ (mkF P g r d m0 k).2.1 < P (k : Int)) : mkF P g r d m0 (k + 1) = ((mkF P g r d m0 k).1 - 1, P (k : Int), up (mkF P g r d m0 k).2.2.1 (r (k : Int)) 1, up (mkF P g r d m0 k).2.2.2 (k : Int) 0) := if_pos h
theorem mkF_n {P g r : Int → Int} {d : Int} {m0 : Int → Int} {k : Nat} (h : ¬ (g (k : Int) = (mkF P g r d m0 k).1 ∧ (mkF P g r d m0 k).2.1 < P (k : Int))) : mkF P g r d m0 (k + 1) = mkF P g r d m0 k := if_neg h
/-- what the marking keeps -/
def mkI (P g r : Int → Int) (d : Int) (m0 : Int → Int) (n : Int) (k : Nat) (s : MK) : Prop :=
  (d - k ≤ s.1 ∧ s.1 ≤ d) ∧ (s.2.1 = -1 ∨ ∃ i, 0 ≤ i ∧ i < (k : Int) ∧ s.2.1 = P i) ∧ (∀ z, s.2.2.1 z = m0 z ∨ (s.2.2.1 z = 1 ∧ ∃ i, 0 ≤ i ∧ i < (k : Int) ∧ z = r i)) ∧ (∀ i, (k : Int) ≤ i → s.2.2.2 i = g i) ∧
  ∀ i, 0 ≤ i → i < n → (s.2.2.1 (r i) = 0 ∧ s.2.2.2 i = g i) ∨ (s.2.2.1 (r i) = 1 ∧ s.2.2.2 i = 0 ∧ i < (k : Int))
theorem mkF_ok {P g r : Int → Int} {d : Int} {m0 : Int → Int} {n : Int} (hr : ∀ i j, 0 ≤ i → i < j → j < n → r i < r j) (hm : ∀ i, 0 ≤ i → i < n → m0 (r i) = 0) : ∀ (k : Nat), (k : Int) ≤ n → mkI P g r d m0 n k (mkF P g r d m0 k)
  | 0, _ => ⟨⟨by show d - ((0 : Nat) : Int) ≤ d; omega, Int.le_refl _⟩, Or.inl rfl, fun z => Or.inl rfl, fun i _ => rfl, fun i a b => Or.inl ⟨hm i a b, rfl⟩⟩
  | k + 1, hk => by
    obtain ⟨h1, h2, h3, h4, h5⟩ := mkF_ok (P := P) (g := g) (d := d) hr hm k (by omega)
    by_cases q : g (k : Int) = (mkF P g r d m0 k).1 ∧ (mkF P g r d m0 k).2.1 < P (k : Int)
    · rw [mkF_y q]
      refine ⟨by show d - ((k + 1 : Nat) : Int) ≤ (mkF P g r d m0 k).1 - 1 ∧ (mkF P g r d m0 k).1 - 1 ≤ d; omega, Or.inr ⟨(k : Int), by omega, by omega, rfl⟩, fun z => ?_, fun i hi => ?_, fun i i0 i1 => ?_⟩
      · show up (mkF P g r d m0 k).2.2.1 (r (k : Int)) 1 z = m0 z ∨ (up (mkF P g r d m0 k).2.2.1 (r (k : Int)) 1 z = 1 ∧ _)
        by_cases q2 : z = r (k : Int)
        · rw [q2, up_s]; exact Or.inr ⟨rfl, (k : Int), by omega, by omega, rfl⟩
        · rw [up_n _ _ q2]
          rcases h3 z with y | ⟨y, i, i0, i1, e⟩
          · exact Or.inl y
          · exact Or.inr ⟨y, i, i0, by omega, e⟩
      · show up (mkF P g r d m0 k).2.2.2 (k : Int) 0 i = g i
        rw [up_n _ _ (by omega)]
        exact h4 i (by omega)
      · show (up (mkF P g r d m0 k).2.2.1 (r (k : Int)) 1 (r i) = 0 ∧ up (mkF P g r d m0 k).2.2.2 (k : Int) 0 i = g i) ∨ (up (mkF P g r d m0 k).2.2.1 (r (k : Int)) 1 (r i) = 1 ∧ up (mkF P g r d m0 k).2.2.2 (k : Int) 0 i = 0 ∧ i < ((k + 1 : Nat) : Int))
        by_cases q2 : i = (k : Int)
        · rw [q2, up_s, up_s]; exact Or.inr ⟨rfl, rfl, by omega⟩
        · have hne : r i ≠ r (k : Int) := fun e => by
            rcases Int.lt_or_gt_of_ne q2 with z | z
            · have := hr i (k : Int) i0 z (by omega); omega
            · have := hr (k : Int) i (by omega) z i1; omega
          rw [up_n _ _ hne, up_n _ _ q2]
          rcases h5 i i0 i1 with y | y
          · exact Or.inl y
          · exact Or.inr ⟨y.1, y.2.1, by omega⟩
    · rw [mkF_n q]
      refine ⟨by omega, ?_, fun z => ?_, fun i hi => h4 i (by omega), fun i i0 i1 => ?_⟩
      · rcases h2 with y | ⟨i, i0, i1, e⟩
        · exact Or.inl y
        · exact Or.inr ⟨i, i0, by omega, e⟩
      · rcases h3 z with y | ⟨y, i, i0, i1, e⟩
        · exact Or.inl y
        · exact Or.inr ⟨y, i, i0, by omega, e⟩
      · rcases h5 i i0 i1 with y | y
        · exact Or.inl y
        · exact Or.inr ⟨y.1, y.2.1, by omega⟩
def smZ (Z : ZZ) (m : Int → Int) : ZZ := (zw Z, zn Z, zs Z, zp Z, m)
def mvL (t1 : TT) (r : Int → Int) (Z : ZZ) : Nat → ZZ
  | 0 => Z
  | k + 1 => if zm (mvL t1 r Z k) (r (k : Int)) = 0 then mvZ t1 (mvL t1 r Z k) (r (k : Int)) else mvL t1 r Z k
theorem mvL_y {t1 : TT} {r : Int → Int} {Z : ZZ} {k : Nat} (h : zm (mvL t1 r Z k) (r (k : Int)) = 0) : mvL t1 r Z (k + 1) = mvZ t1 (mvL t1 r Z k) (r (k : Int)) := if_pos h
theorem mvL_n {t1 : TT} {r : Int → Int} {Z : ZZ} {k : Nat} (h : ¬ zm (mvL t1 r Z k) (r (k : Int)) = 0) : mvL t1 r Z (k + 1) = mvL t1 r Z k := if_neg h
def pz (t1 : TT) (Z : ZZ) (y i : Int) : Int := wp (zw Z) (zp Z (rv t1 Z y i))
def lz (t1 : TT) (Z : ZZ) (y : Int) : Int → Int := lgR (pz t1 Z y) (rc t1 Z y) (rc t1 Z y).toNat
def mz (t1 : TT) (Z : ZZ) (y : Int) : Nat → MK := mkF (pz t1 Z y) (lz t1 Z y) (rv t1 Z y) (mx (lz t1 Z y) (rc t1 Z y).toNat) (zm Z)
def okd (t1 : TT) (Z : ZZ) (y : Int) : ZZ := smZ Z (mz t1 Z y (rc t1 Z y).toNat).2.2.1
def ordZ (t1 : TT) (Z : ZZ) (y : Int) : ZZ := mvL t1 (rv t1 Z y) (okd t1 Z y) (rc t1 Z y).toNat
/-- how many are not marked -/
def un (t1 : TT) (Z : ZZ) : Nat := cU (fun k => zm Z k - 1) (tn t1).toNat
theorem un_le (t1 : TT) (Z : ZZ) : un t1 Z ≤ (tn t1).toNat := cU_le _ _
theorem un_mono {t1 : TT} {Z Z' : ZZ} (h : ∀ k, 0 ≤ k → k < tn t1 → zm Z' k = 0 → zm Z k = 0) : un t1 Z' ≤ un t1 Z := cU_mono _ (fun j a b c => by
  have c : zm Z' j - 1 = -1 := c
  have := h j a (by omega) (by omega)
  show zm Z j - 1 = -1
  omega)
theorem un_lt {t1 : TT} {Z Z' : ZZ} {y : Int} (y0 : 0 ≤ y) (y1 : y < tn t1) (hy : zm Z y = 0) (hy' : zm Z' y ≠ 0) (h : ∀ k, 0 ≤ k → k < tn t1 → zm Z' k = 0 → zm Z k = 0) : un t1 Z' < un t1 Z := cU_lt y0 (by show zm Z y - 1 = -1; omega) (by show zm Z' y - 1 ≠ -1; omega) _ (by omega) (fun j a b c => by
  have c : zm Z' j - 1 = -1 := c
  have := h j a (by omega) (by omega)
  show zm Z j - 1 = -1
  omega)
theorem mv_un {t1 : TT} {Z : ZZ} {y : Int} (y0 : 0 ≤ y) (y1 : y < tn t1) : un t1 (mvZ t1 Z y) ≤ un t1 Z ∧ (zm Z y = 0 → un t1 (mvZ t1 Z y) < un t1 Z) := by
  have h : ∀ k, 0 ≤ k → k < tn t1 → zm (mvZ t1 Z y) k = 0 → zm Z k = 0 := fun k _ _ e => by
    have e : up (zm Z) y 1 k = 0 := e
    by_cases q : k = y
    · rw [q, up_s] at e; omega
    · rw [up_n _ _ q] at e; exact e
  exact ⟨un_mono h, fun z => un_lt y0 y1 z (by show up (zm Z) y 1 y ≠ 0; rw [up_s]; omega) h⟩
theorem ZI_sm {t0 t1 : TT} {Z : ZZ} (h : ZI t0 t1 Z) {y : Int} (hr : rm Z y ≠ -1) {m : Int → Int} (hm : ∀ k, 0 ≤ k → k < tn t1 → m k = zm Z k ∨ (m k = 1 ∧ inRow t1 Z y k)) : ZI t0 t1 (smZ Z m) := by
  obtain ⟨h1, h2, h3, h4, h5, h6, h7, h8⟩ := h
  refine ⟨h1, h2, h3, h4, h5, h6, fun k k0 k1 => ?_, h8⟩
  show (m k = 0 ∨ m k = 1) ∧ (m k ≠ 0 → zp Z k ≠ -1 ∧ rm Z (tp t1 k) ≠ -1 ∧ wa (zw Z) (zp Z k) = rm Z (tp t1 k))
  rcases hm k k0 k1 with z | z
  · rw [z]; exact h7 k k0 k1
  · rw [z.1]
    refine ⟨Or.inr rfl, fun _ => ⟨z.2.2.1, ?_, ?_⟩⟩
    · rw [z.2.1]; exact hr
    · rw [z.2.1]; exact z.2.2.2
/-- the marks of a row -/
theorem okd_ok {t0 t1 : TT} (w1 : wfT t1) {Z : ZZ} (h : ZI t0 t1 Z) {y : Int} (hr : rm Z y ≠ -1) (hu : ∀ k, 0 ≤ k → k < tn t1 → tp t1 k = y → zm Z k = 0) : ZI t0 t1 (okd t1 Z y) ∧ un t1 (okd t1 Z y) ≤ un t1 Z ∧ (∀ k, 0 ≤ k → k < tn t1 → zm (okd t1 Z y) k ≠ 0 → zm Z k ≠ 0 ∨ tp t1 k = y) ∧ ∀ k : Nat, (k : Int) ≤ rc t1 Z y → mkI (pz t1 Z y) (lz t1 Z y) (rv t1 Z y) (mx (lz t1 Z y) (rc t1 Z y).toNat) (zm Z) (rc t1 Z y) k (mz t1 Z y k) := by
  obtain ⟨v1, v2, v3⟩ := rv_ok w1 (Z := Z) (y := y)
  have hk : ∀ k : Nat, (k : Int) ≤ rc t1 Z y → mkI (pz t1 Z y) (lz t1 Z y) (rv t1 Z y) (mx (lz t1 Z y) (rc t1 Z y).toNat) (zm Z) (rc t1 Z y) k (mz t1 Z y k) := fun k hk => mkF_ok v3 (fun i a b => hu _ (v2 i a b).1 (v2 i a b).2.1 (v2 i a b).2.2.1) k hk
  have hn := hk (rc t1 Z y).toNat (by omega)
  have hm : ∀ k, 0 ≤ k → k < tn t1 → (mz t1 Z y (rc t1 Z y).toNat).2.2.1 k = zm Z k ∨ ((mz t1 Z y (rc t1 Z y).toNat).2.2.1 k = 1 ∧ inRow t1 Z y k) := fun k _ _ => by
    rcases hn.2.2.1 k with z | ⟨z, i, i0, i1, e⟩
    · exact Or.inl z
    · exact Or.inr ⟨z, by rw [e]; exact (v2 i i0 (by omega)).2.2⟩
  refine ⟨ZI_sm h hr hm, un_mono (fun k k0 k1 e => ?_), fun k k0 k1 e => ?_, hk⟩
  · have e : (mz t1 Z y (rc t1 Z y).toNat).2.2.1 k = 0 := e
    rcases hm k k0 k1 with z | z <;> omega
  · have e : (mz t1 Z y (rc t1 Z y).toNat).2.2.1 k ≠ 0 := e
    rcases hm k k0 k1 with z | z
    · exact Or.inl (by omega)
    · exact Or.inr z.2.1
/-- what holds between the moves of a row -/
def mvI (t0 t1 : TT) (Z : ZZ) (y : Int) (k : Nat) (Z1 : ZZ) : Prop := ZI t0 t1 Z1 ∧ zp Z1 = zp Z ∧ (∀ z, 0 ≤ z → z < tn t1 → zm Z1 z ≠ 0 → zm Z z ≠ 0 ∨ tp t1 z = y) ∧ zn Z1 + un t1 Z1 ≤ zn Z + un t1 Z ∧ ∀ i, (k : Int) ≤ i → i < rc t1 Z y → zm Z1 (rv t1 Z y i) = zm (okd t1 Z y) (rv t1 Z y i)
theorem mvL_ok {t0 t1 : TT} (w1 : wfT t1) {Z : ZZ} (h : ZI t0 t1 Z) {y : Int} (hr : rm Z y ≠ -1) (hu : ∀ k, 0 ≤ k → k < tn t1 → tp t1 k = y → zm Z k = 0) : ∀ (k : Nat), (k : Int) ≤ rc t1 Z y → mvI t0 t1 Z y k (mvL t1 (rv t1 Z y) (okd t1 Z y) k)
  | 0, _ => by
    have e := okd_ok w1 h hr hu
    exact ⟨e.1, rfl, e.2.2.1, Nat.add_le_add_left e.2.1 _, fun i _ _ => rfl⟩
  | k + 1, hk => by
    obtain ⟨h1, h2, h3, h4, h5⟩ := mvL_ok w1 h hr hu k (by omega)
    obtain ⟨v1, v2, v3⟩ := rv_ok w1 (Z := Z) (y := y)
    have vk := v2 (k : Int) (by omega) (by omega)
    by_cases q : zm (mvL t1 (rv t1 Z y) (okd t1 Z y) k) (rv t1 Z y (k : Int)) = 0
    · rw [mvL_y q]
      have hp : zp (mvL t1 (rv t1 Z y) (okd t1 Z y) k) (rv t1 Z y (k : Int)) ≠ -1 := by rw [h2]; exact vk.2.2.2.1
      have hrm : rm (mvL t1 (rv t1 Z y) (okd t1 Z y) k) (tp t1 (rv t1 Z y (k : Int))) ≠ -1 := by
        rw [vk.2.2.1]
        unfold rm
        rw [h2]
        exact hr
      have hz := ZI_mv w1 h1 vk.1 vk.2.1 hp hrm
      have hun := (mv_un (t1 := t1) (Z := mvL t1 (rv t1 Z y) (okd t1 Z y) k) vk.1 vk.2.1).2 q
      refine ⟨hz.1, h2, fun z z0 z1 e => ?_, ?_, fun i i0 i1 => ?_⟩
      · have e : up (zm (mvL t1 (rv t1 Z y) (okd t1 Z y) k)) (rv t1 Z y (k : Int)) 1 z ≠ 0 := e
        by_cases q2 : z = rv t1 Z y (k : Int)
        · right; rw [q2]; exact vk.2.2.1
        · rw [up_n _ _ q2] at e; exact h3 z z0 z1 e
      · show zn (mvL t1 (rv t1 Z y) (okd t1 Z y) k) + 1 + un t1 (mvZ t1 (mvL t1 (rv t1 Z y) (okd t1 Z y) k) (rv t1 Z y (k : Int))) ≤ _
        omega
      · show up (zm (mvL t1 (rv t1 Z y) (okd t1 Z y) k)) (rv t1 Z y (k : Int)) 1 (rv t1 Z y i) = _
        have := v3 (k : Int) i (by omega) (by omega) i1
        rw [up_n _ _ (by omega)]
        exact h5 i (by omega) i1
    · rw [mvL_n q]
      exact ⟨h1, h2, h3, h4, fun i i0 i1 => h5 i (by omega) i1⟩
theorem ord_ok {t0 t1 : TT} (w1 : wfT t1) {Z : ZZ} (h : ZI t0 t1 Z) {y : Int} (hr : rm Z y ≠ -1) (hu : ∀ k, 0 ≤ k → k < tn t1 → tp t1 k = y → zm Z k = 0) : ZI t0 t1 (ordZ t1 Z y) ∧ zp (ordZ t1 Z y) = zp Z ∧ (∀ z, 0 ≤ z → z < tn t1 → zm (ordZ t1 Z y) z ≠ 0 → zm Z z ≠ 0 ∨ tp t1 z = y) ∧ zn (ordZ t1 Z y) + un t1 (ordZ t1 Z y) ≤ zn Z + un t1 Z := by
  have v1 := (rv_ok w1 (Z := Z) (y := y)).1
  have e := mvL_ok w1 h hr hu (rc t1 Z y).toNat (by omega)
  exact ⟨e.1, e.2.1, e.2.2.1, e.2.2.2.1⟩
def upd1 (t1 : TT) (Z : ZZ) (y : Int) : ZZ := if wv (zw Z) (zp Z y) = tv t1 y then Z else updZ Z (zp Z y) (tv t1 y)
def mv1 (t1 : TT) (Z : ZZ) (y : Int) : ZZ := if wa (zw Z) (zp Z y) = rm Z (tp t1 y) then Z else mvZ t1 Z y
def inl (t1 : TT) (Z : ZZ) (y : Int) : ZZ := if zp Z y = -1 then insZ t1 Z y else mv1 t1 (upd1 t1 Z y) y
def brgZ (t1 : TT) (Z : ZZ) (y : Int) : ZZ := ordZ t1 (inl t1 Z y) y
theorem upd1_ok {t0 t1 : TT} (w1 : wfT t1) {Z : ZZ} (h : ZI t0 t1 Z) {y : Int} (y0 : 0 ≤ y) (y1 : y < tn t1) (hp : zp Z y ≠ -1) : ZI t0 t1 (upd1 t1 Z y) ∧ zp (upd1 t1 Z y) = zp Z ∧ zm (upd1 t1 Z y) = zm Z ∧ zn (upd1 t1 Z y) ≤ zn Z + 1 := by
  unfold upd1
  have hy := (h.2.2.2.1 y y0 y1).resolve_left hp
  by_cases q : wv (zw Z) (zp Z y) = tv t1 y
  · rw [if_pos q]; exact ⟨h, rfl, rfl, by omega⟩
  · rw [if_neg q]; exact ⟨ZI_upd h hy.1 hy.2.1 hy.2.2.1 (w1.2 y y0 y1).2, rfl, rfl, Nat.le_refl _⟩
theorem mv1_ok {t0 t1 : TT} (w1 : wfT t1) {Z : ZZ} (h : ZI t0 t1 Z) {y : Int} (y0 : 0 ≤ y) (y1 : y < tn t1) (hp : zp Z y ≠ -1) (hr : rm Z (tp t1 y) ≠ -1) : ZI t0 t1 (mv1 t1 Z y) ∧ zp (mv1 t1 Z y) = zp Z ∧ (∀ z, zm (mv1 t1 Z y) z ≠ 0 → zm Z z ≠ 0 ∨ z = y) ∧ zn (mv1 t1 Z y) + un t1 (mv1 t1 Z y) ≤ zn Z + un t1 Z + 1 := by
  unfold mv1
  by_cases q : wa (zw Z) (zp Z y) = rm Z (tp t1 y)
  · rw [if_pos q]; exact ⟨h, rfl, fun z e => Or.inl e, by omega⟩
  · rw [if_neg q]
    have hun := (mv_un (t1 := t1) (Z := Z) y0 y1).1
    refine ⟨(ZI_mv w1 h y0 y1 hp hr).1, rfl, fun z e => ?_, ?_⟩
    · have e : up (zm Z) y 1 z ≠ 0 := e
      by_cases q2 : z = y
      · exact Or.inr q2
      · rw [up_n _ _ q2] at e; exact Or.inl e
    · show zn Z + 1 + un t1 (mvZ t1 Z y) ≤ _
      omega
theorem inl_ok {t0 t1 : TT} (w1 : wfT t1) {Z : ZZ} (h : ZI t0 t1 Z) {y : Int} (y0 : 0 ≤ y) (y1 : y < tn t1) (hr : rm Z (tp t1 y) ≠ -1) : ZI t0 t1 (inl t1 Z y) ∧ (∀ k, zp Z k ≠ -1 ∨ k = y → zp (inl t1 Z y) k ≠ -1) ∧ (∀ z, zm (inl t1 Z y) z ≠ 0 → zm Z z ≠ 0 ∨ z = y) ∧ zn (inl t1 Z y) + un t1 (inl t1 Z y) ≤ zn Z + un t1 Z + 2 := by
  unfold inl
  by_cases q : zp Z y = -1
  · rw [if_pos q]
    have hun : un t1 (insZ t1 Z y) ≤ un t1 Z := un_mono (fun k _ _ e => by
      have e : up (zm Z) y 1 k = 0 := e
      by_cases q : k = y
      · rw [q, up_s] at e; omega
      · rw [up_n _ _ q] at e; exact e)
    refine ⟨(ZI_ins w1 h y0 y1 q hr).1, fun k hk => ?_, fun z e => ?_, ?_⟩
    · show up (zp Z) y (24 + y) k ≠ -1
      by_cases q2 : k = y
      · rw [q2, up_s]; omega
      · rw [up_n _ _ q2]; exact hk.resolve_right q2
    · have e : up (zm Z) y 1 z ≠ 0 := e
      by_cases q2 : z = y
      · exact Or.inr q2
      · rw [up_n _ _ q2] at e; exact Or.inl e
    · show zn Z + 1 + un t1 (insZ t1 Z y) ≤ _
      omega
  · rw [if_neg q]
    obtain ⟨u1, u2, u3, u4⟩ := upd1_ok w1 h y0 y1 q
    have hr2 : rm (upd1 t1 Z y) (tp t1 y) ≠ -1 := by unfold rm; rw [u2]; exact hr
    obtain ⟨v1, v2, v3, v4⟩ := mv1_ok w1 u1 y0 y1 (by rw [u2]; exact q) hr2
    have hun : un t1 (upd1 t1 Z y) = un t1 Z := by unfold un; rw [u3]
    refine ⟨v1, fun k hk => ?_, fun z e => ?_, by omega⟩
    · rw [v2, u2]
      rcases hk with z | z
      · exact z
      · rw [z]; exact q
    · have := v3 z e
      rw [u3] at this
      exact this
theorem brg_ok {t0 t1 : TT} (w1 : wfT t1) {Z : ZZ} (h : ZI t0 t1 Z) {y : Int} (y0 : 0 ≤ y) (y1 : y < tn t1) (hr : rm Z (tp t1 y) ≠ -1) (hu : ∀ k, 0 ≤ k → k < tn t1 → tp t1 k = y → zm Z k = 0) :
    (rm (inl t1 Z y) y ≠ -1 ∧ ∀ k, 0 ≤ k → k < tn t1 → tp t1 k = y → zm (inl t1 Z y) k = 0) ∧ ZI t0 t1 (brgZ t1 Z y) ∧ (∀ k, zp Z k ≠ -1 ∨ k = y → zp (brgZ t1 Z y) k ≠ -1) ∧ (∀ z, 0 ≤ z → z < tn t1 → zm (brgZ t1 Z y) z ≠ 0 → zm Z z ≠ 0 ∨ z = y ∨ tp t1 z = y) ∧ zn (brgZ t1 Z y) + un t1 (brgZ t1 Z y) ≤ zn Z + un t1 Z + 2 := by
  obtain ⟨a1, a2, a3, a4⟩ := inl_ok w1 h y0 y1 hr
  have hr2 : rm (inl t1 Z y) y ≠ -1 := by unfold rm; rw [if_neg (by omega)]; exact a2 y (Or.inr rfl)
  have hu2 : ∀ k, 0 ≤ k → k < tn t1 → tp t1 k = y → zm (inl t1 Z y) k = 0 := fun k k0 k1 e => by
    by_cases q : zm (inl t1 Z y) k = 0
    · exact q
    · have hk := tp_rng w1 k0 k1
      rcases a3 k q with z | z
      · exact absurd (hu k k0 k1 e) z
      · omega
  obtain ⟨b1, b2, b3, b4⟩ := ord_ok w1 a1 hr2 hu2
  refine ⟨⟨hr2, hu2⟩, b1, fun k hk => ?_, fun z z0 z1 e => ?_, by unfold brgZ; omega⟩
  · show zp (ordZ t1 (inl t1 Z y) y) k ≠ -1
    rw [b2]; exact a2 k hk
  · rcases b3 z z0 z1 e with w | w
    · rcases a3 z w with v | v
      · exact Or.inl v
      · exact Or.inr (Or.inl v)
    · exact Or.inr (Or.inr w)
/-- level by level -/
def yl (t1 : TT) (L : Int) (Z : ZZ) : Nat → ZZ
  | 0 => Z
  | k + 1 => if dp (tp t1) (k : Int) = L then brgZ t1 (yl t1 L Z k) (k : Int) else yl t1 L Z k
theorem yl_y {t1 : TT} {L : Int} {Z : ZZ} {k : Nat} (h : dp (tp t1) (k : Int) = L) : yl t1 L Z (k + 1) = brgZ t1 (yl t1 L Z k) (k : Int) := if_pos h
theorem yl_n {t1 : TT} {L : Int} {Z : ZZ} {k : Nat} (h : ¬ dp (tp t1) (k : Int) = L) : yl t1 L Z (k + 1) = yl t1 L Z k := if_neg h
def bf (t1 : TT) (Z : ZZ) : Nat → ZZ
  | 0 => Z
  | L + 1 => yl t1 (L : Int) (bf t1 Z L) (tn t1).toNat
def pd (t1 : TT) (L y k : Int) : Prop := dp (tp t1) k < L ∨ (dp (tp t1) k = L ∧ k < y)
def pdV (t1 : TT) (L y k : Int) : Int := if dp (tp t1) k < L ∨ (dp (tp t1) k = L ∧ k < y) then -1 else 0
theorem pdV_1 {t1 : TT} {L y k : Int} (h : pd t1 L y k) : pdV t1 L y k = -1 := if_pos h
theorem pdV_0 {t1 : TT} {L y k : Int} (h : ¬ pd t1 L y k) : pdV t1 L y k = 0 := if_neg h
theorem pdV_2 {t1 : TT} {L y k : Int} (h : pdV t1 L y k = -1) : pd t1 L y k := by
  by_cases q : pd t1 L y k
  · exact q
  · rw [pdV_0 q] at h; omega
def pcn (t1 : TT) (L y : Int) : Nat := cU (pdV t1 L y) (tn t1).toNat
theorem pcn_mono {t1 : TT} {L y L' y' : Int} (h : ∀ k, 0 ≤ k → k < tn t1 → pd t1 L y k → pd t1 L' y' k) : pcn t1 L y ≤ pcn t1 L' y' := cU_mono _ (fun j a b c => pdV_1 (h j a (by omega) (pdV_2 c)))
theorem pcn_lt {t1 : TT} {L y : Int} (y0 : 0 ≤ y) (y1 : y < tn t1) (hy : dp (tp t1) y = L) : pcn t1 L y < pcn t1 L (y + 1) := by
  unfold pcn
  refine cU_lt y0 (pdV_1 (Or.inr ⟨hy, by omega⟩)) ?_ _ (by omega) (fun j a b c => pdV_1 ?_)
  · rw [pdV_0 (by unfold pd; omega)]; omega
  · have := pdV_2 c
    unfold pd at this ⊢
    omega
theorem pcn_le (t1 : TT) (w1 : wfT t1) (L y : Int) : pcn t1 L y ≤ 24 := by
  have h1 : pcn t1 L y ≤ (tn t1).toNat := cU_le _ _
  have := tn_rng w1
  omega
def BI (t0 t1 : TT) (L y : Int) (Z : ZZ) : Prop := ZI t0 t1 Z ∧ (∀ k, 0 ≤ k → k < tn t1 → pd t1 L y k → zp Z k ≠ -1) ∧ (∀ k, 0 ≤ k → k < tn t1 → zm Z k ≠ 0 → tp t1 k < 0 ∨ pd t1 L y (tp t1 k)) ∧ zn Z + un t1 Z ≤ 24 + 2 * pcn t1 L y
/-- the next node of a level may be brought into line -/
theorem BI_pre {t0 t1 : TT} (w1 : wfT t1) {L y : Int} {Z : ZZ} (h : BI t0 t1 L y Z) (y0 : 0 ≤ y) (y1 : y < tn t1) (hy : dp (tp t1) y = L) : rm Z (tp t1 y) ≠ -1 ∧ (∀ k, 0 ≤ k → k < tn t1 → tp t1 k = y → zm Z k = 0) ∧ zn Z ≤ 70 := by
  have hb := pcn_lt y0 y1 hy
  have hb2 := pcn_le t1 w1 L (y + 1)
  have hq := tp_rng w1 y0 y1
  refine ⟨?_, fun k k0 k1 e => ?_, by have := h.2.2.2; omega⟩
  · unfold rm
    by_cases q : tp t1 y < 0
    · rw [if_pos q]; omega
    · rw [if_neg q]
      refine h.2.1 _ (by omega) (by omega) (Or.inl ?_)
      have q1 : 1 ≤ y := by
        by_cases q2 : y = 0
        · have := hq.2.2.2 q2; omega
        · omega
      have := dp_s w1.1 q1 y1
      omega
  · by_cases q : zm Z k = 0
    · exact q
    · rcases h.2.2.1 k k0 k1 q with z | z
      · omega
      · rw [e] at z; unfold pd at z; omega
theorem BI_step {t0 t1 : TT} (w1 : wfT t1) {L y : Int} {Z : ZZ} (h : BI t0 t1 L y Z) (y0 : 0 ≤ y) (y1 : y < tn t1) (hy : dp (tp t1) y = L) : BI t0 t1 L (y + 1) (brgZ t1 Z y) := by
  obtain ⟨hr, hu, _⟩ := BI_pre w1 h y0 y1 hy
  obtain ⟨_, b1, b2, b3, b4⟩ := brg_ok w1 h.1 y0 y1 hr hu
  have hc := pcn_lt y0 y1 hy
  have hq := tp_rng w1 y0 y1
  refine ⟨b1, fun k k0 k1 p => ?_, fun k k0 k1 e => ?_, by have := h.2.2.2; omega⟩
  · by_cases q : k = y
    · exact b2 k (Or.inr q)
    · exact b2 k (Or.inl (h.2.1 k k0 k1 (by unfold pd at p ⊢; omega)))
  · rcases b3 k k0 k1 e with z | z | z
    · rcases h.2.2.1 k k0 k1 z with w | w
      · exact Or.inl w
      · exact Or.inr (by unfold pd at w ⊢; omega)
    · rw [z]
      by_cases q : tp t1 y < 0
      · exact Or.inl q
      · right; left
        have q1 : 1 ≤ y := by
          by_cases q2 : y = 0
          · have := hq.2.2.2 q2; omega
          · omega
        have := dp_s w1.1 q1 y1
        omega
    · rw [z]; exact Or.inr (Or.inr ⟨hy, by omega⟩)
theorem BI_skip {t0 t1 : TT} {L y : Int} {Z : ZZ} (h : BI t0 t1 L y Z) (hy : ¬ dp (tp t1) y = L) : BI t0 t1 L (y + 1) Z := by
  have e : ∀ k, pd t1 L (y + 1) k → pd t1 L y k := fun k p => by
    unfold pd at p ⊢
    by_cases q : k = y
    · rw [q] at p ⊢; omega
    · omega
  have e2 : ∀ k, pd t1 L y k → pd t1 L (y + 1) k := fun k p => by unfold pd at p ⊢; omega
  refine ⟨h.1, fun k k0 k1 p => h.2.1 k k0 k1 (e k p), fun k k0 k1 z => ?_, ?_⟩
  · rcases h.2.2.1 k k0 k1 z with w | w
    · exact Or.inl w
    · exact Or.inr (e2 _ w)
  · have := pcn_mono (t1 := t1) (L := L) (y := y) (L' := L) (y' := y + 1) (fun k _ _ p => e2 k p)
    have := h.2.2.2
    omega
theorem BI_next {t0 t1 : TT} {L : Int} {Z : ZZ} (h : BI t0 t1 L (tn t1) Z) : BI t0 t1 (L + 1) 0 Z := by
  have e : ∀ k, 0 ≤ k → k < tn t1 → pd t1 (L + 1) 0 k → pd t1 L (tn t1) k := fun k a b p => by unfold pd at p ⊢; omega
  have e2 : ∀ k, 0 ≤ k → pd t1 L (tn t1) k → pd t1 (L + 1) 0 k := fun k a p => by unfold pd at p ⊢; omega
  refine ⟨h.1, fun k k0 k1 p => h.2.1 k k0 k1 (e k k0 k1 p), fun k k0 k1 z => ?_, ?_⟩
  · rcases h.2.2.1 k k0 k1 z with w | w
    · exact Or.inl w
    · by_cases q : tp t1 k < 0
      · exact Or.inl q
      · exact Or.inr (e2 _ (by omega) w)
  · have := pcn_mono (t1 := t1) (L := L) (y := tn t1) (L' := L + 1) (y' := 0) (fun k a _ p => e2 k a p)
    have := h.2.2.2
    omega
theorem yl_ok {t0 t1 : TT} (w1 : wfT t1) {L : Int} {Z : ZZ} (h : BI t0 t1 L 0 Z) : ∀ (k : Nat), (k : Int) ≤ tn t1 → BI t0 t1 L (k : Int) (yl t1 L Z k)
  | 0, _ => h
  | k + 1, hk => by
    have ih := yl_ok w1 h k (by omega)
    rw [show ((k + 1 : Nat) : Int) = (k : Int) + 1 by omega]
    by_cases q : dp (tp t1) (k : Int) = L
    · rw [yl_y q]; exact BI_step w1 ih (by omega) (by omega) q
    · rw [yl_n q]; exact BI_skip ih q
theorem bf_ok {t0 t1 : TT} (w1 : wfT t1) {Z : ZZ} (h : BI t0 t1 0 0 Z) : ∀ (L : Nat), BI t0 t1 (L : Int) 0 (bf t1 Z L)
  | 0 => h
  | L + 1 => by
    have n1 := tn_rng w1
    have ih := bf_ok w1 h L
    have := yl_ok w1 ih (tn t1).toNat (by omega)
    rw [show (((tn t1).toNat : Nat) : Int) = tn t1 by omega] at this
    rw [show ((L + 1 : Nat) : Int) = (L : Int) + 1 by omega]
    exact BI_next this
theorem yl_none {t1 : TT} {L : Int} {Z : ZZ} : ∀ (k : Nat), (k : Int) ≤ tn t1 → (∀ j, 0 ≤ j → j < tn t1 → dp (tp t1) j ≠ L) → yl t1 L Z k = Z
  | 0, _, _ => rfl
  | k + 1, hk, h => by rw [yl_n (h _ (by omega) (by omega))]; exact yl_none k (by omega) h
/-- a node's depth and height -/
theorem dp_th {t : TT} (hw : wfT t) : ∀ (f : Nat) (k : Int), k < f → 0 ≤ k → k < tn t → dp (tp t) k + th t k ≤ th t 0
  | 0, k, a, b, c => by omega
  | f + 1, k, a, b, c => by
    by_cases q : k = 0
    · rw [q, dp_0 hw.1]; omega
    · have p := tp_rng hw b c
      have p1 := p.2.2.1 (by omega)
      have ih := dp_th hw f (tp t k) (by omega) (by omega) (by omega)
      have d := dp_s hw.1 (k := k) (by omega) c
      have g : th t k + 1 ≤ th t (tp t k) := (hg_ok hw.1 (tp t k) p1 (by omega)).1 k (by omega) c rfl
      omega
theorem dp_lt_th {t : TT} (hw : wfT t) {k : Int} (k0 : 0 ≤ k) (k1 : k < tn t) : dp (tp t) k < th t 0 := by
  have := dp_th hw (k.toNat + 1) k (by omega) k0 k1
  have := th_rng hw k
  omega
theorem bf_up {t1 : TT} (w1 : wfT t1) {Z : ZZ} : ∀ (d : Nat), bf t1 Z ((th t1 0).toNat + d) = bf t1 Z (th t1 0).toNat
  | 0 => rfl
  | d + 1 => by
    have n1 := tn_rng w1
    show yl t1 (((th t1 0).toNat + d : Nat) : Int) (bf t1 Z ((th t1 0).toNat + d)) (tn t1).toNat = _
    rw [yl_none _ (by omega) (fun j j0 j1 e => by have := dp_lt_th w1 j0 j1; omega)]
    exact bf_up w1 d
/-- the nodes without partner go -/
noncomputable def dl (t0 : TT) (P : MM) (Z : ZZ) : Nat → ZZ
  | 0 => Z
  | k + 1 => if q0 P (nAt t0 (k : Int)) = -1 then delZ (dl t0 P Z k) (nAt t0 (k : Int)) else dl t0 P Z k
theorem dl_y {t0 : TT} {P : MM} {Z : ZZ} {k : Nat} (h : q0 P (nAt t0 (k : Int)) = -1) : dl t0 P Z (k + 1) = delZ (dl t0 P Z k) (nAt t0 (k : Int)) := if_pos h
theorem dl_n {t0 : TT} {P : MM} {Z : ZZ} {k : Nat} (h : ¬ q0 P (nAt t0 (k : Int)) = -1) : dl t0 P Z (k + 1) = dl t0 P Z k := if_neg h
def DI (t0 : TT) (P : MM) (k : Nat) (Z : ZZ) : Prop := okZ (W0 t0) Z ∧ wfW (zw Z) ∧ rgW (zw Z) ∧ (∀ x, 0 ≤ x → x < tn t0 → (q0 P x ≠ -1 ∨ (k : Int) ≤ pix (tn t0) (tp t0) x) → wa (zw Z) x ≠ -1) ∧ zn Z ≤ 72 + k
theorem dl_ok {t0 : TT} (w0 : wfT t0) {P : MM} {Z : ZZ} (h : DI t0 P 0 Z) : ∀ (k : Nat), (k : Int) ≤ tn t0 → DI t0 P k (dl t0 P Z k)
  | 0, _ => h
  | k + 1, hk => by
    have n0 := tn_rng w0
    obtain ⟨h1, h2, h3, h4, h5⟩ := dl_ok w0 h k (by omega)
    have hn := nAt_ok w0 (i := (k : Int)) (by omega) (by omega)
    by_cases q : q0 P (nAt t0 (k : Int)) = -1
    · rw [dl_y q]
      have hx := h4 _ hn.1 hn.2.1 (Or.inr (by omega))
      have hok : okS (zw (dl t0 P Z k)) (3, nAt t0 (k : Int), 0, 0, 0, 0, wa (zw (dl t0 P Z k)) (nAt t0 (k : Int)), wp (zw (dl t0 P Z k)) (nAt t0 (k : Int)), 0) := ⟨⟨hn.1, by show nAt t0 (k : Int) < 48; omega⟩, Or.inr (Or.inr (Or.inr ⟨rfl, hx, rfl, rfl, by show nAt t0 (k : Int) < 24; omega⟩))⟩
      have ew : zw (delZ (dl t0 P Z k) (nAt t0 (k : Int))) = outW (zw (dl t0 P Z k)) (nAt t0 (k : Int)) := ap_3 (s := (3, nAt t0 (k : Int), 0, 0, 0, 0, wa (zw (dl t0 P Z k)) (nAt t0 (k : Int)), wp (zw (dl t0 P Z k)) (nAt t0 (k : Int)), 0)) rfl
      refine ⟨okZ_add h1 hok, wfW_ap h2 hok, rgW_ap h3 hok, fun x x0 x1 e => ?_, by show zn (dl t0 P Z k) + 1 ≤ _; omega⟩
      have qx : x ≠ nAt t0 (k : Int) := fun z => by
        rw [z] at e
        rcases e with e | e
        · exact e q
        · omega
      rw [ew, out_n _ qx]
      exact h4 x x0 x1 (by omega)
    · rw [dl_n q]
      refine ⟨h1, h2, h3, fun x x0 x1 e => ?_, by omega⟩
      by_cases qx : x = nAt t0 (k : Int)
      · rw [qx]; exact h4 _ hn.1 hn.2.1 (Or.inl q)
      · exact h4 x x0 x1 (by omega)
def Z0 (t0 : TT) (P : MM) : ZZ := (W0 t0, 0, fun _ => (0, 0, 0, 0, 0, 0, 0, 0, 0), q1 P, fun _ => 0)
def Z1 (t0 t1 : TT) (P : MM) : ZZ := ordZ t1 (Z0 t0 P) (-1)
def Z2 (t0 t1 : TT) (P : MM) : ZZ := bf t1 (Z1 t0 t1 P) 24
noncomputable def scF (t0 t1 : TT) (P : MM) : ZZ := dl t0 P (Z2 t0 t1 P) (tn t0).toNat
theorem Z0_ok {t0 t1 : TT} (w0 : wfT t0) (w1 : wfT t1) {P : MM} (hP : MOK t0 t1 P) : ZI t0 t1 (Z0 t0 P) ∧ rm (Z0 t0 P) (-1) ≠ -1 ∧ ∀ k, 0 ≤ k → k < tn t1 → tp t1 k = -1 → zm (Z0 t0 P) k = 0 := by
  have n0 := tn_rng w0
  have n1 := tn_rng w1
  have hin : ∀ x, 0 ≤ x → x < tn t0 → wa (W0 t0) x ≠ -1 := fun x x0 x1 => by
    have e : wa (W0 t0) x = pu t0 x := if_pos ⟨x0, x1⟩
    have := pu_rng w0 x0 x1
    omega
  refine ⟨⟨⟨rfl, fun i hi => absurd hi (Nat.not_lt_zero i)⟩, wfW_W0 w0, rgW_W0 w0, fun k k0 k1 => ?_, fun k k' k0 k1 k0' k1' e1 e2 => ?_, fun k k0 k1 _ => if_neg (by omega), fun k k0 k1 => ⟨Or.inl rfl, fun z => absurd rfl z⟩, hin⟩, by show (48 : Int) ≠ -1; decide, fun k _ _ _ => rfl⟩
  · show q1 P k = -1 ∨ (0 ≤ q1 P k ∧ q1 P k < 48 ∧ wa (W0 t0) (q1 P k) ≠ -1 ∧ (24 ≤ q1 P k → q1 P k = 24 + k))
    rcases hP.2 k k0 k1 with z | z
    · exact Or.inl z
    · exact Or.inr ⟨z.1, by omega, hin _ z.1 z.2.1, fun w => by omega⟩
  · have e1 : q1 P k ≠ -1 := e1
    have e2 : q1 P k = q1 P k' := e2
    have z1 := (hP.2 k k0 k1).resolve_left e1
    have z2 := (hP.2 k' k0' k1').resolve_left (by omega)
    rw [e2] at z1
    omega
theorem Z1_ok {t0 t1 : TT} (w0 : wfT t0) (w1 : wfT t1) {P : MM} (hP : MOK t0 t1 P) : BI t0 t1 0 0 (Z1 t0 t1 P) := by
  have n1 := tn_rng w1
  obtain ⟨a, b, c⟩ := Z0_ok w0 w1 hP
  obtain ⟨o1, o2, o3, o4⟩ := ord_ok w1 a b c
  refine ⟨o1, fun k k0 k1 p => ?_, fun k k0 k1 e => ?_, ?_⟩
  · have := dp_rng w1.1 k0 k1
    unfold pd at p
    omega
  · rcases o3 k k0 k1 e with z | z
    · exact absurd rfl z
    · left; omega
  · have h1 : un t1 (Z0 t0 P) ≤ (tn t1).toNat := un_le _ _
    have h2 : zn (Z0 t0 P) = 0 := rfl
    show zn (ordZ t1 (Z0 t0 P) (-1)) + un t1 (ordZ t1 (Z0 t0 P) (-1)) ≤ _
    omega
theorem Z2_ok {t0 t1 : TT} (w0 : wfT t0) (w1 : wfT t1) {P : MM} (hP : MOK t0 t1 P) : DI t0 P 0 (Z2 t0 t1 P) := by
  have h := bf_ok w1 (Z1_ok w0 w1 hP) 24
  have := pcn_le t1 w1 ((24 : Nat) : Int) 0
  have h4 := h.2.2.2
  refine ⟨h.1.1, h.1.2.1, h.1.2.2.1, fun x x0 x1 _ => h.1.2.2.2.2.2.2.2 x x0 x1, ?_⟩
  show zn (bf t1 (Z1 t0 t1 P) 24) ≤ 72 + 0
  omega
theorem scF_ok {t0 t1 : TT} (w0 : wfT t0) (w1 : wfT t1) {P : MM} (hP : MOK t0 t1 P) : okZ (W0 t0) (scF t0 t1 P) ∧ zn (scF t0 t1 P) ≤ 96 := by
  have n0 := tn_rng w0
  have h := dl_ok w0 (Z2_ok w0 w1 hP) (tn t0).toNat (by omega)
  have h5 := h.2.2.2.2
  exact ⟨h.1, by show zn (dl t0 P (Z2 t0 t1 P) (tn t0).toNat) ≤ 96; omega⟩
