/-! changes by index -/
def Kq (P : Nat → Nat → Int → Prop) (S S' : QMem) : Prop := S'.2 = S.2 ∧ ∀ (o f : Nat) (i : Int), ¬ P o f i → S'.1 o f i = S.1 o f i
theorem Kq.rf {P : Nat → Nat → Int → Prop} {S : QMem} : Kq P S S := ⟨rfl, fun _ _ _ _ => rfl⟩
theorem Kq.tr {P : Nat → Nat → Int → Prop} {S S1 S2 : QMem} (h : Kq P S S1) (h2 : Kq P S1 S2) : Kq P S S2 := ⟨h2.1.trans h.1, fun o f i q => (h2.2 o f i q).trans (h.2 o f i q)⟩
theorem Kq.mono {P P' : Nat → Nat → Int → Prop} {S S1 : QMem} (h : Kq P S S1) (hp : ∀ o f i, P o f i → P' o f i) : Kq P' S S1 := ⟨h.1, fun o f i q => h.2 o f i (fun z => q (hp o f i z))⟩
theorem Kq.st {P : Nat → Nat → Int → Prop} {S S1 : QMem} {o f : Nat} {i v : Int} (h : Kq P S S1) (hp : P o f i) : Kq P S (q_st S1 o f i v) := by
  refine ⟨h.1, fun o' f' i' q => ?_⟩
  rw [q_st_ne (fun z => q (by rw [z.1, z.2.1, z.2.2]; exact hp))]
  exact h.2 o' f' i' q
theorem Kq.at {P : Nat → Nat → Int → Prop} {S S1 : QMem} (h : Kq P S S1) {o f : Nat} {i : Int} (q : ¬ P o f i) : S1.1 o f i = S.1 o f i := h.2 o f i q
theorem Kp.q {P : Nat → Nat → Prop} {S S1 : QMem} (h : Kp P S S1) : Kq (fun o f _ => P o f) S S1 := h
/-! heights, from the last node on -/
def hrun (pa : Int → Int) : Nat → (Int → Int) → Int → Int
  | 0, h => h
  | k + 1, h => hrun pa k (up h (pa ((k : Int) + 1)) (if h ((k : Int) + 1) + 1 ≤ h (pa ((k : Int) + 1)) then h (pa ((k : Int) + 1)) else h ((k : Int) + 1) + 1))
def hgT (n : Int) (pa : Int → Int) : Int → Int := hrun pa (n - 1).toNat (fun _ => 1)
theorem hrun_rng {pa : Int → Int} {n : Int} : ∀ (i : Nat) (h : Int → Int), (i : Int) < n → (∀ k, 1 ≤ h k ∧ h k ≤ n - i) → ∀ k, 1 ≤ hrun pa i h k ∧ hrun pa i h k ≤ n
  | 0, h, _, h1, k => by
    have := h1 k
    exact ⟨this.1, by show h k ≤ n; have := this.2; omega⟩
  | i + 1, h, hi, h1, k => by
    unfold hrun
    refine hrun_rng i _ (by omega) (fun j => ?_) k
    have a1 := h1 j
    have a2 := h1 ((i : Int) + 1)
    have a3 := h1 (pa ((i : Int) + 1))
    unfold up
    push_cast at a1 a2 a3
    split
    · split <;> omega
    · omega
theorem hg_rng {n : Int} {pa : Int → Int} (h : wfN n pa) (k : Int) : 1 ≤ hgT n pa k ∧ hgT n pa k ≤ n := by
  have := h.1
  exact hrun_rng _ _ (by omega) (fun k => by omega) k
/-! depths -/
def dpF (pa : Int → Int) : Nat → Int → Int
  | 0, _ => 0
  | f + 1, k => if pa k < 0 then 0 else dpF pa f (pa k) + 1
def dp (pa : Int → Int) (k : Int) : Int := dpF pa 30 k
theorem dpF_fuel {n : Int} {pa : Int → Int} (h : wfN n pa) : ∀ (f g : Nat) (k : Int), 0 ≤ k → k < n → k < f → k < g → dpF pa f k = dpF pa g k
  | 0, _, k, h0, h1, h2, h3 => by omega
  | f + 1, 0, k, h0, h1, h2, h3 => by omega
  | f + 1, g + 1, k, h0, h1, h2, h3 => by
    unfold dpF
    by_cases q : pa k < 0
    · rw [if_pos q, if_pos q]
    · rw [if_neg q, if_neg q]
      have hk : 1 ≤ k := by
        by_cases z : k = 0
        · have := h.2.1
          rw [← z] at this
          omega
        · omega
      have := h.2.2.1 k hk h1
      rw [dpF_fuel h f g (pa k) (by omega) (by omega) (by omega) (by omega)]
section
variable {n : Int} {pa : Int → Int}
theorem dp_0 (h : wfN n pa) : dp pa 0 = 0 := by
  show (if pa 0 < 0 then 0 else _) = (0 : Int)
  rw [h.2.1]
  rfl
theorem dp_s (h : wfN n pa) {k : Int} (h1 : 1 ≤ k) (h2 : k < n) : dp pa k = dp pa (pa k) + 1 := by
  have := h.2.2.1 k h1 h2
  have hn := h.1
  show (if pa k < 0 then 0 else dpF pa 29 (pa k) + 1) = dpF pa 30 (pa k) + 1
  rw [if_neg (by omega), dpF_fuel h 29 30 (pa k) (by omega) (by omega) (by omega) (by omega)]
theorem dp_le (h : wfN n pa) : ∀ (f : Nat) (k : Int), k < f → 0 ≤ k → k < n → 0 ≤ dp pa k ∧ dp pa k ≤ k
  | 0, k, a, b, c => by omega
  | f + 1, k, a, b, c => by
    by_cases q : k = 0
    · rw [q, dp_0 h]; omega
    · have h1 := h.2.2.1 k (by omega) c
      have h2 := dp_le h f (pa k) (by omega) (by omega) (by omega)
      rw [dp_s h (by omega) c]
      omega
theorem dp_rng (h : wfN n pa) {k : Int} (h1 : 0 ≤ k) (h2 : k < n) : 0 ≤ dp pa k ∧ dp pa k ≤ k := dp_le h (k.toNat + 1) k (by omega) h1 h2
/-- below a node the depth is greater -/
theorem dp_in (h : wfN n pa) {a : Int} (h0 : 0 ≤ a) (ha : a < n) : ∀ (f : Nat) (k : Int), k < f → a < k → k < en n pa a → dp pa a < dp pa k
  | 0, k, x, y, z => by omega
  | f + 1, k, x, y, z => by
    obtain ⟨b1, b2, b3, b4⟩ := en_ok (n := n) (pa := pa) (k := a) ha
    have c1 := b3 k y z
    have c2 := h.2.2.1 k (by omega) (by omega)
    rw [dp_s h (k := k) (by omega) (by omega)]
    by_cases q : pa k = a
    · rw [q]; omega
    · have := dp_in h h0 ha f (pa k) (by omega) (by omega) (by omega)
      omega
theorem dp_below (h : wfN n pa) {a k : Int} (h0 : 0 ≤ a) (ha : a < n) (h1 : a < k) (h2 : k < en n pa a) : dp pa a < dp pa k := dp_in h h0 ha (k.toNat + 1) k (by omega) h1 h2
theorem dp_step (h : wfN n pa) {k : Int} (h0 : 0 ≤ k) (h1 : k + 1 < n) : dp pa (k + 1) ≤ dp pa k + 1 := by
  have c2 := h.2.2.1 (k + 1) (by omega) h1
  rw [dp_s h (k := k + 1) (by omega) h1]
  by_cases q : pa (k + 1) = k
  · rw [q]; omega
  · have c3 := en_le h (k := k + 1) (by omega) h1
    have := dp_below h (a := pa (k + 1)) (k := k) c2.1 (by omega) (by omega) (by omega)
    omega
theorem dp_mono (h : wfN n pa) : ∀ (f : Nat) (a : Int), 0 ≤ a → a + f < n → a - dp pa a ≤ (a + f) - dp pa (a + f)
  | 0, a, _, _ => by
    rw [show a + ((0 : Nat) : Int) = a by omega]
    exact Int.le_refl _
  | f + 1, a, h0, h1 => by
    have h2 := dp_mono h f a h0 (by omega)
    have h3 := dp_step h (k := a + f) (by omega) (by omega)
    rw [show a + ((f + 1 : Nat) : Int) = a + f + 1 by omega]
    omega
/-- behind a subtree the depth is no greater -/
theorem dp_end (h : wfN n pa) {a : Int} (h0 : 0 ≤ a) (ha : a < n) (he : en n pa a < n) : dp pa (en n pa a) ≤ dp pa a := by
  obtain ⟨b1, b2, b3, b4⟩ := en_ok (n := n) (pa := pa) (k := a) ha
  rcases b4 with z | z
  · omega
  · have c2 := h.2.2.1 (en n pa a) (by omega) he
    have c3 := en_le h (k := en n pa a) (by omega) he
    have := dp_below h (a := pa (en n pa a)) (k := a) c2.1 (by omega) z (by omega)
    rw [dp_s h (k := en n pa a) (by omega) he]
    omega
/-- a node's place in postorder -/
def pix (n : Int) (pa : Int → Int) (k : Int) : Int := k - dp pa k + (en n pa k - k - 1)
theorem pix_rng (h : wfN n pa) {k : Int} (h1 : 0 ≤ k) (h2 : k < n) : 0 ≤ pix n pa k ∧ pix n pa k < n := by
  obtain ⟨b1, b2, b3, b4⟩ := en_ok (n := n) (pa := pa) (k := k) h2
  have := dp_rng h h1 h2
  unfold pix
  omega
theorem pix_lt (h : wfN n pa) {a b : Int} (h1 : 0 ≤ a) (h2 : a < b) (h3 : b < n) : (b < en n pa a → pix n pa b < pix n pa a) ∧ (en n pa a ≤ b → pix n pa a < pix n pa b) := by
  refine ⟨fun q => ?_, fun q => ?_⟩
  · have e1 := en_in h h1 (by omega) (b.toNat + 1) b (by omega) (by omega) q
    have e2 := dp_below h h1 (by omega) h2 q
    unfold pix
    omega
  · have e1 := dp_end h (a := a) h1 (by omega) (by omega)
    have e2 := dp_mono h (b - en n pa a).toNat (en n pa a) (by have := (en_ok (n := n) (pa := pa) (k := a) (by omega)).1; omega) (by omega)
    rw [show en n pa a + (((b - en n pa a).toNat : Nat) : Int) = b by omega] at e2
    have e3 := (en_ok (n := n) (pa := pa) (k := b) h3).1
    unfold pix
    omega
theorem pix_inj (h : wfN n pa) {a b : Int} (h1 : 0 ≤ a) (h2 : a < n) (h3 : 0 ≤ b) (h4 : b < n) (he : pix n pa a = pix n pa b) : a = b := by
  rcases Int.lt_trichotomy a b with q | q | q
  · have := pix_lt h h1 q h4
    by_cases z : b < en n pa a
    · have := this.1 z; omega
    · have := this.2 (by omega); omega
  · exact q
  · have := pix_lt h h3 q h2
    by_cases z : a < en n pa b
    · have := this.1 z; omega
    · have := this.2 (by omega); omega
end
theorem pigeon : ∀ (n : Nat) (f : Nat → Nat), (∀ i, i < n → f i < n) → (∀ i j, i < n → j < n → f i = f j → i = j) → ∀ q, q < n → ∃ i, i < n ∧ f i = q
  | 0, _, _, _, q, h => absurd h (Nat.not_lt_zero q)
  | n + 1, f, h1, h2, q, h => by
    have ih := pigeon n (fun i => if f i = n then f n else f i) (fun i hi => by
      show (if f i = n then f n else f i) < n
      have a1 := h1 i (by omega)
      have a2 := h1 n (by omega)
      have a3 : f i = f n → False := fun z => by have := h2 i n (by omega) (by omega) z; omega
      split
      · rename_i z
        by_cases z2 : f n = n
        · exact (a3 (by omega)).elim
        · omega
      · omega) (fun i j hi hj hij => by
      have hij : (if f i = n then f n else f i) = (if f j = n then f n else f j) := hij
      have b1 : f i = f n → False := fun z => by have := h2 i n (by omega) (by omega) z; omega
      have b2 : f j = f n → False := fun z => by have := h2 j n (by omega) (by omega) z; omega
      by_cases z1 : f i = n <;> by_cases z2 : f j = n
      · exact h2 i j (by omega) (by omega) (by omega)
      · rw [if_pos z1, if_neg z2] at hij
        exact (b2 hij.symm).elim
      · rw [if_neg z1, if_pos z2] at hij
        exact (b1 hij).elim
      · rw [if_neg z1, if_neg z2] at hij
        exact h2 i j (by omega) (by omega) hij)
    by_cases hv : f n = q
    · exact ⟨n, by omega, hv⟩
    · by_cases hq : q = n
      · have a2 := h1 n (by omega)
        obtain ⟨i, hi, e⟩ := ih (f n) (by omega)
        have e : (if f i = n then f n else f i) = f n := e
        by_cases z : f i = n
        · exact ⟨i, by omega, by omega⟩
        · rw [if_neg z] at e
          have := h2 i n (by omega) (by omega) e
          omega
      · obtain ⟨i, hi, e⟩ := ih q (by omega)
        have e : (if f i = n then f n else f i) = q := e
        by_cases z : f i = n
        · rw [if_pos z] at e
          exact (hv e).elim
        · rw [if_neg z] at e
          exact ⟨i, by omega, e⟩
theorem pix_sur {n : Int} {pa : Int → Int} (h : wfN n pa) {q : Int} (h1 : 0 ≤ q) (h2 : q < n) : ∃ k, 0 ≤ k ∧ k < n ∧ pix n pa k = q := by
  obtain ⟨i, hi, e⟩ := pigeon n.toNat (fun i => (pix n pa (i : Int)).toNat) (fun i hi => by have := pix_rng h (k := (i : Int)) (by omega) (by omega); show (pix n pa (i : Int)).toNat < n.toNat; omega) (fun i j hi hj hij => by
    have a1 := pix_rng h (k := (i : Int)) (by omega) (by omega)
    have a2 := pix_rng h (k := (j : Int)) (by omega) (by omega)
    have hij : (pix n pa (i : Int)).toNat = (pix n pa (j : Int)).toNat := hij
    have := pix_inj h (a := (i : Int)) (b := (j : Int)) (by omega) (by omega) (by omega) (by omega) (by omega)
    omega) q.toNat (by omega)
  have a1 := pix_rng h (k := (i : Int)) (by omega) (by omega)
  have e : (pix n pa (i : Int)).toNat = q.toNat := e
  exact ⟨(i : Int), by omega, by omega, by omega⟩
/-! counts of children -/
def cntF (pa : Int → Int) (p : Int) : Nat → Int
  | 0 => 0
  | k + 1 => cntF pa p k + (if pa (k : Int) = p then 1 else 0)
def cnt (pa : Int → Int) (p k : Int) : Int := cntF pa p k.toNat
theorem cnt_0 (pa : Int → Int) (p : Int) : cnt pa p 0 = 0 := rfl
theorem cnt_s (pa : Int → Int) (p : Int) {k : Int} (h : 0 ≤ k) : cnt pa p (k + 1) = cnt pa p k + (if pa k = p then 1 else 0) := by
  unfold cnt
  rw [show (k + 1).toNat = k.toNat + 1 by omega]
  show cntF pa p k.toNat + (if pa ((k.toNat : Nat) : Int) = p then 1 else 0) = _
  rw [show ((k.toNat : Nat) : Int) = k by omega]
theorem cnt_rng (pa : Int → Int) (p : Int) {k : Int} (h : 0 ≤ k) : 0 ≤ cnt pa p k ∧ cnt pa p k ≤ k := by
  have : ∀ j : Nat, 0 ≤ cntF pa p j ∧ cntF pa p j ≤ (j : Int) := by
    intro j
    induction j with
    | zero => exact ⟨Int.le_refl _, Int.le_refl _⟩
    | succ j ih =>
      unfold cntF
      split <;> push_cast <;> omega
  have h2 := this k.toNat
  unfold cnt
  omega
def plT (pa : Int → Int) (k : Int) : Int := if pa k < 0 then 0 else cnt pa (pa k) k
