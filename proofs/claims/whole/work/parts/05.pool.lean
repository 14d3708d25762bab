/-! a memory of plain whole numbers over the pool of cells; rows of one instruction over it -/
def vI (x : Int) : Value := .int (Int32.ofInt x)
def vJ (x : Int) : Value := .long (Int64.ofInt x)
def inR (x : Int) : Prop := -2147483648 ≤ x ∧ x < 2147483648
def bl (x : Int) : Prop := x = 0 ∨ x = 1
/-- ints by object, field, index (an int field: index 0; a row of a grid: a field of its own); the references that change -/
abbrev QMem : Type := (Nat → Nat → Int → Int) × (Nat → Nat → Nat)
def q_st (S : QMem) (o f : Nat) (i v : Int) : QMem := (fun o' f' i' => if o' = o ∧ f' = f ∧ i' = i then v else S.1 o' f' i', S.2)
def q_pt (S : QMem) (o f t : Nat) : QMem := (S.1, fun o' f' => if o' = o ∧ f' = f then t else S.2 o' f')
/-- what never changes: the addresses; of each its kind, its owner, its field there, its length; the array of an object's field; the object of an object's field and index -/
abbrev QLay : Type := List Nat × (Nat → Nat) × (Nat → Nat) × (Nat → Nat) × (Nat → Nat) × (Nat → Nat → Nat) × (Nat → Nat → Int → Nat)
def yL (Λ : QLay) : List Nat := Λ.1
def yK (Λ : QLay) : Nat → Nat := Λ.2.1
def yO (Λ : QLay) : Nat → Nat := Λ.2.2.1
def yF (Λ : QLay) : Nat → Nat := Λ.2.2.2.1
def yN (Λ : QLay) : Nat → Nat := Λ.2.2.2.2.1
def yA (Λ : QLay) : Nat → Nat → Nat := Λ.2.2.2.2.2.1
def yR (Λ : QLay) : Nat → Nat → Int → Nat := Λ.2.2.2.2.2.2
/-- the pseudo-field of a row of a grid -/
def rw_ (f : Nat) (i : Int) : Nat := 100 + 100 * f + i.toNat
abbrev QDl : Type := va_G × (Nat → ClassId)
def q_tys (Δ : QDl) : List (ClassId × FieldType) := [(Δ.2 0, .int), (Δ.2 1, .boolean), (Δ.2 2, .object "TreeDiffer$Setup"), (Δ.2 3, .object "TreeDiffer$Step"), (Δ.2 4, .array .int)]
def tA (k f : Nat) : Nat × Int := match k with
  | 0 => (match f with | 0 => (15, 25) | 1 => (15, 24) | _ => (0, 0))
  | 1 => (match f with | 1 => (11, 24) | 2 => (11, 24) | 3 => (11, 24) | _ => (0, 0))
  | 2 => (match f with | 0 => (11, 288) | _ => (0, 0))
  | 3 => (match f with | 0 => (14, 96) | 3 => (11, 24) | 4 => (12, 24) | 5 => (11, 24) | 6 => (11, 24) | _ => (0, 0))
  | 6 => (match f with | 0 => (11, 100) | _ => (0, 0))
  | 7 => (match f with | 1 => (11, 24) | 2 => (11, 24) | 3 => (11, 24) | 4 => (11, 24) | 5 => (11, 24) | 6 => (11, 24) | 7 => (11, 24) | 8 => (11, 24) | 9 => (11, 24) | _ => (0, 0))
  | 8 => (match f with | 0 => (11, 49) | 1 => (11, 49) | 2 => (11, 49) | 3 => (11, 49) | _ => (0, 0))
  | 9 => (match f with | 2 => (13, 2) | 3 => (12, 2) | _ => (0, 0))
  | 10 => (match f with | 0 => (11, 3) | 1 => (11, 72) | 2 => (11, 72) | 3 => (11, 72) | 7 => (11, 300) | 8 => (12, 2) | 9 => (11, 100) | 11 => (11, 500) | 14 => (11, 26) | 18 => (11, 48) | 19 => (11, 48) | 21 => (11, 24) | 22 => (11, 24) | 23 => (11, 24) | 24 => (11, 24) | 25 => (11, 49) | 26 => (11, 49) | 27 => (11, 49) | 28 => (11, 2401) | 29 => (11, 49) | 30 => (11, 1200) | 32 => (11, 25) | 33 => (12, 24) | 34 => (11, 24) | 35 => (11, 24) | 37 => (11, 48) | 38 => (11, 48) | 39 => (11, 576) | 40 => (11, 625) | 41 => (11, 500) | 43 => (11, 50) | 44 => (11, 50) | _ => (0, 0))
  | _ => (0, 0)
def tR (k f : Nat) : Nat × Int := match k with
  | 3 => (match f with | 0 => (6, 96) | 2 => (9, 1) | _ => (0, 0))
  | 6 => (match f with | 2 => (8, 1) | _ => (0, 0))
  | 9 => (match f with | 0 => (7, 1) | 1 => (5, 1) | 2 => (5, 2) | 4 => (2, 1) | 5 => (4, 1) | 6 => (1, 1) | 7 => (9, 1) | 8 => (9, 1) | 9 => (3, 1) | 10 => (3, 1) | _ => (0, 0))
  | _ => (0, 0)
def tI (k f : Nat) : Bool := match k with
  | 1 => (match f with | 0 => true | _ => false)
  | 2 => (match f with | 1 => true | _ => false)
  | 3 => (match f with | 1 => true | _ => false)
  | 4 => (match f with | 2 => true | 3 => true | _ => false)
  | 5 => (match f with | 0 => true | 1 => true | 2 => true | 3 => true | 4 => true | 5 => true | 6 => true | 7 => true | 8 => true | _ => false)
  | 6 => (match f with | 1 => true | 3 => true | 4 => true | 5 => true | _ => false)
  | 7 => (match f with | 0 => true | _ => false)
  | 9 => (match f with | 11 => true | 12 => true | 13 => true | _ => false)
  | 10 => (match f with | 4 => true | 5 => true | 6 => true | 10 => true | 12 => true | 13 => true | 15 => true | 16 => true | 17 => true | 20 => true | 31 => true | 36 => true | 42 => true | _ => false)
  | _ => false
def wE (k : Nat) (Δ : QDl) (Λ : QLay) (S : QMem) (a : Nat) : va_E := match k with
  | 0 => .inr (0, [.ref (yA Λ a 0), .ref (yA Λ a 1)])
  | 1 => .inr (1, [vI (S.1 a 0 0), .ref (yA Λ a 1), .ref (yA Λ a 2), .ref (yA Λ a 3)])
  | 2 => .inr (2, [.ref (yA Λ a 0), vI (S.1 a 1 0)])
  | 3 => .inr (3, [.ref (yA Λ a 0), vI (S.1 a 1 0), .ref (yR Λ a 2 0), .ref (yA Λ a 3), .ref (yA Λ a 4), .ref (yA Λ a 5), .ref (yA Λ a 6)])
  | 4 => .inr (4, [.ref (S.2 a 0), .ref (S.2 a 1), vI (S.1 a 2 0), vI (S.1 a 3 0)])
  | 5 => .inr (5, [vI (S.1 a 0 0), vI (S.1 a 1 0), vI (S.1 a 2 0), vI (S.1 a 3 0), vI (S.1 a 4 0), vI (S.1 a 5 0), vI (S.1 a 6 0), vI (S.1 a 7 0), vI (S.1 a 8 0)])
  | 6 => .inr (6, [.ref (yA Λ a 0), vI (S.1 a 1 0), .ref (yR Λ a 2 0), vI (S.1 a 3 0), vI (S.1 a 4 0), vI (S.1 a 5 0)])
  | 7 => .inr (7, [vI (S.1 a 0 0), .ref (yA Λ a 1), .ref (yA Λ a 2), .ref (yA Λ a 3), .ref (yA Λ a 4), .ref (yA Λ a 5), .ref (yA Λ a 6), .ref (yA Λ a 7), .ref (yA Λ a 8), .ref (yA Λ a 9)])
  | 8 => .inr (8, [.ref (yA Λ a 0), .ref (yA Λ a 1), .ref (yA Λ a 2), .ref (yA Λ a 3)])
  | 9 => .inr (9, [.ref (yR Λ a 0 0), .ref (yR Λ a 1 0), .ref (yA Λ a 2), .ref (yA Λ a 3), .ref (yR Λ a 4 0), .ref (yR Λ a 5 0), .ref (yR Λ a 6 0), .ref (yR Λ a 7 0), .ref (yR Λ a 8 0), .ref (yR Λ a 9 0), .ref (yR Λ a 10 0), vI (S.1 a 11 0), vI (S.1 a 12 0), vI (S.1 a 13 0)])
  | 10 => .inr (10, [.ref (yA Λ a 0), .ref (yA Λ a 1), .ref (yA Λ a 2), .ref (yA Λ a 3), vI (S.1 a 4 0), vI (S.1 a 5 0), vI (S.1 a 6 0), .ref (yA Λ a 7), .ref (yA Λ a 8), .ref (yA Λ a 9), vI (S.1 a 10 0), .ref (yA Λ a 11), vI (S.1 a 12 0), vI (S.1 a 13 0), .ref (yA Λ a 14), vI (S.1 a 15 0), vI (S.1 a 16 0), vI (S.1 a 17 0), .ref (yA Λ a 18), .ref (yA Λ a 19), vI (S.1 a 20 0), .ref (yA Λ a 21), .ref (yA Λ a 22), .ref (yA Λ a 23), .ref (yA Λ a 24), .ref (yA Λ a 25), .ref (yA Λ a 26), .ref (yA Λ a 27), .ref (yA Λ a 28), .ref (yA Λ a 29), .ref (yA Λ a 30), vI (S.1 a 31 0), .ref (yA Λ a 32), .ref (yA Λ a 33), .ref (yA Λ a 34), .ref (yA Λ a 35), vI (S.1 a 36 0), .ref (yA Λ a 37), .ref (yA Λ a 38), .ref (yA Λ a 39), .ref (yA Λ a 40), .ref (yA Λ a 41), vI (S.1 a 42 0), .ref (yA Λ a 43), .ref (yA Λ a 44)])
  | 11 => .inl (Δ.2 0, yN Λ a, .inl (fun j => Int32.ofInt (S.1 (yO Λ a) (yF Λ a) (j : Int))))
  | 12 => .inl (Δ.2 1, yN Λ a, .inl (fun j => Int32.ofInt (S.1 (yO Λ a) (yF Λ a) (j : Int))))
  | 13 => .inl (Δ.2 2, yN Λ a, .inr (.inr (.inr (.inr (fun j => some (yR Λ (yO Λ a) (yF Λ a) (j : Int)))))))
  | 14 => .inl (Δ.2 3, yN Λ a, .inr (.inr (.inr (.inr (fun j => some (yR Λ (yO Λ a) (yF Λ a) (j : Int)))))))
  | 15 => .inl (Δ.2 4, yN Λ a, .inr (.inr (.inr (.inr (fun j => some (yA Λ (yO Λ a) (rw_ (yF Λ a) (j : Int))))))))
  | _ => .inr (0, [])
theorem q_wE_congr {Δ : QDl} {Λ : QLay} {S S' : QMem} {a : Nat} : ∀ k : Nat, (∀ g : Nat, tI k g = true → S.1 a g 0 = S'.1 a g 0) → S.2 = S'.2 → ((k = 11 ∨ k = 12) → ∀ j : Int, S.1 (yO Λ a) (yF Λ a) j = S'.1 (yO Λ a) (yF Λ a) j) → wE k Δ Λ S a = wE k Δ Λ S' a
  | 0, _, _, _ => rfl
  | 1, hI, hP, _ => by
    show (Sum.inr (_, _) : va_E) = Sum.inr (_, _)
    rw [hI 0 rfl]
  | 2, hI, hP, _ => by
    show (Sum.inr (_, _) : va_E) = Sum.inr (_, _)
    rw [hI 1 rfl]
  | 3, hI, hP, _ => by
    show (Sum.inr (_, _) : va_E) = Sum.inr (_, _)
    rw [hI 1 rfl]
  | 4, hI, hP, _ => by
    show (Sum.inr (_, _) : va_E) = Sum.inr (_, _)
    rw [hI 2 rfl, hI 3 rfl, hP]
  | 5, hI, hP, _ => by
    show (Sum.inr (_, _) : va_E) = Sum.inr (_, _)
    rw [hI 0 rfl, hI 1 rfl, hI 2 rfl, hI 3 rfl, hI 4 rfl, hI 5 rfl, hI 6 rfl, hI 7 rfl, hI 8 rfl]
  | 6, hI, hP, _ => by
    show (Sum.inr (_, _) : va_E) = Sum.inr (_, _)
    rw [hI 1 rfl, hI 3 rfl, hI 4 rfl, hI 5 rfl]
  | 7, hI, hP, _ => by
    show (Sum.inr (_, _) : va_E) = Sum.inr (_, _)
    rw [hI 0 rfl]
  | 8, _, _, _ => rfl
  | 9, hI, hP, _ => by
    show (Sum.inr (_, _) : va_E) = Sum.inr (_, _)
    rw [hI 11 rfl, hI 12 rfl, hI 13 rfl]
  | 10, hI, hP, _ => by
    show (Sum.inr (_, _) : va_E) = Sum.inr (_, _)
    rw [hI 4 rfl, hI 5 rfl, hI 6 rfl, hI 10 rfl, hI 12 rfl, hI 13 rfl, hI 15 rfl, hI 16 rfl, hI 17 rfl, hI 20 rfl, hI 31 rfl, hI 36 rfl, hI 42 rfl]
  | 11, _, _, hA => by
    show (Sum.inl (_, _, Sum.inl _) : va_E) = Sum.inl (_, _, Sum.inl _)
    simp only [hA (Or.inl rfl)]
  | 12, _, _, hA => by
    show (Sum.inl (_, _, Sum.inl _) : va_E) = Sum.inl (_, _, Sum.inl _)
    simp only [hA (Or.inr rfl)]
  | 13, _, _, _ => rfl
  | 14, _, _, _ => rfl
  | 15, _, _, _ => rfl
  | _ + 16, _, _, _ => rfl
theorem q_wE_congrP {Δ : QDl} {Λ : QLay} {S : QMem} {P' : Nat → Nat → Nat} {a : Nat} : ∀ k : Nat, (∀ g : Nat, P' a g = S.2 a g) → wE k Δ Λ (S.1, P') a = wE k Δ Λ S a
  | 0, _ => rfl
  | 1, _ => rfl
  | 2, _ => rfl
  | 3, _ => rfl
  | 4, hP => by
    show (Sum.inr (4, [Value.ref (P' a 0), Value.ref (P' a 1), vI (S.1 a 2 0), vI (S.1 a 3 0)]) : va_E) = _
    rw [hP 0, hP 1]
    rfl
  | 5, _ => rfl
  | 6, _ => rfl
  | 7, _ => rfl
  | 8, _ => rfl
  | 9, _ => rfl
  | 10, _ => rfl
  | 11, _ => rfl
  | 12, _ => rfl
  | 13, _ => rfl
  | 14, _ => rfl
  | 15, _ => rfl
  | _ + 16, _ => rfl
def wF (Δ : QDl) (Λ : QLay) (S : QMem) (a : Nat) : va_E := wE (yK Λ a) Δ Λ S a
def qob (Λ : QLay) (k o : Nat) : Prop := o ∈ yL Λ ∧ yK Λ o = k
def qAr (Λ : QLay) (a k o f : Nat) (n : Int) : Prop := a ∈ yL Λ ∧ yK Λ a = k ∧ yO Λ a = o ∧ yF Λ a = f ∧ (yN Λ a : Int) = n ∧ yN Λ a ≤ 65536
def LayOk (Λ : QLay) : Prop :=
  (∀ o f : Nat, o ∈ yL Λ → (tA (yK Λ o) f).1 ≠ 0 → qAr Λ (yA Λ o f) (tA (yK Λ o) f).1 o f (tA (yK Λ o) f).2) ∧
  (∀ (o f : Nat) (i : Int), o ∈ yL Λ → (tA (yK Λ o) f).1 = 15 → 0 ≤ i → i < (tA (yK Λ o) f).2 → qAr Λ (yA Λ o (rw_ f i)) 11 o (rw_ f i) (tA (yK Λ o) f).2) ∧
  (∀ (o f : Nat) (i : Int), o ∈ yL Λ → (tR (yK Λ o) f).1 ≠ 0 → 0 ≤ i → i < (tR (yK Λ o) f).2 → qob Λ ((tR (yK Λ o) f).1 - 1) (yR Λ o f i)) ∧
  (∀ a : Nat, a ∈ yL Λ → (yK Λ a = 11 ∨ yK Λ a = 12) → a = yA Λ (yO Λ a) (yF Λ a) ∧ tI (yK Λ (yO Λ a)) (yF Λ a) = false)
def okP (Λ : QLay) (S : QMem) : Prop := ∀ s : Nat, qob Λ 4 s → qob Λ 7 (S.2 s 0) ∧ qob Λ 7 (S.2 s 1)
theorem q_arr {Λ : QLay} (h : LayOk Λ) {k f o ka : Nat} {n : Int} (ho : qob Λ k o) (ht : tA k f = (ka, n)) (hz : ka ≠ 0) : qAr Λ (yA Λ o f) ka o f n := by
  have h1 := h.1 o f ho.1
  rw [ho.2, ht] at h1
  exact h1 hz
theorem q_row {Λ : QLay} (h : LayOk Λ) {k f o : Nat} {n i : Int} (ho : qob Λ k o) (ht : tA k f = (15, n)) (hi : 0 ≤ i ∧ i < n) : qAr Λ (yA Λ o (rw_ f i)) 11 o (rw_ f i) n := by
  have h1 := h.2.1 o f i ho.1
  rw [ho.2, ht] at h1
  exact h1 rfl hi.1 hi.2
theorem q_rf {Λ : QLay} (h : LayOk Λ) {k f o k' : Nat} {n i : Int} (ho : qob Λ k o) (ht : tR k f = (k' + 1, n)) (hi : 0 ≤ i ∧ i < n) : qob Λ k' (yR Λ o f i) := by
  have h1 := h.2.2.1 o f i ho.1
  rw [ho.2, ht] at h1
  exact h1 (Nat.succ_ne_zero _) hi.1 hi.2
theorem q_wF_at {Δ : QDl} {Λ : QLay} {S : QMem} {k a : Nat} (ho : qob Λ k a) : wF Δ Λ S a = wE k Δ Λ S a := by
  unfold wF
  rw [ho.2]
theorem q_st_ne {S : QMem} {o f o' f' : Nat} {i v i' : Int} (h : ¬ (o' = o ∧ f' = f ∧ i' = i)) : (q_st S o f i v).1 o' f' i' = S.1 o' f' i' := if_neg h
theorem q_st_eq {S : QMem} {o f : Nat} {i v : Int} : (q_st S o f i v).1 o f i = v := if_pos ⟨rfl, rfl, rfl⟩
/-- an int field is written: the other cells stay -/
theorem q_keepI {Δ : QDl} {Λ : QLay} {S : QMem} {o f : Nat} {v : Int} (h : LayOk Λ) (ht : tI (yK Λ o) f = true) : ∀ b ∈ yL Λ, b ≠ o → wF Δ Λ (q_st S o f 0 v) b = wF Δ Λ S b := by
  intro b hb hne
  refine q_wE_congr _ (fun g _ => q_st_ne (fun q => hne q.1)) rfl (fun hk j => q_st_ne (fun q => ?_))
  have h1 := (h.2.2.2 b hb hk).2
  rw [q.1, q.2.1, ht] at h1
  cases h1
/-- an array's element is written: the other cells stay -/
theorem q_keepA {Δ : QDl} {Λ : QLay} {S : QMem} {a ka o f : Nat} {n i v : Int} (h : LayOk Λ) (ha : qAr Λ a ka o f n) (hk : ka = 11 ∨ ka = 12) : ∀ b ∈ yL Λ, b ≠ a → wF Δ Λ (q_st S o f i v) b = wF Δ Λ S b := by
  intro b hb hne
  obtain ⟨a1, a2, a3, a4, -⟩ := ha
  have u1 := h.2.2.2 a a1 (by rw [a2]; exact hk)
  rw [a3, a4] at u1
  refine q_wE_congr _ (fun g hg => q_st_ne (fun q => ?_)) rfl (fun hk2 j => q_st_ne (fun q => ?_))
  · rw [q.1, q.2.1, u1.2] at hg
    cases hg
  · have u2 := (h.2.2.2 b hb hk2).1
    rw [q.1, q.2.1] at u2
    exact hne (u2.trans u1.1.symm)
theorem q_pool_set {A : Nat → Prop} {Δ : QDl} {Λ : QLay} {S S' : QMem} {a k : Nat} {e : va_E} (hD : va_D A (va_pl (yL Λ) (wF Δ Λ S))) (ha : a ∈ yL Λ) (hk : (va_pl (yL Λ) (wF Δ Λ S))[k]? = some (a, wF Δ Λ S a)) (he : wF Δ Λ S' a = e) (hr : ∀ b ∈ yL Λ, b ≠ a → wF Δ Λ S' b = wF Δ Λ S b) :
    (va_pl (yL Λ) (wF Δ Λ S)).set k (a, e) = va_pl (yL Λ) (wF Δ Λ S') := by
  have h := va_pl_set (X := []) (L := yL Λ) (f := wF Δ Λ S) (e := e) hD ha hk
  rw [List.nil_append, List.nil_append] at h
  rw [h]
  unfold va_pl
  apply List.map_congr_left
  intro b hb
  by_cases hba : b = a
  · subst hba
    rw [va_up_self, he]
  · rw [va_up_ne _ _ hba, hr b hb hba]
theorem q_pool_get {Δ : QDl} {Λ : QLay} {S : QMem} {a : Nat} (h : a ∈ yL Λ) : ∃ k : Nat, (va_pl (yL Λ) (wF Δ Λ S))[k]? = some (a, wF Δ Λ S a) := by
  obtain ⟨k, hk⟩ := va_pl_get (X := []) (f := wF Δ Λ S) h
  exact ⟨k, hk⟩
theorem q_rng {x : Int} (h : inR x) : (Int32.ofInt x).toInt = x := Int32.toInt_ofInt_of_le (by have := h.1; omega) (by have := h.2; omega)
theorem q_lt {x y : Int} (hx : inR x) (hy : inR y) : Int32.ofInt x < Int32.ofInt y ↔ x < y := by rw [Int32.lt_iff_toInt_lt, q_rng hx, q_rng hy]
theorem q_le {x y : Int} (hx : inR x) (hy : inR y) : Int32.ofInt x ≤ Int32.ofInt y ↔ x ≤ y := by rw [Int32.le_iff_toInt_le, q_rng hx, q_rng hy]
theorem q_eq {x y : Int} (hx : inR x) (hy : inR y) : Int32.ofInt x = Int32.ofInt y ↔ x = y := by rw [← Int32.toInt_inj, q_rng hx, q_rng hy]
theorem q_z : (0 : Int32) = Int32.ofInt 0 := by decide
theorem q_R0 : inR 0 := by unfold inR; omega
theorem q_vin {i : Int} {N : Nat} (h0 : 0 ≤ i) (h1 : i < (N : Int)) (hN : N ≤ 65536) : vp_in (Int32.ofInt i) N ∧ (((Int32.ofInt i).toNatClampNeg : Nat) : Int) = i := by
  have hr : inR i := ⟨by omega, by omega⟩
  refine ⟨vp_in_iff.mpr ⟨by rw [q_rng hr]; exact h0, by rw [q_rng hr]; exact h1⟩, ?_⟩
  show (((Int32.ofInt i).toInt.toNat : Nat) : Int) = i
  rw [q_rng hr]
  omega
/-! locals by their places -/
def lvAt : List (Nat × Value) → Nat → Option Value
  | [], _ => none
  | (j, w) :: t, i => bif Nat.beq j i then some w else lvAt t i
def lvUp : List (Nat × Value) → Nat → Value → List (Nat × Value)
  | [], i, v => [(i, v)]
  | (j, w) :: t, i, v => bif Nat.beq j i then (i, v) :: t else bif Nat.ble j i then (j, w) :: lvUp t i v else (i, v) :: (j, w) :: t
def lvOk1 (lv : List (Nat × Value)) (i : Nat) : Bool := lv.all (fun q => !(q.1 + 1 == i && q.2.category == 2))
def lvOk2 (lv : List (Nat × Value)) (i : Nat) : Bool := lv.all (fun q => !(q.1 + 1 == i && q.2.category == 2) && !(q.1 == i + 1))
/-- the keys of the locals rise -/
def lvSorted : List (Nat × Value) → Bool
  | [] => true
  | (j, _) :: t => t.all (fun q => !(Nat.ble q.1 j)) && lvSorted t
theorem lvAt_mem : ∀ {lv : List (Nat × Value)} {i : Nat} {v : Value}, lvAt lv i = some v → (i, v) ∈ lv
  | [], _, _, h => by cases h
  | (j, w) :: t, i, v, h => by
    unfold lvAt at h
    cases hb : Nat.beq j i with
    | true =>
      rw [hb] at h
      have e := Nat.eq_of_beq_eq_true hb
      have e2 : w = v := Option.some.inj h
      subst e; subst e2
      exact List.mem_cons_self
    | false =>
      rw [hb] at h
      exact List.mem_cons_of_mem _ (lvAt_mem h)
theorem lvUp_mem : ∀ {lv : List (Nat × Value)} {i : Nat} {v : Value} {q : Nat × Value}, lvSorted lv = true → q ∈ lvUp lv i v → q = (i, v) ∨ (q ∈ lv ∧ q.1 ≠ i)
  | [], i, v, q, _, h => by
    rcases List.mem_cons.mp h with h | h
    · exact Or.inl h
    · cases h
  | (j, w) :: t, i, v, q, hs, h => by
    have hs1 : t.all (fun q => !(Nat.ble q.1 j)) = true ∧ lvSorted t = true := by
      have := hs
      unfold lvSorted at this
      simpa [Bool.and_eq_true] using this
    unfold lvUp at h
    cases hb : Nat.beq j i with
    | true =>
      rw [hb] at h
      have e := Nat.eq_of_beq_eq_true hb
      rcases List.mem_cons.mp h with h | h
      · exact Or.inl h
      · refine Or.inr ⟨List.mem_cons_of_mem _ h, fun q1 => ?_⟩
        have h2 := List.all_eq_true.mp hs1.1 q h
        rw [q1, ← e, Nat.ble_eq_true_of_le (Nat.le_refl j)] at h2
        cases h2
    | false =>
      rw [hb] at h
      have e : j ≠ i := Nat.ne_of_beq_eq_false hb
      cases hc : Nat.ble j i with
      | true =>
        rw [hc] at h
        rcases List.mem_cons.mp h with h | h
        · subst h
          exact Or.inr ⟨List.mem_cons_self, e⟩
        · rcases lvUp_mem hs1.2 h with h | h
          · exact Or.inl h
          · exact Or.inr ⟨List.mem_cons_of_mem _ h.1, h.2⟩
      | false =>
        rw [hc] at h
        rcases List.mem_cons.mp h with h | h
        · exact Or.inl h
        · refine Or.inr ⟨h, fun q1 => ?_⟩
          rcases List.mem_cons.mp h with h | h
          · subst h
            exact e q1
          · have h2 := List.all_eq_true.mp hs1.1 q h
            have h3 : Nat.ble q.1 j = false := by simpa using h2
            rw [q1] at h3
            have h4 : ¬ i ≤ j := fun z => by rw [Nat.ble_eq_true_of_le z] at h3; cases h3
            have h5 : ¬ j ≤ i := fun z => by rw [Nat.ble_eq_true_of_le z] at hc; cases hc
            omega
def lvPick (lv : List (Nat × Value)) (is : List Nat) : List (Nat × Value) := is.filterMap (fun i => (lvAt lv i).map (fun v => (i, v)))
theorem lvPick_mem {lv : List (Nat × Value)} {is : List Nat} {q : Nat × Value} (h : q ∈ lvPick lv is) : q ∈ lv := by
  obtain ⟨i, -, hi⟩ := List.mem_filterMap.mp h
  cases hl : lvAt lv i with
  | none => rw [hl] at hi; cases hi
  | some v =>
    rw [hl] at hi
    have e : (i, v) = q := Option.some.inj hi
    rw [← e]
    exact lvAt_mem hl
def lvSt (lv : List (Nat × Value)) (i : Nat) (v : Value) : Option (List (Nat × Value)) := bif lvSorted lv && lvOk1 lv i then some (lvUp lv i v) else none
def lvSt2 (lv : List (Nat × Value)) (i : Nat) (v : Value) : Option (List (Nat × Value)) := bif lvSorted lv && lvOk2 lv i then some (lvUp lv i v) else none
theorem lvSt_use {ls : Array Slot} {nL i : Nat} {v : Value} {lv lv' : List (Nat × Value)} (h : lvSt lv i v = some lv') (hl : lv_has ls nL ((i, v) :: lv.filter (fun q => !(q.1 == i) && !(q.1 + 1 == i && q.2.category == 2)))) : lv_has ls nL lv' := by
  unfold lvSt at h
  cases hs : lvSorted lv && lvOk1 lv i with
  | false => rw [hs] at h; cases h
  | true =>
    rw [hs] at h
    have e : lvUp lv i v = lv' := Option.some.inj h
    rw [Bool.and_eq_true] at hs
    refine ⟨hl.1, hl.2.1, fun q hq => ?_⟩
    rw [← e] at hq
    rcases lvUp_mem hs.1 hq with h1 | ⟨h1, h2⟩
    · rw [h1]
      exact hl.2.2 _ List.mem_cons_self
    · refine hl.2.2 q (List.mem_cons_of_mem _ (List.mem_filter.mpr ⟨h1, ?_⟩))
      have h3 := List.all_eq_true.mp hs.2 q h1
      have h4 : (q.1 == i) = false := beq_eq_false_iff_ne.mpr h2
      have h5 : (!(q.1 + 1 == i && q.2.category == 2)) = true := h3
      rw [h4, h5]
      rfl
theorem lvSt2_use {ls : Array Slot} {nL i : Nat} {v : Value} {lv lv' : List (Nat × Value)} (h : lvSt2 lv i v = some lv') (hl : lv_has ls nL ((i, v) :: lv.filter (fun q => !(q.1 == i) && (!(q.1 == i + 1) && !(q.1 + 1 == i && q.2.category == 2))))) : lv_has ls nL lv' := by
  unfold lvSt2 at h
  cases hs : lvSorted lv && lvOk2 lv i with
  | false => rw [hs] at h; cases h
  | true =>
    rw [hs] at h
    have e : lvUp lv i v = lv' := Option.some.inj h
    rw [Bool.and_eq_true] at hs
    refine ⟨hl.1, hl.2.1, fun q hq => ?_⟩
    rw [← e] at hq
    rcases lvUp_mem hs.1 hq with h1 | ⟨h1, h2⟩
    · rw [h1]
      exact hl.2.2 _ List.mem_cons_self
    · refine hl.2.2 q (List.mem_cons_of_mem _ (List.mem_filter.mpr ⟨h1, ?_⟩))
      have h3 : (!(q.1 + 1 == i && q.2.category == 2) && !(q.1 == i + 1)) = true := List.all_eq_true.mp hs.2 q h1
      have h4 : (q.1 == i) = false := beq_eq_false_iff_ne.mpr h2
      rw [Bool.and_eq_true] at h3
      rw [h4, h3.1, h3.2]
      rfl
def q_nest (U : State) : Prop := va_Nw (.methodLinkNest "TreeDiffer$Script" 117 y_TD_roomOfInserted "TreeDiffer") U ∧ va_Nw (.methodLinkNest "TreeDiffer$Step" 18 y_TD_numberOf "TreeDiffer") U
def q_P (Δ : QDl) (Λ : QLay) (S : QMem) (A : Nat → Prop) (H0 H : Heap) (locs : List Loc) : Prop :=
  va_P Δ.1 classes (va_pl (yL Λ) (wF Δ Λ S)) H ∧ va_D A (va_pl (yL Λ) (wF Δ Λ S)) ∧ va_S A H0 H locs ∧ okP Λ S
/-- a method's body is walked: G pc locals stack memory: from there the machine comes to its end -/
def QAct (cc : ByteArray) (own : String) (nL : Nat) (R : Room) (Λ : QLay) (G : Nat → List (Nat × Value) → List Value → QMem → Prop) : Prop :=
  ∃ (p : Program) (l : Launch) (e : Env) (s : State) (m : MethodId) (args : Array Value) (below : List Frame) (meth : Method) (c : Code) (cells slots : Nat) (Q : State → Prop) (A : Nat → Prop) (Δ : QDl),
    p.tables.exec = Jvm.exec ∧ c.code = cc ∧ c.maxLocals = nL ∧ s.vm.findClass own = some m.cls ∧ (∀ w ∈ lw_g, w.before args s = true) ∧ q_nest s ∧ va_K Δ.1 classes (q_tys Δ) s ∧ LayOk Λ ∧ (∀ q : Nat, s.heap.size ≤ q → A q) ∧ cells ≤ R.cells ∧ slots ≤ R.slots ∧
    G = fun pc lv st S => ∀ (H : Heap) (locs : List Loc) (ls : Array Slot), q_P Δ Λ S A s.heap H locs → lv_has ls nL lv → W p l e R s m args below meth c H locs cells slots Q (F0 m pc ls st)
section QROWS
variable {cc : ByteArray} {own : String} {nL : Nat} {R : Room} {Λ : QLay} {G : Nat → List (Nat × Value) → List Value → QMem → Prop} {pc : Nat} {lv lv' : List (Nat × Value)} {st : List Value} {S : QMem}
theorem QAct.lay (hG : QAct cc own nL R Λ G) : LayOk Λ := by
  obtain ⟨p, l, e, s, m, args, below, meth, c, cells, slots, Q, A, Δ, hx, hb, hml, hown, hts, hn, hK, hL, hA, hcl, hsl, rfl⟩ := hG
  exact hL
theorem pw_iload (hG : QAct cc own nL R Λ G) {i : Nat} (hd : decode cc pc = .ok (.iload i, 2)) {x : Int} (h : lvAt lv i = some (vI x)) (k : G (pc + 2) lv (vI x :: st) S) : G pc lv st S := by
  obtain ⟨p, l, e, s, m, args, below, meth, c, cells, slots, Q, A, Δ, hx, hb, hml, hown, hts, hn, hK, hL, hA, hcl, hsl, rfl⟩ := hG
  intro H locs ls hP hl
  exact lv_iload hx hb hd (hl.2.2 _ (lvAt_mem h)) (k H locs ls hP hl)
theorem pw_iload_n (hG : QAct cc own nL R Λ G) {j : Fin 4} (hd : decode cc pc = .ok (.iload_n j, 1)) {x : Int} (h : lvAt lv j.val = some (vI x)) (k : G (pc + 1) lv (vI x :: st) S) : G pc lv st S := by
  obtain ⟨p, l, e, s, m, args, below, meth, c, cells, slots, Q, A, Δ, hx, hb, hml, hown, hts, hn, hK, hL, hA, hcl, hsl, rfl⟩ := hG
  intro H locs ls hP hl
  exact lv_iload_n hx hb hd rfl (hl.2.2 _ (lvAt_mem h)) (k H locs ls hP hl)
theorem pw_aload (hG : QAct cc own nL R Λ G) {i : Nat} (hd : decode cc pc = .ok (.aload i, 2)) {x : Nat} (h : lvAt lv i = some (.ref x)) (k : G (pc + 2) lv (.ref x :: st) S) : G pc lv st S := by
  obtain ⟨p, l, e, s, m, args, below, meth, c, cells, slots, Q, A, Δ, hx, hb, hml, hown, hts, hn, hK, hL, hA, hcl, hsl, rfl⟩ := hG
  intro H locs ls hP hl
  exact lv_aload hx hb hd (hl.2.2 _ (lvAt_mem h)) (k H locs ls hP hl)
theorem pw_aload_n (hG : QAct cc own nL R Λ G) {j : Fin 4} (hd : decode cc pc = .ok (.aload_n j, 1)) {x : Nat} (h : lvAt lv j.val = some (.ref x)) (k : G (pc + 1) lv (.ref x :: st) S) : G pc lv st S := by
  obtain ⟨p, l, e, s, m, args, below, meth, c, cells, slots, Q, A, Δ, hx, hb, hml, hown, hts, hn, hK, hL, hA, hcl, hsl, rfl⟩ := hG
  intro H locs ls hP hl
  exact lv_aload_n hx hb hd rfl (hl.2.2 _ (lvAt_mem h)) (k H locs ls hP hl)
theorem pw_lload_n (hG : QAct cc own nL R Λ G) {j : Fin 4} (hd : decode cc pc = .ok (.lload_n j, 1)) {x : Int} (h : lvAt lv j.val = some (vJ x)) (k : G (pc + 1) lv (vJ x :: st) S) : G pc lv st S := by
  obtain ⟨p, l, e, s, m, args, below, meth, c, cells, slots, Q, A, Δ, hx, hb, hml, hown, hts, hn, hK, hL, hA, hcl, hsl, rfl⟩ := hG
  intro H locs ls hP hl
  exact lv_lload_n hx hb hd rfl (hl.2.2 _ (lvAt_mem h)) (k H locs ls hP hl)
theorem pw_istore (hG : QAct cc own nL R Λ G) {i : Nat} {x : Int} (hd : decode cc pc = .ok (.istore i, 2)) (hi : i < nL) (k : ∀ y : Int, y = x → ∃ lv', lvSt lv i (vI y) = some lv' ∧ G (pc + 2) lv' st S) : G pc lv (vI x :: st) S := by
  obtain ⟨lv', h, k⟩ := k x rfl
  obtain ⟨p, l, e, s, m, args, below, meth, c, cells, slots, Q, A, Δ, hx, hb, hml, hown, hts, hn, hK, hL, hA, hcl, hsl, rfl⟩ := hG
  intro H locs ls hP hl
  exact lv_istore hx hb hd hl hi rfl (fun ls' hl' => k H locs ls' hP (lvSt_use h hl'))
theorem pw_istore_n (hG : QAct cc own nL R Λ G) {j : Fin 4} {x : Int} (hd : decode cc pc = .ok (.istore_n j, 1)) (hi : j.val < nL) (k : ∀ y : Int, y = x → ∃ lv', lvSt lv j.val (vI y) = some lv' ∧ G (pc + 1) lv' st S) : G pc lv (vI x :: st) S := by
  obtain ⟨lv', h, k⟩ := k x rfl
  obtain ⟨p, l, e, s, m, args, below, meth, c, cells, slots, Q, A, Δ, hx, hb, hml, hown, hts, hn, hK, hL, hA, hcl, hsl, rfl⟩ := hG
  intro H locs ls hP hl
  exact lv_istore_n hx hb hd rfl hl hi rfl (fun ls' hl' => k H locs ls' hP (lvSt_use h hl'))
theorem pw_astore (hG : QAct cc own nL R Λ G) {i : Nat} {x : Nat} (hd : decode cc pc = .ok (.astore i, 2)) (hi : i < nL) (h : lvSt lv i (.ref x) = some lv') (k : G (pc + 2) lv' st S) : G pc lv (.ref x :: st) S := by
  obtain ⟨p, l, e, s, m, args, below, meth, c, cells, slots, Q, A, Δ, hx, hb, hml, hown, hts, hn, hK, hL, hA, hcl, hsl, rfl⟩ := hG
  intro H locs ls hP hl
  exact lv_astore hx hb hd hl hi rfl (fun ls' hl' => k H locs ls' hP (lvSt_use h hl'))
theorem pw_astore_n (hG : QAct cc own nL R Λ G) {j : Fin 4} {x : Nat} (hd : decode cc pc = .ok (.astore_n j, 1)) (hi : j.val < nL) (h : lvSt lv j.val (.ref x) = some lv') (k : G (pc + 1) lv' st S) : G pc lv (.ref x :: st) S := by
  obtain ⟨p, l, e, s, m, args, below, meth, c, cells, slots, Q, A, Δ, hx, hb, hml, hown, hts, hn, hK, hL, hA, hcl, hsl, rfl⟩ := hG
  intro H locs ls hP hl
  exact lv_astore_n hx hb hd rfl hl hi rfl (fun ls' hl' => k H locs ls' hP (lvSt_use h hl'))
theorem pw_lstore_n (hG : QAct cc own nL R Λ G) {j : Fin 4} {x : Int} (hd : decode cc pc = .ok (.lstore_n j, 1)) (hi : j.val + 1 < nL) (k : ∀ y : Int, y = x → ∃ lv', lvSt2 lv j.val (vJ y) = some lv' ∧ G (pc + 1) lv' st S) : G pc lv (vJ x :: st) S := by
  obtain ⟨lv', h, k⟩ := k x rfl
  obtain ⟨p, l, e, s, m, args, below, meth, c, cells, slots, Q, A, Δ, hx, hb, hml, hown, hts, hn, hK, hL, hA, hcl, hsl, rfl⟩ := hG
  intro H locs ls hP hl
  exact lv_lstore_n hx hb hd rfl hl hi rfl (fun ls' hl' => k H locs ls' hP (lvSt2_use h hl'))
theorem lvAt_idx {lv : List (Nat × Value)} {i : Nat} {v : Value} (h : lvAt lv i = some v) : ∃ k : Nat, lv[k]? = some (i, v) := List.getElem?_of_mem (lvAt_mem h)
theorem pw_iinc (hG : QAct cc own nL R Λ G) {i : Nat} {n x : Int} (hd : decode cc pc = .ok (.iinc i n, 3)) (h0 : lvAt lv i = some (vI x)) (hi : i < nL) (k : ∀ y : Int, y = x + n → ∃ lv', lvSt lv i (vI y) = some lv' ∧ G (pc + 3) lv' st S) : G pc lv st S := by
  obtain ⟨lv', h, k⟩ := k _ rfl
  obtain ⟨j, hj⟩ := lvAt_idx h0
  obtain ⟨p, l, e, s, m, args, below, meth, c, cells, slots, Q, A, Δ, hx, hb, hml, hown, hts, hn, hK, hL, hA, hcl, hsl, rfl⟩ := hG
  intro H locs ls hP hl
  exact lv_iinc (v := Int32.ofInt (x + n)) hx hb hd hl hj (Int32.ofInt_add x n).symm hi rfl (fun ls' hl' => k H locs ls' hP (lvSt_use h hl'))
theorem pw_iconst (hG : QAct cc own nL R Λ G) {n : Int} (hd : decode cc pc = .ok (.iconst n, 1)) (k : G (pc + 1) lv (vI n :: st) S) : G pc lv st S := by
  obtain ⟨p, l, e, s, m, args, below, meth, c, cells, slots, Q, A, Δ, hx, hb, hml, hown, hts, hn, hK, hL, hA, hcl, hsl, rfl⟩ := hG
  intro H locs ls hP hl
  exact lv_iconst hx hb hd rfl (k H locs ls hP hl)
theorem pw_bipush (hG : QAct cc own nL R Λ G) {n : Int} (hd : decode cc pc = .ok (.bipush n, 2)) (hn0 : (Int8.ofInt n).toInt32 = Int32.ofInt n) (k : G (pc + 2) lv (vI n :: st) S) : G pc lv st S := by
  obtain ⟨p, l, e, s, m, args, below, meth, c, cells, slots, Q, A, Δ, hx, hb, hml, hown, hts, hn, hK, hL, hA, hcl, hsl, rfl⟩ := hG
  intro H locs ls hP hl
  exact lv_bipush hx hb hd hn0 (k H locs ls hP hl)
theorem pw_sipush (hG : QAct cc own nL R Λ G) {n : Int} (hd : decode cc pc = .ok (.sipush n, 3)) (hn0 : (Int16.ofInt n).toInt32 = Int32.ofInt n) (k : G (pc + 3) lv (vI n :: st) S) : G pc lv st S := by
  obtain ⟨p, l, e, s, m, args, below, meth, c, cells, slots, Q, A, Δ, hx, hb, hml, hown, hts, hn, hK, hL, hA, hcl, hsl, rfl⟩ := hG
  intro H locs ls hP hl
  exact lv_sipush hx hb hd hn0 (k H locs ls hP hl)
theorem pw_ldc2 (hG : QAct cc own nL R Λ G) {i : Nat} {n : Int} (hw : Cond.constantLong own i (Int64.ofInt n) ∈ lw_g) (hd : decode cc pc = .ok (.ldc2_w i, 3)) (k : G (pc + 3) lv (vJ n :: st) S) : G pc lv st S := by
  obtain ⟨p, l, e, s, m, args, below, meth, c, cells, slots, Q, A, Δ, hx, hb, hml, hown, hts, hn, hK, hL, hA, hcl, hsl, rfl⟩ := hG
  intro H locs ls hP hl
  exact lv_ldc2 hx hb hown (hts _ hw) hd (k H locs ls hP hl)
theorem pw_iadd (hG : QAct cc own nL R Λ G) {x y : Int} (hd : decode cc pc = .ok (.iadd, 1)) (k : G (pc + 1) lv (vI (x + y) :: st) S) : G pc lv (vI y :: vI x :: st) S := by
  obtain ⟨p, l, e, s, m, args, below, meth, c, cells, slots, Q, A, Δ, hx, hb, hml, hown, hts, hn, hK, hL, hA, hcl, hsl, rfl⟩ := hG
  intro H locs ls hP hl
  refine lv_iadd hx hb hd ?_
  rw [← Int32.ofInt_add]
  exact k H locs ls hP hl
theorem pw_isub (hG : QAct cc own nL R Λ G) {x y : Int} (hd : decode cc pc = .ok (.isub, 1)) (k : G (pc + 1) lv (vI (x - y) :: st) S) : G pc lv (vI y :: vI x :: st) S := by
  obtain ⟨p, l, e, s, m, args, below, meth, c, cells, slots, Q, A, Δ, hx, hb, hml, hown, hts, hn, hK, hL, hA, hcl, hsl, rfl⟩ := hG
  intro H locs ls hP hl
  refine lv_isub hx hb hd ?_
  rw [← Int32.ofInt_sub]
  exact k H locs ls hP hl
theorem pw_imul (hG : QAct cc own nL R Λ G) {x y : Int} (hd : decode cc pc = .ok (.imul, 1)) (k : G (pc + 1) lv (vI (x * y) :: st) S) : G pc lv (vI y :: vI x :: st) S := by
  obtain ⟨p, l, e, s, m, args, below, meth, c, cells, slots, Q, A, Δ, hx, hb, hml, hown, hts, hn, hK, hL, hA, hcl, hsl, rfl⟩ := hG
  intro H locs ls hP hl
  refine lv_imul hx hb hd ?_
  rw [← Int32.ofInt_mul]
  exact k H locs ls hP hl
theorem pw_ineg (hG : QAct cc own nL R Λ G) {x : Int} (hd : decode cc pc = .ok (.ineg, 1)) (k : G (pc + 1) lv (vI (-x) :: st) S) : G pc lv (vI x :: st) S := by
  obtain ⟨p, l, e, s, m, args, below, meth, c, cells, slots, Q, A, Δ, hx, hb, hml, hown, hts, hn, hK, hL, hA, hcl, hsl, rfl⟩ := hG
  intro H locs ls hP hl
  refine lv_ineg hx hb hd ?_
  rw [← Int32.ofInt_neg]
  exact k H locs ls hP hl
theorem q_div {x y : Int} (hx : 0 ≤ x ∧ inR x) (hy : 0 < y ∧ inR y) : Int32.ofInt x / Int32.ofInt y = Int32.ofInt (x / y) := by
  rw [← Int.tdiv_eq_ediv_of_nonneg hx.1]
  have h1 : Int32.minValue.toInt = -2147483648 := by decide
  have h2 : Int32.maxValue.toInt = 2147483647 := by decide
  have a1 := hx.2.1; have a2 := hx.2.2; have a3 := hy.2.1; have a4 := hy.2.2
  exact (Int32.ofInt_tdiv (by omega) (by omega) (by omega) (by omega)).symm
theorem pw_idiv (hG : QAct cc own nL R Λ G) {x y : Int} (hd : decode cc pc = .ok (.idiv, 1)) (hx0 : 0 ≤ x ∧ inR x) (hy0 : 0 < y ∧ inR y) (k : G (pc + 1) lv (vI (x / y) :: st) S) : G pc lv (vI y :: vI x :: st) S := by
  obtain ⟨p, l, e, s, m, args, below, meth, c, cells, slots, Q, A, Δ, hx, hb, hml, hown, hts, hn, hK, hL, hA, hcl, hsl, rfl⟩ := hG
  intro H locs ls hP hl
  refine lv_idiv hx hb hd (fun q => ?_) ?_
  · rw [q_z, q_eq hy0.2 q_R0] at q
    have := hy0.1
    omega
  · rw [q_div hx0 hy0]
    exact k H locs ls hP hl
theorem pw_irem (hG : QAct cc own nL R Λ G) {x y : Int} (hd : decode cc pc = .ok (.irem, 1)) (hx0 : 0 ≤ x ∧ inR x) (hy0 : 0 < y ∧ inR y) (k : G (pc + 1) lv (vI (x % y) :: st) S) : G pc lv (vI y :: vI x :: st) S := by
  obtain ⟨p, l, e, s, m, args, below, meth, c, cells, slots, Q, A, Δ, hx, hb, hml, hown, hts, hn, hK, hL, hA, hcl, hsl, rfl⟩ := hG
  intro H locs ls hP hl
  refine lv_irem hx hb hd (fun q => ?_) ?_
  · rw [q_z, q_eq hy0.2 q_R0] at q
    have := hy0.1
    omega
  · rw [q_div hx0 hy0, ← Int32.ofInt_mul, ← Int32.ofInt_sub]
    have e1 : x - x / y * y = x % y := by rw [Int.mul_comm, Int.emod_def]
    rw [e1]
    exact k H locs ls hP hl
theorem q_i2l {x : Int} (h : inR x) : (Int32.ofInt x).toInt64 = Int64.ofInt x := by
  have h1 : Int32.minValue.toInt = -2147483648 := by decide
  have h2 : Int32.maxValue.toInt = 2147483647 := by decide
  have a1 := h.1; have a2 := h.2
  exact Int32.toInt64_ofInt (by omega) (by omega)
theorem pw_i2l (hG : QAct cc own nL R Λ G) {x : Int} (hd : decode cc pc = .ok (.i2l, 1)) (hr : inR x) (k : G (pc + 1) lv (vJ x :: st) S) : G pc lv (vI x :: st) S := by
  obtain ⟨p, l, e, s, m, args, below, meth, c, cells, slots, Q, A, Δ, hx, hb, hml, hown, hts, hn, hK, hL, hA, hcl, hsl, rfl⟩ := hG
  intro H locs ls hP hl
  exact lv_i2l hx hb hd (q_i2l hr) (k H locs ls hP hl)
theorem pw_ladd (hG : QAct cc own nL R Λ G) {x y : Int} (hd : decode cc pc = .ok (.ladd, 1)) (k : G (pc + 1) lv (vJ (x + y) :: st) S) : G pc lv (vJ y :: vJ x :: st) S := by
  obtain ⟨p, l, e, s, m, args, below, meth, c, cells, slots, Q, A, Δ, hx, hb, hml, hown, hts, hn, hK, hL, hA, hcl, hsl, rfl⟩ := hG
  intro H locs ls hP hl
  refine lv_ladd hx hb hd ?_
  rw [← Int64.ofInt_add]
  exact k H locs ls hP hl
theorem pw_lmul (hG : QAct cc own nL R Λ G) {x y : Int} (hd : decode cc pc = .ok (.lmul, 1)) (k : G (pc + 1) lv (vJ (x * y) :: st) S) : G pc lv (vJ y :: vJ x :: st) S := by
  obtain ⟨p, l, e, s, m, args, below, meth, c, cells, slots, Q, A, Δ, hx, hb, hml, hown, hts, hn, hK, hL, hA, hcl, hsl, rfl⟩ := hG
  intro H locs ls hP hl
  refine lv_lmul hx hb hd ?_
  rw [← Int64.ofInt_mul]
  exact k H locs ls hP hl
theorem pw_dup (hG : QAct cc own nL R Λ G) {v : Value} (hd : decode cc pc = .ok (.dup, 1)) (hv : v.category = 1) (k : G (pc + 1) lv (v :: v :: st) S) : G pc lv (v :: st) S := by
  obtain ⟨p, l, e, s, m, args, below, meth, c, cells, slots, Q, A, Δ, hx, hb, hml, hown, hts, hn, hK, hL, hA, hcl, hsl, rfl⟩ := hG
  intro H locs ls hP hl
  exact lv_dup hx hb hd hv (k H locs ls hP hl)
theorem pw_dup2 (hG : QAct cc own nL R Λ G) {v w : Value} (hd : decode cc pc = .ok (.dup2, 1)) (hv : v.category = 1) (hw : w.category = 1) (k : G (pc + 1) lv (v :: w :: v :: w :: st) S) : G pc lv (v :: w :: st) S := by
  obtain ⟨p, l, e, s, m, args, below, meth, c, cells, slots, Q, A, Δ, hx, hb, hml, hown, hts, hn, hK, hL, hA, hcl, hsl, rfl⟩ := hG
  intro H locs ls hP hl
  exact lv_dup2_11 hx hb hd hv hw (k H locs ls hP hl)
theorem pw_goto (hG : QAct cc own nL R Λ G) {off : Int} {tgt : Nat} (hd : decode cc pc = .ok (.goto off, 3)) (ht : (pc : Int) + off = (tgt : Int)) (k : G tgt lv st S) : G pc lv st S := by
  obtain ⟨p, l, e, s, m, args, below, meth, c, cells, slots, Q, A, Δ, hx, hb, hml, hown, hts, hn, hK, hL, hA, hcl, hsl, rfl⟩ := hG
  intro H locs ls hP hl
  exact lv_goto hx hb hd ht (k H locs ls hP hl)
/-- fewer locals -/
theorem pw_sub (hG : QAct cc own nL R Λ G) (is : List Nat) (h : lvPick lv is = lv') (k : G pc lv' st S) : G pc lv st S := by
  obtain ⟨p, l, e, s, m, args, below, meth, c, cells, slots, Q, A, Δ, hx, hb, hml, hown, hts, hn, hK, hL, hA, hcl, hsl, rfl⟩ := hG
  intro H locs ls hP hl
  exact k H locs ls hP ⟨hl.1, hl.2.1, fun q hq => hl.2.2 q (lvPick_mem (by rw [h]; exact hq))⟩
theorem pw_if_eq (hG : QAct cc own nL R Λ G) {x : Int} {off : Int} {tgt : Nat} (hd : decode cc pc = .ok (.ifCond .eq off, 3)) (ht : (pc : Int) + off = (tgt : Int)) (hrx : inR x) (kt : x = 0 → G tgt lv st S) (kf : ¬ x = 0 → G (pc + 3) lv st S) : G pc lv (vI x :: st) S := by
  obtain ⟨p, l, e, s, m, args, below, meth, c, cells, slots, Q, A, Δ, hx, hb, hml, hown, hts, hn, hK, hL, hA, hcl, hsl, rfl⟩ := hG
  intro H locs ls hP hl
  exact lv_if_eq hx hb hd ht (fun q => kt ((q_eq hrx q_R0).mp (by rw [← q_z]; exact q)) H locs ls hP hl) (fun q => kf (fun z => q (by rw [q_z]; exact (q_eq hrx q_R0).mpr z)) H locs ls hP hl)
theorem pw_icmp_eq (hG : QAct cc own nL R Λ G) {x y : Int} {off : Int} {tgt : Nat} (hd : decode cc pc = .ok (.if_icmp .eq off, 3)) (ht : (pc : Int) + off = (tgt : Int)) (hrx : inR x) (hry : inR y) (kt : x = y → G tgt lv st S) (kf : ¬ x = y → G (pc + 3) lv st S) : G pc lv (vI y :: vI x :: st) S := by
  obtain ⟨p, l, e, s, m, args, below, meth, c, cells, slots, Q, A, Δ, hx, hb, hml, hown, hts, hn, hK, hL, hA, hcl, hsl, rfl⟩ := hG
  intro H locs ls hP hl
  exact lv_icmp_eq hx hb hd ht (fun q => kt ((q_eq hrx hry).mp q) H locs ls hP hl) (fun q => kf (fun z => q ((q_eq hrx hry).mpr z)) H locs ls hP hl)
theorem pw_if_ne (hG : QAct cc own nL R Λ G) {x : Int} {off : Int} {tgt : Nat} (hd : decode cc pc = .ok (.ifCond .ne off, 3)) (ht : (pc : Int) + off = (tgt : Int)) (hrx : inR x) (kt : ¬ x = 0 → G tgt lv st S) (kf : x = 0 → G (pc + 3) lv st S) : G pc lv (vI x :: st) S := by
  obtain ⟨p, l, e, s, m, args, below, meth, c, cells, slots, Q, A, Δ, hx, hb, hml, hown, hts, hn, hK, hL, hA, hcl, hsl, rfl⟩ := hG
  intro H locs ls hP hl
  exact lv_if_ne hx hb hd ht (fun q => kt (fun z => q (by rw [q_z]; exact (q_eq hrx q_R0).mpr z)) H locs ls hP hl) (fun q => kf ((q_eq hrx q_R0).mp (by rw [← q_z]; exact q)) H locs ls hP hl)
theorem pw_icmp_ne (hG : QAct cc own nL R Λ G) {x y : Int} {off : Int} {tgt : Nat} (hd : decode cc pc = .ok (.if_icmp .ne off, 3)) (ht : (pc : Int) + off = (tgt : Int)) (hrx : inR x) (hry : inR y) (kt : ¬ x = y → G tgt lv st S) (kf : x = y → G (pc + 3) lv st S) : G pc lv (vI y :: vI x :: st) S := by
  obtain ⟨p, l, e, s, m, args, below, meth, c, cells, slots, Q, A, Δ, hx, hb, hml, hown, hts, hn, hK, hL, hA, hcl, hsl, rfl⟩ := hG
  intro H locs ls hP hl
  exact lv_icmp_ne hx hb hd ht (fun q => kt (fun z => q ((q_eq hrx hry).mpr z)) H locs ls hP hl) (fun q => kf ((q_eq hrx hry).mp q) H locs ls hP hl)
theorem pw_if_lt (hG : QAct cc own nL R Λ G) {x : Int} {off : Int} {tgt : Nat} (hd : decode cc pc = .ok (.ifCond .lt off, 3)) (ht : (pc : Int) + off = (tgt : Int)) (hrx : inR x) (kt : x < 0 → G tgt lv st S) (kf : ¬ x < 0 → G (pc + 3) lv st S) : G pc lv (vI x :: st) S := by
  obtain ⟨p, l, e, s, m, args, below, meth, c, cells, slots, Q, A, Δ, hx, hb, hml, hown, hts, hn, hK, hL, hA, hcl, hsl, rfl⟩ := hG
  intro H locs ls hP hl
  exact lv_if_lt hx hb hd ht (fun q => kt ((q_lt hrx q_R0).mp (by rw [← q_z]; exact q)) H locs ls hP hl) (fun q => kf (fun z => q (by rw [q_z]; exact (q_lt hrx q_R0).mpr z)) H locs ls hP hl)
theorem pw_icmp_lt (hG : QAct cc own nL R Λ G) {x y : Int} {off : Int} {tgt : Nat} (hd : decode cc pc = .ok (.if_icmp .lt off, 3)) (ht : (pc : Int) + off = (tgt : Int)) (hrx : inR x) (hry : inR y) (kt : x < y → G tgt lv st S) (kf : ¬ x < y → G (pc + 3) lv st S) : G pc lv (vI y :: vI x :: st) S := by
  obtain ⟨p, l, e, s, m, args, below, meth, c, cells, slots, Q, A, Δ, hx, hb, hml, hown, hts, hn, hK, hL, hA, hcl, hsl, rfl⟩ := hG
  intro H locs ls hP hl
  exact lv_icmp_lt hx hb hd ht (fun q => kt ((q_lt hrx hry).mp q) H locs ls hP hl) (fun q => kf (fun z => q ((q_lt hrx hry).mpr z)) H locs ls hP hl)
theorem pw_if_ge (hG : QAct cc own nL R Λ G) {x : Int} {off : Int} {tgt : Nat} (hd : decode cc pc = .ok (.ifCond .ge off, 3)) (ht : (pc : Int) + off = (tgt : Int)) (hrx : inR x) (kt : 0 ≤ x → G tgt lv st S) (kf : ¬ 0 ≤ x → G (pc + 3) lv st S) : G pc lv (vI x :: st) S := by
  obtain ⟨p, l, e, s, m, args, below, meth, c, cells, slots, Q, A, Δ, hx, hb, hml, hown, hts, hn, hK, hL, hA, hcl, hsl, rfl⟩ := hG
  intro H locs ls hP hl
  exact lv_if_ge hx hb hd ht (fun q => kt ((q_le q_R0 hrx).mp (by rw [← q_z]; exact q)) H locs ls hP hl) (fun q => kf (fun z => q (by rw [q_z]; exact (q_le q_R0 hrx).mpr z)) H locs ls hP hl)
theorem pw_icmp_ge (hG : QAct cc own nL R Λ G) {x y : Int} {off : Int} {tgt : Nat} (hd : decode cc pc = .ok (.if_icmp .ge off, 3)) (ht : (pc : Int) + off = (tgt : Int)) (hrx : inR x) (hry : inR y) (kt : y ≤ x → G tgt lv st S) (kf : ¬ y ≤ x → G (pc + 3) lv st S) : G pc lv (vI y :: vI x :: st) S := by
  obtain ⟨p, l, e, s, m, args, below, meth, c, cells, slots, Q, A, Δ, hx, hb, hml, hown, hts, hn, hK, hL, hA, hcl, hsl, rfl⟩ := hG
  intro H locs ls hP hl
  exact lv_icmp_ge hx hb hd ht (fun q => kt ((q_le hry hrx).mp q) H locs ls hP hl) (fun q => kf (fun z => q ((q_le hry hrx).mpr z)) H locs ls hP hl)
theorem pw_if_gt (hG : QAct cc own nL R Λ G) {x : Int} {off : Int} {tgt : Nat} (hd : decode cc pc = .ok (.ifCond .gt off, 3)) (ht : (pc : Int) + off = (tgt : Int)) (hrx : inR x) (kt : 0 < x → G tgt lv st S) (kf : ¬ 0 < x → G (pc + 3) lv st S) : G pc lv (vI x :: st) S := by
  obtain ⟨p, l, e, s, m, args, below, meth, c, cells, slots, Q, A, Δ, hx, hb, hml, hown, hts, hn, hK, hL, hA, hcl, hsl, rfl⟩ := hG
  intro H locs ls hP hl
  exact lv_if_gt hx hb hd ht (fun q => kt ((q_lt q_R0 hrx).mp (by rw [← q_z]; exact q)) H locs ls hP hl) (fun q => kf (fun z => q (by rw [q_z]; exact (q_lt q_R0 hrx).mpr z)) H locs ls hP hl)
theorem pw_icmp_gt (hG : QAct cc own nL R Λ G) {x y : Int} {off : Int} {tgt : Nat} (hd : decode cc pc = .ok (.if_icmp .gt off, 3)) (ht : (pc : Int) + off = (tgt : Int)) (hrx : inR x) (hry : inR y) (kt : y < x → G tgt lv st S) (kf : ¬ y < x → G (pc + 3) lv st S) : G pc lv (vI y :: vI x :: st) S := by
  obtain ⟨p, l, e, s, m, args, below, meth, c, cells, slots, Q, A, Δ, hx, hb, hml, hown, hts, hn, hK, hL, hA, hcl, hsl, rfl⟩ := hG
  intro H locs ls hP hl
  exact lv_icmp_gt hx hb hd ht (fun q => kt ((q_lt hry hrx).mp q) H locs ls hP hl) (fun q => kf (fun z => q ((q_lt hry hrx).mpr z)) H locs ls hP hl)
theorem pw_if_le (hG : QAct cc own nL R Λ G) {x : Int} {off : Int} {tgt : Nat} (hd : decode cc pc = .ok (.ifCond .le off, 3)) (ht : (pc : Int) + off = (tgt : Int)) (hrx : inR x) (kt : x ≤ 0 → G tgt lv st S) (kf : ¬ x ≤ 0 → G (pc + 3) lv st S) : G pc lv (vI x :: st) S := by
  obtain ⟨p, l, e, s, m, args, below, meth, c, cells, slots, Q, A, Δ, hx, hb, hml, hown, hts, hn, hK, hL, hA, hcl, hsl, rfl⟩ := hG
  intro H locs ls hP hl
  exact lv_if_le hx hb hd ht (fun q => kt ((q_le hrx q_R0).mp (by rw [← q_z]; exact q)) H locs ls hP hl) (fun q => kf (fun z => q (by rw [q_z]; exact (q_le hrx q_R0).mpr z)) H locs ls hP hl)
theorem pw_icmp_le (hG : QAct cc own nL R Λ G) {x y : Int} {off : Int} {tgt : Nat} (hd : decode cc pc = .ok (.if_icmp .le off, 3)) (ht : (pc : Int) + off = (tgt : Int)) (hrx : inR x) (hry : inR y) (kt : x ≤ y → G tgt lv st S) (kf : ¬ x ≤ y → G (pc + 3) lv st S) : G pc lv (vI y :: vI x :: st) S := by
  obtain ⟨p, l, e, s, m, args, below, meth, c, cells, slots, Q, A, Δ, hx, hb, hml, hown, hts, hn, hK, hL, hA, hcl, hsl, rfl⟩ := hG
  intro H locs ls hP hl
  exact lv_icmp_le hx hb hd ht (fun q => kt ((q_le hrx hry).mp q) H locs ls hP hl) (fun q => kf (fun z => q ((q_le hrx hry).mpr z)) H locs ls hP hl)
theorem q_mxS : Cond.static Lib.Math.max.name ∈ lw_g := m_441
theorem q_mxC : Cond.code Lib.Math.max.name Lib.Math.max.code 2 (some .int) ∈ lw_g := m_442
theorem q_mnS : Cond.static Lib.Math.min.name ∈ lw_g := m_520
theorem q_mnC : Cond.code Lib.Math.min.name Lib.Math.min.code 2 (some .int) ∈ lw_g := m_521
theorem q_maS : Cond.static Lib.Math.abs.name ∈ lw_g := m_532
theorem q_maC : Cond.code Lib.Math.abs.name Lib.Math.abs.code 1 (some .int) ∈ lw_g := m_533
theorem q_mI : Cond.initialized "java/lang/Math" ∈ lw_g := m_12
/-! fields -/
theorem pw_getf (hG : QAct cc own nL R Λ G) {k N : Nat} {C : String} {T : u_T} (hc : classes[k]? = some (C, T, N)) (hin : ∀ w ∈ u_ws C T N, w ∈ lw_g) {a : Nat} (ho : qob Λ k a) {fs : List Value} (hfs : ∀ Δ, wE k Δ Λ S a = .inr (k, fs)) (f : Nat) (hf : f < N) {idx : Nat} (hw : Cond.fieldLink own idx (T f).1 (T f).2.1 (T f).2.2.1 ∈ lw_g) {v : Value} (hv : fs[f]? = some v) (hd : decode cc pc = .ok (.getfield idx, 3)) (kk : G (pc + 3) lv (v :: st) S) : G pc lv (.ref a :: st) S := by
  obtain ⟨p, l, e, s, m, args, below, meth, c, cells, slots, Q, A, Δ, hx, hb, hml, hown, hts, hn, hK, hL, hA, hcl, hsl, rfl⟩ := hG
  intro H locs ls hP hl
  obtain ⟨q0, hq⟩ := q_pool_get (Δ := Δ) (S := S) ho.1
  rw [q_wF_at ho, hfs] at hq
  exact va_get hx hb hts hin hown hK hP.1 q0 hq hc f hf (hts _ hw) (fun _ h9 => h9) hv hd (kk H locs ls hP hl)
theorem pw_getP (hG : QAct cc own nL R Λ G) {a : Nat} (ho : qob Λ 4 a) (f : Nat) (hf : f = 0 ∨ f = 1) {idx : Nat} (hw : Cond.fieldLink own idx (qT4 f).1 (qT4 f).2.1 (qT4 f).2.2.1 ∈ lw_g) (hd : decode cc pc = .ok (.getfield idx, 3)) (kk : ∀ t : Nat, t = S.2 a f → qob Λ 7 t → G (pc + 3) lv (.ref t :: st) S) : G pc lv (.ref a :: st) S := by
  obtain ⟨p, l, e, s, m, args, below, meth, c, cells, slots, Q, A, Δ, hx, hb, hml, hown, hts, hn, hK, hL, hA, hcl, hsl, rfl⟩ := hG
  intro H locs ls hP hl
  obtain ⟨q0, hq⟩ := q_pool_get (Δ := Δ) (S := S) ho.1
  rw [q_wF_at ho] at hq
  have h2 := hP.2.2.2 a ho
  rcases hf with rfl | rfl
  · exact va_get hx hb hts qi4 hown hK hP.1 q0 hq rfl 0 (by decide) (hts _ hw) (fun _ h9 => h9) rfl hd (kk _ rfl h2.1 H locs ls hP hl)
  · exact va_get hx hb hts qi4 hown hK hP.1 q0 hq rfl 1 (by decide) (hts _ hw) (fun _ h9 => h9) rfl hd (kk _ rfl h2.2 H locs ls hP hl)
theorem pw_putf (hG : QAct cc own nL R Λ G) {k N : Nat} {C : String} {T : u_T} (hc : classes[k]? = some (C, T, N)) (hin : ∀ w ∈ u_ws C T N, w ∈ lw_g) (ty0 : Nat → FieldType) (hty : ∀ k, k < N → parseFieldDescriptor (T k).2.2.1 = some (ty0 k)) (hnm : ∀ a, a < N → ∀ b, b < N → a ≠ b → (T a).2.1 ≠ (T b).2.1)
    {a : Nat} (ho : qob Λ k a) {fs : List Value} (hfs : ∀ Δ, wE k Δ Λ S a = .inr (k, fs)) (f : Nat) (hf : f < N) {x : Int} (hfs' : ∀ Δ, wE k Δ Λ (q_st S a f 0 x) a = .inr (k, fs.set f (vI x))) (hI : tI k f = true) (hfin : (T f).2.2.2 = false) (hn2 : narrow (ty0 f) (vI x) = vI x) (hfit : fits (ty0 f) (vI x) = true) (hl2 : f < fs.length)
    {idx : Nat} (hw : Cond.fieldLink own idx (T f).1 (T f).2.1 (T f).2.2.1 ∈ lw_g) (hd : decode cc pc = .ok (.putfield idx, 3)) (kk : ∀ S' : QMem, S' = q_st S a f 0 x → G (pc + 3) lv st S') : G pc lv (vI x :: .ref a :: st) S := by
  have kk := kk _ rfl
  obtain ⟨p, l, e, s, m, args, below, meth, c, cells, slots, Q, A, Δ, hx, hb, hml, hown, hts, hn, hK, hL, hA, hcl, hsl, rfl⟩ := hG
  intro H locs ls hP hl
  obtain ⟨q0, hq⟩ := q_pool_get (Δ := Δ) (S := S) ho.1
  have hq1 := hq
  rw [q_wF_at ho, hfs] at hq1
  have hset := q_pool_set (S' := q_st S a f 0 x) hP.2.1 ho.1 hq (by rw [q_wF_at ho, hfs']) (q_keepI hL (by rw [ho.2]; exact hI))
  refine va_put hx hb hts hin ty0 hty hnm hown hK hP.1 hP.2.1 hP.2.2.1 q0 hq1 hc f hf (hts _ hw) (fun _ h9 => h9) hfin (hty f hf) hn2 hfit hl2 hd (fun H1 locs1 h1 h2 h3 => ?_)
  rw [hset] at h1 h2
  exact kk H1 locs1 ls ⟨h1, h2, h3, hP.2.2.2⟩ hl
theorem pw_putP (hG : QAct cc own nL R Λ G) {a t : Nat} (ho : qob Λ 4 a) (ht7 : qob Λ 7 t) (f : Nat) (hf : f = 0 ∨ f = 1) {idx : Nat} (hw : Cond.fieldLink own idx (qT4 f).1 (qT4 f).2.1 (qT4 f).2.2.1 ∈ lw_g) (hd : decode cc pc = .ok (.putfield idx, 3)) (kk : ∀ S' : QMem, S' = q_pt S a f t → G (pc + 3) lv st S') : G pc lv (.ref t :: .ref a :: st) S := by
  have kk := kk _ rfl
  obtain ⟨p, l, e, s, m, args, below, meth, c, cells, slots, Q, A, Δ, hx, hb, hml, hown, hts, hn, hK, hL, hA, hcl, hsl, rfl⟩ := hG
  intro H locs ls hP hl
  obtain ⟨q0, hq⟩ := q_pool_get (Δ := Δ) (S := S) ho.1
  have hq1 := hq
  rw [q_wF_at ho] at hq1
  have hkeep : ∀ b ∈ yL Λ, b ≠ a → wF Δ Λ (q_pt S a f t) b = wF Δ Λ S b := fun b hb hne => q_wE_congrP _ (fun g => by show (if b = a ∧ g = f then t else S.2 b g) = S.2 b g; rw [if_neg (fun z => hne z.1)])
  have hok : okP Λ (q_pt S a f t) := fun s hs => by
    have h2 := hP.2.2.2 s hs
    refine ⟨?_, ?_⟩
    · show qob Λ 7 (if s = a ∧ 0 = f then t else S.2 s 0)
      split
      · exact ht7
      · exact h2.1
    · show qob Λ 7 (if s = a ∧ 1 = f then t else S.2 s 1)
      split
      · exact ht7
      · exact h2.2
  rcases hf with rfl | rfl
  · have hset := q_pool_set (S' := q_pt S a 0 t) (e := .inr (4, [.ref t, .ref (S.2 a 1), vI (S.1 a 2 0), vI (S.1 a 3 0)])) hP.2.1 ho.1 hq (by rw [q_wF_at ho]; simp [wE, q_pt]) hkeep
    refine va_put hx hb hts qi4 qt4 qto4 qn4 hown hK hP.1 hP.2.1 hP.2.2.1 q0 hq1 rfl 0 (by decide) (hts _ hw) (fun _ h9 => h9) rfl (qto4 0 (by decide)) rfl rfl (by show 0 < 4; decide) hd (fun H1 locs1 h1 h2 h3 => ?_)
    have h1' : va_P Δ.1 classes ((va_pl (yL Λ) (wF Δ Λ S)).set q0 (a, .inr (4, [.ref t, .ref (S.2 a 1), vI (S.1 a 2 0), vI (S.1 a 3 0)]))) H1 := h1
    have h2' : va_D A ((va_pl (yL Λ) (wF Δ Λ S)).set q0 (a, .inr (4, [.ref t, .ref (S.2 a 1), vI (S.1 a 2 0), vI (S.1 a 3 0)]))) := h2
    rw [hset] at h1' h2'
    exact kk H1 locs1 ls ⟨h1', h2', h3, hok⟩ hl
  · have hset := q_pool_set (S' := q_pt S a 1 t) (e := .inr (4, [.ref (S.2 a 0), .ref t, vI (S.1 a 2 0), vI (S.1 a 3 0)])) hP.2.1 ho.1 hq (by rw [q_wF_at ho]; simp [wE, q_pt]) hkeep
    refine va_put hx hb hts qi4 qt4 qto4 qn4 hown hK hP.1 hP.2.1 hP.2.2.1 q0 hq1 rfl 1 (by decide) (hts _ hw) (fun _ h9 => h9) rfl (qto4 1 (by decide)) rfl rfl (by show 1 < 4; decide) hd (fun H1 locs1 h1 h2 h3 => ?_)
    have h1' : va_P Δ.1 classes ((va_pl (yL Λ) (wF Δ Λ S)).set q0 (a, .inr (4, [.ref (S.2 a 0), .ref t, vI (S.1 a 2 0), vI (S.1 a 3 0)]))) H1 := h1
    have h2' : va_D A ((va_pl (yL Λ) (wF Δ Λ S)).set q0 (a, .inr (4, [.ref (S.2 a 0), .ref t, vI (S.1 a 2 0), vI (S.1 a 3 0)]))) := h2
    rw [hset] at h1' h2'
    exact kk H1 locs1 ls ⟨h1', h2', h3, hok⟩ hl
/-! arrays -/
theorem q_nb {x : Int} (h : bl x) : narrow .boolean (vI x) = vI x ∧ fits .boolean (vI x) = true := by
  rcases h with rfl | rfl <;> exact ⟨rfl, rfl⟩
theorem pw_aI (hG : QAct cc own nL R Λ G) {a o f : Nat} {n i : Int} (ha : qAr Λ a 11 o f n) (hi : 0 ≤ i ∧ i < n) (hd : decode cc pc = .ok (.iaload, 1)) (kk : G (pc + 1) lv (vI (S.1 o f i) :: st) S) : G pc lv (vI i :: .ref a :: st) S := by
  obtain ⟨p, l, e, s, m, args, below, meth, c, cells, slots, Q, A, Δ, hx, hb, hml, hown, hts, hn, hK, hL, hA, hcl, hsl, rfl⟩ := hG
  intro H locs ls hP hl
  obtain ⟨a1, a2, a3, a4, a5, a6⟩ := ha
  obtain ⟨q0, hq⟩ := q_pool_get (Δ := Δ) (S := S) a1
  rw [q_wF_at ⟨a1, a2⟩] at hq
  have hq1 : (va_pl (yL Λ) (wF Δ Λ S))[q0]? = some (a, .inl (Δ.2 0, yN Λ a, .inl (fun j => Int32.ofInt (S.1 (yO Λ a) (yF Λ a) (j : Int))))) := hq
  obtain ⟨v1, v2⟩ := q_vin hi.1 (by rw [a5]; exact hi.2) a6
  refine va_iald hx hb hK hP.1 q0 0 hq1 rfl v1 hd ?_
  show W p l e R s m args below meth c H locs cells slots Q (F0 m (pc + 1) ls (.int (Int32.ofInt (S.1 (yO Λ a) (yF Λ a) (((Int32.ofInt i).toNatClampNeg : Nat) : Int))) :: st))
  rw [v2, a3, a4]
  exact kk H locs ls hP hl
theorem pw_aZ (hG : QAct cc own nL R Λ G) {a o f : Nat} {n i : Int} (ha : qAr Λ a 12 o f n) (hi : 0 ≤ i ∧ i < n) (hd : decode cc pc = .ok (.baload, 1)) (kk : G (pc + 1) lv (vI (S.1 o f i) :: st) S) : G pc lv (vI i :: .ref a :: st) S := by
  obtain ⟨p, l, e, s, m, args, below, meth, c, cells, slots, Q, A, Δ, hx, hb, hml, hown, hts, hn, hK, hL, hA, hcl, hsl, rfl⟩ := hG
  intro H locs ls hP hl
  obtain ⟨a1, a2, a3, a4, a5, a6⟩ := ha
  obtain ⟨q0, hq⟩ := q_pool_get (Δ := Δ) (S := S) a1
  rw [q_wF_at ⟨a1, a2⟩] at hq
  have hq1 : (va_pl (yL Λ) (wF Δ Λ S))[q0]? = some (a, .inl (Δ.2 1, yN Λ a, .inl (fun j => Int32.ofInt (S.1 (yO Λ a) (yF Λ a) (j : Int))))) := hq
  obtain ⟨v1, v2⟩ := q_vin hi.1 (by rw [a5]; exact hi.2) a6
  refine va_zald hx hb hK hP.1 q0 1 hq1 rfl v1 hd ?_
  show W p l e R s m args below meth c H locs cells slots Q (F0 m (pc + 1) ls (.int (Int32.ofInt (S.1 (yO Λ a) (yF Λ a) (((Int32.ofInt i).toNatClampNeg : Nat) : Int))) :: st))
  rw [v2, a3, a4]
  exact kk H locs ls hP hl
theorem q_updI {S : QMem} {o f : Nat} {i x : Int} {j : Nat} (h : (j : Int) = i) : upd (fun k : Nat => Int32.ofInt (S.1 o f (k : Int))) j (Int32.ofInt x) = fun k : Nat => Int32.ofInt ((q_st S o f i x).1 o f (k : Int)) := by
  funext k
  by_cases hk : k = j
  · subst hk
    rw [h, q_st_eq]
    simp [upd]
  · rw [q_st_ne (fun q => hk (by have := q.2.2; omega))]
    simp [upd, hk]
theorem pw_sI (hG : QAct cc own nL R Λ G) {a o f : Nat} {n i x : Int} (ha : qAr Λ a 11 o f n) (hi : 0 ≤ i ∧ i < n) (hd : decode cc pc = .ok (.iastore, 1)) (kk : ∀ S' : QMem, S' = q_st S o f i x → G (pc + 1) lv st S') : G pc lv (vI x :: vI i :: .ref a :: st) S := by
  have kk := kk _ rfl
  obtain ⟨p, l, e, s, m, args, below, meth, c, cells, slots, Q, A, Δ, hx, hb, hml, hown, hts, hn, hK, hL, hA, hcl, hsl, rfl⟩ := hG
  intro H locs ls hP hl
  have hkeep := q_keepA (Δ := Δ) (S := S) (i := i) (v := x) hL ha (Or.inl rfl)
  obtain ⟨a1, a2, a3, a4, a5, a6⟩ := ha
  obtain ⟨q0, hq⟩ := q_pool_get (Δ := Δ) (S := S) a1
  have hq0 := hq
  rw [q_wF_at ⟨a1, a2⟩] at hq
  have hq1 : (va_pl (yL Λ) (wF Δ Λ S))[q0]? = some (a, .inl (Δ.2 0, yN Λ a, .inl (fun j => Int32.ofInt (S.1 (yO Λ a) (yF Λ a) (j : Int))))) := hq
  rw [a3, a4] at hq1
  obtain ⟨v1, v2⟩ := q_vin hi.1 (by rw [a5]; exact hi.2) a6
  have hset := q_pool_set (S' := q_st S o f i x) (e := .inl (Δ.2 0, yN Λ a, .inl (fun k : Nat => Int32.ofInt ((q_st S o f i x).1 o f (k : Int))))) hP.2.1 a1 hq0 (by rw [q_wF_at ⟨a1, a2⟩]; show (Sum.inl (_, yN Λ a, Sum.inl (fun j : Nat => Int32.ofInt ((q_st S o f i x).1 (yO Λ a) (yF Λ a) (j : Int)))) : va_E) = _; rw [a3, a4]) hkeep
  refine va_iast hx hb hK hP.1 hP.2.1 hP.2.2.1 q0 0 hq1 rfl v1 hd (fun H1 locs1 h1 h2 h3 => ?_)
  rw [q_updI v2, hset] at h1 h2
  exact kk H1 locs1 ls ⟨h1, h2, h3, hP.2.2.2⟩ hl
theorem pw_sZ (hG : QAct cc own nL R Λ G) {a o f : Nat} {n i x : Int} (ha : qAr Λ a 12 o f n) (hi : 0 ≤ i ∧ i < n) (hbx : bl x) (hd : decode cc pc = .ok (.bastore, 1)) (kk : ∀ S' : QMem, S' = q_st S o f i x → G (pc + 1) lv st S') : G pc lv (vI x :: vI i :: .ref a :: st) S := by
  have kk := kk _ rfl
  obtain ⟨p, l, e, s, m, args, below, meth, c, cells, slots, Q, A, Δ, hx, hb, hml, hown, hts, hn, hK, hL, hA, hcl, hsl, rfl⟩ := hG
  intro H locs ls hP hl
  have hkeep := q_keepA (Δ := Δ) (S := S) (i := i) (v := x) hL ha (Or.inr rfl)
  obtain ⟨a1, a2, a3, a4, a5, a6⟩ := ha
  obtain ⟨q0, hq⟩ := q_pool_get (Δ := Δ) (S := S) a1
  have hq0 := hq
  rw [q_wF_at ⟨a1, a2⟩] at hq
  have hq1 : (va_pl (yL Λ) (wF Δ Λ S))[q0]? = some (a, .inl (Δ.2 1, yN Λ a, .inl (fun j => Int32.ofInt (S.1 (yO Λ a) (yF Λ a) (j : Int))))) := hq
  rw [a3, a4] at hq1
  obtain ⟨v1, v2⟩ := q_vin hi.1 (by rw [a5]; exact hi.2) a6
  have hnx : vp_nar .boolean (Int32.ofInt x) = Int32.ofInt x := by rcases hbx with rfl | rfl <;> rfl
  have hset := q_pool_set (S' := q_st S o f i x) (e := .inl (Δ.2 1, yN Λ a, .inl (fun k : Nat => Int32.ofInt ((q_st S o f i x).1 o f (k : Int))))) hP.2.1 a1 hq0 (by rw [q_wF_at ⟨a1, a2⟩]; show (Sum.inl (_, yN Λ a, Sum.inl (fun j : Nat => Int32.ofInt ((q_st S o f i x).1 (yO Λ a) (yF Λ a) (j : Int)))) : va_E) = _; rw [a3, a4]) hkeep
  refine va_zast hx hb hK hP.1 hP.2.1 hP.2.2.1 q0 1 hq1 rfl v1 hd (fun H1 locs1 h1 h2 h3 => ?_)
  rw [hnx, q_updI v2, hset] at h1 h2
  exact kk H1 locs1 ls ⟨h1, h2, h3, hP.2.2.2⟩ hl
/-- a row of a grid -/
theorem pw_aG (hG : QAct cc own nL R Λ G) {a o f : Nat} {n i : Int} (ha : qAr Λ a 15 o f n) (hi : 0 ≤ i ∧ i < n) (hd : decode cc pc = .ok (.aaload, 1)) (kk : G (pc + 1) lv (.ref (yA Λ o (rw_ f i)) :: st) S) : G pc lv (vI i :: .ref a :: st) S := by
  obtain ⟨p, l, e, s, m, args, below, meth, c, cells, slots, Q, A, Δ, hx, hb, hml, hown, hts, hn, hK, hL, hA, hcl, hsl, rfl⟩ := hG
  intro H locs ls hP hl
  obtain ⟨a1, a2, a3, a4, a5, a6⟩ := ha
  obtain ⟨q0, hq⟩ := q_pool_get (Δ := Δ) (S := S) a1
  rw [q_wF_at ⟨a1, a2⟩] at hq
  obtain ⟨v1, v2⟩ := q_vin hi.1 (by rw [a5]; exact hi.2) a6
  have hlt : (Int32.ofInt i).toNatClampNeg < yN Λ a := Nat.not_le.mp fun q => v1 (Or.inr q)
  refine W.aald (v := va_rf (some (yA Λ (yO Λ a) (rw_ (yF Λ a) (((Int32.ofInt i).toNatClampNeg : Nat) : Int))))) (ty := .array .int) hx hb (hP.1 q0 _ hq) ((hK.2 4 _ rfl).1 (yN Λ a) (fun j => va_rf (some (yA Λ (yO Λ a) (rw_ (yF Λ a) ((j : Nat) : Int)))))) rfl (fun q => by cases q) (by show ¬ (Int32.ofInt i < 0 ∨ (arrV _ _ _).slots.size ≤ _); rw [arrV_size]; exact v1) (by show (arrV _ _ _).slots[_]? = _; rw [arrV_read _ _ hlt]) rfl rfl hd ?_
  show W p l e R s m args below meth c H locs cells slots Q (F0 m (pc + 1) ls (.ref (yA Λ (yO Λ a) (rw_ (yF Λ a) (((Int32.ofInt i).toNatClampNeg : Nat) : Int))) :: st))
  rw [v2, a3, a4]
  exact kk H locs ls hP hl
/-- an object of an array -/
theorem pw_aO (hG : QAct cc own nL R Λ G) {a ka o f : Nat} {n i : Int} (ha : qAr Λ a ka o f n) (hka : ka = 13 ∨ ka = 14) (hi : 0 ≤ i ∧ i < n) (hd : decode cc pc = .ok (.aaload, 1)) (kk : G (pc + 1) lv (.ref (yR Λ o f i) :: st) S) : G pc lv (vI i :: .ref a :: st) S := by
  obtain ⟨p, l, e, s, m, args, below, meth, c, cells, slots, Q, A, Δ, hx, hb, hml, hown, hts, hn, hK, hL, hA, hcl, hsl, rfl⟩ := hG
  intro H locs ls hP hl
  obtain ⟨a1, a2, a3, a4, a5, a6⟩ := ha
  obtain ⟨q0, hq⟩ := q_pool_get (Δ := Δ) (S := S) a1
  rw [q_wF_at ⟨a1, a2⟩] at hq
  obtain ⟨v1, v2⟩ := q_vin hi.1 (by rw [a5]; exact hi.2) a6
  rcases hka with rfl | rfl
  · have hq1 : (va_pl (yL Λ) (wF Δ Λ S))[q0]? = some (a, .inl (Δ.2 2, yN Λ a, .inr (.inr (.inr (.inr (fun j => some (yR Λ (yO Λ a) (yF Λ a) (j : Int)))))))) := hq
    refine va_aldq hx hb hK hP.1 q0 2 hq1 rfl v1 hd ?_
    show W p l e R s m args below meth c H locs cells slots Q (F0 m (pc + 1) ls (.ref (yR Λ (yO Λ a) (yF Λ a) (((Int32.ofInt i).toNatClampNeg : Nat) : Int)) :: st))
    rw [v2, a3, a4]
    exact kk H locs ls hP hl
  · have hq1 : (va_pl (yL Λ) (wF Δ Λ S))[q0]? = some (a, .inl (Δ.2 3, yN Λ a, .inr (.inr (.inr (.inr (fun j => some (yR Λ (yO Λ a) (yF Λ a) (j : Int)))))))) := hq
    refine va_aldq hx hb hK hP.1 q0 3 hq1 rfl v1 hd ?_
    show W p l e R s m args below meth c H locs cells slots Q (F0 m (pc + 1) ls (.ref (yR Λ (yO Λ a) (yF Λ a) (((Int32.ofInt i).toNatClampNeg : Nat) : Int)) :: st))
    rw [v2, a3, a4]
    exact kk H locs ls hP hl
/-! switches -/
theorem pw_table (hG : QAct cc own nL R Λ G) {x lo hi dflt : Int} {offs : Array Int} {len : Nat} (hd : decode cc pc = .ok (.tableswitch dflt lo hi offs, len)) (hr : inR x) {tgt : Nat} (hlo : lo ≤ x) (hhi : x ≤ hi) {off : Int} (ho : offs[(x - lo).toNat]? = some off) (ht : (pc : Int) + off = (tgt : Int)) (k : G tgt lv st S) : G pc lv (vI x :: st) S := by
  obtain ⟨p, l, e, s, m, args, below, meth, c, cells, slots, Q, A, Δ, hx, hb, hml, hown, hts, hn, hK, hL, hA, hcl, hsl, rfl⟩ := hG
  intro H locs ls hP hl
  exact lv_tableIn hx hb hd (by rw [q_rng hr]; omega) (by rw [q_rng hr]; omega) (by rw [q_rng hr]; exact ho) ht (k H locs ls hP hl)
theorem pw_tableD (hG : QAct cc own nL R Λ G) {x lo hi dflt : Int} {offs : Array Int} {len : Nat} (hd : decode cc pc = .ok (.tableswitch dflt lo hi offs, len)) (hr : inR x) {tgt : Nat} (h : x < lo ∨ hi < x) (ht : (pc : Int) + dflt = (tgt : Int)) (k : G tgt lv st S) : G pc lv (vI x :: st) S := by
  obtain ⟨p, l, e, s, m, args, below, meth, c, cells, slots, Q, A, Δ, hx, hb, hml, hown, hts, hn, hK, hL, hA, hcl, hsl, rfl⟩ := hG
  intro H locs ls hP hl
  exact lv_tableOut hx hb hd (by rw [q_rng hr]; exact h) ht (k H locs ls hP hl)
theorem pw_look (hG : QAct cc own nL R Λ G) {x dflt : Int} {ps : Array (Int × Int)} {len : Nat} (hd : decode cc pc = .ok (.lookupswitch dflt ps, len)) (hr : inR x) (hp : (ps.toList.zip (ps.toList.drop 1)).all (fun (a, next) => a.1 < next.1) = true) {off : Int} (ho : Op.lookupswitch.offset ps.toList dflt x = off) {tgt : Nat} (ht : (pc : Int) + off = (tgt : Int)) (k : G tgt lv st S) : G pc lv (vI x :: st) S := by
  obtain ⟨p, l, e, s, m, args, below, meth, c, cells, slots, Q, A, Δ, hx, hb, hml, hown, hts, hn, hK, hL, hA, hcl, hsl, rfl⟩ := hG
  intro H locs ls hP hl
  exact lv_lookup hx hb hd hp (by rw [q_rng hr]; exact ho) ht (k H locs ls hP hl)
/-! Math -/
theorem pw_max (hG : QAct cc own nL R Λ G) {x y : Int} {i : Nat} (hw : Cond.methodLink own i Lib.Math.max.name ∈ lw_g) (hd : decode cc pc = .ok (.invokestatic i, 3)) (hrx : inR x) (hry : inR y) (hf : 1 ≤ R.frames) (hlo : (st.map fun v => v.category).sum + 13 ≤ R.locals) (k : G (pc + 3) lv (vI (if x < y then y else x) :: st) S) : G pc lv (vI y :: vI x :: st) S := by
  obtain ⟨p, l, e, s, m, args, below, meth, c, cells, slots, Q, A, Δ, hx, hb, hml, hown, hts, hn, hK, hL, hA, hcl, hsl, rfl⟩ := hG
  intro H locs ls hP hl
  refine va_mmax hx hb (by rw [hml]; exact hl.1.symm) hown (hts _ hw) (hts _ q_mxS) (hts _ q_mI) (hts _ q_mxC) hf hlo hcl hsl hd ?_
  have e1 : (if Int32.ofInt x < Int32.ofInt y then Int32.ofInt y else Int32.ofInt x) = Int32.ofInt (if x < y then y else x) := by
    by_cases h : x < y
    · rw [if_pos h, if_pos ((q_lt hrx hry).mpr h)]
    · rw [if_neg h, if_neg (fun z => h ((q_lt hrx hry).mp z))]
  rw [e1]
  exact k H locs ls hP hl
theorem pw_min (hG : QAct cc own nL R Λ G) {x y : Int} {i : Nat} (hw : Cond.methodLink own i Lib.Math.min.name ∈ lw_g) (hd : decode cc pc = .ok (.invokestatic i, 3)) (hrx : inR x) (hry : inR y) (hf : 1 ≤ R.frames) (hlo : (st.map fun v => v.category).sum + 13 ≤ R.locals) (k : G (pc + 3) lv (vI (if y < x then y else x) :: st) S) : G pc lv (vI y :: vI x :: st) S := by
  obtain ⟨p, l, e, s, m, args, below, meth, c, cells, slots, Q, A, Δ, hx, hb, hml, hown, hts, hn, hK, hL, hA, hcl, hsl, rfl⟩ := hG
  intro H locs ls hP hl
  refine va_mmin hx hb (by rw [hml]; exact hl.1.symm) hown (hts _ hw) (hts _ q_mnS) (hts _ q_mI) (hts _ q_mnC) hf hlo hcl hsl hd ?_
  have e1 : (if Int32.ofInt y < Int32.ofInt x then Int32.ofInt y else Int32.ofInt x) = Int32.ofInt (if y < x then y else x) := by
    by_cases h : y < x
    · rw [if_pos h, if_pos ((q_lt hry hrx).mpr h)]
    · rw [if_neg h, if_neg (fun z => h ((q_lt hry hrx).mp z))]
  rw [e1]
  exact k H locs ls hP hl
theorem pw_abs (hG : QAct cc own nL R Λ G) {x : Int} {i : Nat} (hw : Cond.methodLink own i Lib.Math.abs.name ∈ lw_g) (hd : decode cc pc = .ok (.invokestatic i, 3)) (hrx : inR x) (hf : 1 ≤ R.frames) (hlo : (st.map fun v => v.category).sum + 13 ≤ R.locals) (k : G (pc + 3) lv (vI (if 0 ≤ x then x else 0 - x) :: st) S) : G pc lv (vI x :: st) S := by
  obtain ⟨p, l, e, s, m, args, below, meth, c, cells, slots, Q, A, Δ, hx, hb, hml, hown, hts, hn, hK, hL, hA, hcl, hsl, rfl⟩ := hG
  intro H locs ls hP hl
  refine va_mabs hx hb (by rw [hml]; exact hl.1.symm) hown (hts _ hw) (hts _ q_maS) (hts _ q_mI) (hts _ q_maC) hf hlo hcl hsl hd ?_
  have e1 : (if 0 ≤ Int32.ofInt x then Int32.ofInt x else 0 - Int32.ofInt x) = Int32.ofInt (if 0 ≤ x then x else 0 - x) := by
    by_cases h : 0 ≤ x
    · rw [if_pos h, if_pos (by rw [q_z]; exact (q_le q_R0 hrx).mpr h)]
    · rw [if_neg h, if_neg (fun z => h ((q_le q_R0 hrx).mp (by rw [← q_z]; exact z))), Int32.ofInt_sub]
      rfl
  rw [e1]
  exact k H locs ls hP hl
end QROWS
def lA (Λ : QLay) (sz : Nat) : Nat → Prop := fun q => q ∈ yL Λ ∨ sz ≤ q
/-- a method's contract over the pool: from the memory S it comes to an end with the answer v and the memory S' such that Qp v S' -/
def QCt (l : Launch) (y : MethodName) (cc : ByteArray) (nL : Nat) (rt : Option FieldType) (fr lo : Nat) (Δ : QDl) (Λ : QLay) (av : List Value) (S : QMem) (Qp : Option Value → QMem → Prop) : Prop :=
  ∀ sz : Nat, Met l y (.code y cc nL rt :: lw_g) { frames := fr, cells := 0, slots := 0, locals := lo }
    (va_Pc av (fun U => U.heap.size = sz ∧ va_P Δ.1 classes (va_pl (yL Λ) (wF Δ Λ S)) U.heap ∧ va_K Δ.1 classes (q_tys Δ) U ∧ va_D (fun _ => True) (va_pl (yL Λ) (wF Δ Λ S)) ∧ okP Λ S ∧ q_nest U))
    (fun _ st oc t => (∃ (v : Option Value) (S' : QMem), oc = .returned v ∧ Qp v S' ∧ va_P Δ.1 classes (va_pl (yL Λ) (wF Δ Λ S')) t.heap ∧ va_D (lA Λ sz) (va_pl (yL Λ) (wF Δ Λ S')) ∧ okP Λ S') ∧ va_F (lA Λ sz) st t) 0 0 (lA Λ sz)
theorem q_nest_warm {s U : State} (hW : s.WarmedH U.vm) (h : q_nest s) : q_nest U := ⟨va_Nw.warmM hW h.1, va_Nw.warmM hW h.2⟩
theorem q_nest_same {s U : State} (hv : s.vm = U.vm) (h : q_nest s) : q_nest U := ⟨va_Nw.same rfl hv h.1, va_Nw.same rfl hv h.2⟩
theorem q_memL {Δ : QDl} {Λ : QLay} {S : QMem} {k : Nat} {q : Nat × va_E} (h : (va_pl (yL Λ) (wF Δ Λ S))[k]? = some q) : q.1 ∈ yL Λ := by
  obtain ⟨a, ha, he⟩ := List.mem_map.mp (List.mem_of_getElem? h)
  rw [← he]
  exact ha
theorem q_D_self {Δ : QDl} {Λ : QLay} {S : QMem} {sz : Nat} {A : Nat → Prop} (h : va_D A (va_pl (yL Λ) (wF Δ Λ S))) : va_D (lA Λ sz) (va_pl (yL Λ) (wF Δ Λ S)) := h.weaken (fun _ _ hk _ => Or.inl (q_memL hk))
theorem q_free {Δ : QDl} {Λ : QLay} {S : QMem} {A : Nat → Prop} {H0 H : Heap} {locs : List Loc} (hD : va_D A (va_pl (yL Λ) (wF Δ Λ S))) (hS : va_S A H0 H locs) (hA : ∀ q : Nat, H0.size ≤ q → A q) : ∀ q : Nat, lA Λ H.size q → A q := by
  intro q h
  rcases h with h | h
  · obtain ⟨k, hk⟩ := q_pool_get (Δ := Δ) (S := S) h
    exact hD.2 k _ hk
  · exact hA q (Nat.le_trans hS.1 h)
/-- a body's walk gives the contract; the return rows are what the walk is given -/
theorem QCt.mk {l : Launch} {y : MethodName} {cc : ByteArray} {nL : Nat} {rt : Option FieldType} {fr lo : Nat} {Δ : QDl} {Λ : QLay} {av : List Value} {S : QMem} {Qp : Option Value → QMem → Prop} {own : String} (hΛ : LayOk Λ) (hy : plainName y.cls = true) (ho : y.cls = own) {lv : List (Nat × Value)} (hlv : lv_args 0 av = lv) (hn : (lg_sl av).length ≤ nL)
    (body : ∀ G : Nat → List (Nat × Value) → List Value → QMem → Prop, QAct cc own nL { frames := fr, cells := 0, slots := 0, locals := lo } Λ G →
      (∀ (pc : Nat) (lv : List (Nat × Value)) (x : Int) (S : QMem), rt = some .int → decode cc pc = .ok (.ireturn, 1) → Qp (some (vI x)) S → G pc lv [vI x] S) →
      (∀ (pc : Nat) (lv : List (Nat × Value)) (x : Int) (S : QMem), rt = some .boolean → decode cc pc = .ok (.ireturn, 1) → bl x → Qp (some (vI x)) S → G pc lv [vI x] S) →
      (∀ (pc : Nat) (lv : List (Nat × Value)) (S : QMem), rt = none → decode cc pc = .ok (.return_, 1) → Qp none S → G pc lv [] S) →
      (∀ (pc : Nat) (lv : List (Nat × Value)) (x : Int) (S : QMem), rt = some .long → decode cc pc = .ok (.lreturn, 1) → Qp (some (vJ x)) S → G pc lv [vJ x] S) →
      (∀ (pc : Nat) (lv : List (Nat × Value)) (x : Nat) (C : String) (S : QMem), rt = some (.object C) → decode cc pc = .ok (.areturn, 1) → Qp (some (.ref x)) S → G pc lv [.ref x] S) →
      G 0 lv [] S) : QCt l y cc nL rt fr lo Δ Λ av S Qp := by
  intro sz
  refine Met.ofW (cc := cc) (maxL := nL) (ret := rt) hy rfl ?_
  intro p e s m args below meth c s₁ B hml hv
  obtain ⟨rfl, hsz, hP, hK, hD0, hok, hne⟩ := hv
  have hx := B.exec
  have hb := B.bytes
  have hr := B.returns
  have hts0 := atoms_spec (ws := .code y cc nL rt :: lw_g) B.pre
  have hts : ∀ w ∈ lw_g, w.before av.toArray s = true := fun w hw => hts0 w (List.mem_cons_of_mem _ hw)
  have hown : s.vm.findClass own = some m.cls := by rw [← ho]; exact findClass_of_methodNamed B.named
  have hlocks := B.notSynchronized
  subst hsz
  have fin : ∀ (v : Option Value) (S : QMem) (H : Heap) (locs : List Loc), q_P Δ Λ S (lA Λ s.heap.size) s.heap H locs → Qp v S → ∀ t : State, t.heap = H → s.WarmedH t.vm → (∃ (v' : Option Value) (S' : QMem), Outcome.returned v = .returned v' ∧ Qp v' S' ∧ va_P Δ.1 classes (va_pl (yL Λ) (wF Δ Λ S')) t.heap ∧ va_D (lA Λ s.heap.size) (va_pl (yL Λ) (wF Δ Λ S')) ∧ okP Λ S') ∧ va_F (lA Λ s.heap.size) s t := by
    intro v S H locs hP hq t ht _
    exact ⟨⟨v, S, rfl, hq, by rw [ht]; exact hP.1, hP.2.1, hP.2.2.2⟩, hP.2.2.1.F ht⟩
  have key := body (fun pc lv st S => ∀ (H : Heap) (locs : List Loc) (ls : Array Slot), q_P Δ Λ S (lA Λ s.heap.size) s.heap H locs → lv_has ls nL lv → W p l e (headSpec (.code y cc nL rt :: lw_g) { frames := fr, cells := 0, slots := 0, locals := lo }).room s m av.toArray below meth c H locs 0 0 (MQ below (fun _ st oc t => (∃ (v : Option Value) (S' : QMem), oc = .returned v ∧ Qp v S' ∧ va_P Δ.1 classes (va_pl (yL Λ) (wF Δ Λ S')) t.heap ∧ va_D (lA Λ s.heap.size) (va_pl (yL Λ) (wF Δ Λ S')) ∧ okP Λ S') ∧ va_F (lA Λ s.heap.size) st t) av.toArray s 0 0 (lA Λ s.heap.size)) (F0 m pc ls st))
    ⟨p, l, e, s, m, av.toArray, below, meth, c, 0, 0, _, lA Λ s.heap.size, Δ, hx, hb, hml, hown, hts, hne, hK, hΛ, fun q h => Or.inr h, Nat.le_refl _, Nat.le_refl _, rfl⟩
    (fun pc lv x S hrt hd hq H locs ls hP hl => W.iret hx hb (hr.trans hrt) (fin _ _ _ _ hP hq) hP.2.2.1.2.2 hd hlocks)
    (fun pc lv x S hrt hd hbx hq H locs ls hP hl => W.zret hx hb (hr.trans hrt) (q_nb hbx).1 (fin _ _ _ _ hP hq) hP.2.2.1.2.2 hd hlocks)
    (fun pc lv S hrt hd hq H locs ls hP hl => W.vret hx hb (hr.trans hrt) (fin _ _ _ _ hP hq) hP.2.2.1.2.2 hd hlocks)
    (fun pc lv x S hrt hd hq H locs ls hP hl => W.lret hx hb (hr.trans hrt) (fin _ _ _ _ hP hq) hP.2.2.1.2.2 hd hlocks)
    (fun pc lv x C S hrt hd hq H locs ls hP hl => W.aret hx hb (hr.trans hrt) (Or.inl ⟨C, rfl⟩) (Or.inr ⟨x, rfl⟩) (fin _ _ _ _ hP hq) hP.2.2.1.2.2 hd hlocks)
  have hl := lv_entry av (n := nL) hn
  rw [hlv] at hl
  rw [lg_entry_eq]
  exact key s.heap [] _ ⟨hP, q_D_self hD0, va_S.rf, hok⟩ hl
theorem q_blind {Δ : QDl} {Λ : QLay} {S : QMem} {av : List Value} {sz : Nat} : FrameBlind (va_Pc av (fun U => U.heap.size = sz ∧ va_P Δ.1 classes (va_pl (yL Λ) (wF Δ Λ S)) U.heap ∧ va_K Δ.1 classes (q_tys Δ) U ∧ va_D (fun _ => True) (va_pl (yL Λ) (wF Δ Λ S)) ∧ okP Λ S ∧ q_nest U)) :=
  fun a U g mk q => by
    obtain ⟨q0, q1, qP, qK, qD, qO, qN⟩ := q
    exact ⟨q0, q1, qP, va_K.moved (u := U) (U := U.calling g mk a) (Vm.Alike.refl U.vm) qK, qD, qO, q_nest_same rfl qN⟩
section QCALLS
variable {cc : ByteArray} {own : String} {nL : Nat} {R : Room} {Λ : QLay} {G : Nat → List (Nat × Value) → List Value → QMem → Prop} {pc : Nat} {lv : List (Nat × Value)} {st : List Value} {S : QMem}
variable {y : MethodName} {bytes : ByteArray} {maxL : Nat} {rt : Option FieldType} {fr lo idx n : Nat} {Qp : Option Value → QMem → Prop} {As : List Value}
/-- behind a call -/
theorem q_after {p : Program} {l : Launch} {e : Env} {s : State} {m : MethodId} {args : Array Value} {below : List Frame} {meth : Method} {c : Code} {cells slots : Nat} {Q : State → Prop} {A : Nat → Prop} {Δ : QDl} {H : Heap} {locs : List Loc} {ls : Array Slot} {st0 : List Value} {a : Array Value}
    (hA : ∀ q : Nat, s.heap.size ≤ q → A q) (hP : q_P Δ Λ S A s.heap H locs)
    (hr : va_Run p l e R s m args below meth c H locs cells slots 0 0 (F0 m pc ls st0) st ((fun _ st oc t => (∃ (v : Option Value) (S' : QMem), oc = .returned v ∧ Qp v S' ∧ va_P Δ.1 classes (va_pl (yL Λ) (wF Δ Λ S')) t.heap ∧ va_D (lA Λ H.size) (va_pl (yL Λ) (wF Δ Λ S')) ∧ okP Λ S') ∧ va_F (lA Λ H.size) st t : Array Value → State → Outcome → State → Prop) a) (lA Λ H.size))
    (kk : ∀ (v : Option Value) (S' : QMem), Qp v S' → ∀ (H1 : Heap) (locs1 : List Loc), q_P Δ Λ S' A s.heap H1 locs1 → W p l e R s m args below meth c H1 locs1 cells slots Q (F0 m (pc + 3) ls (v.toList ++ st))) : W p l e R s m args below meth c H locs cells slots Q (F0 m pc ls st0) := by
  intro T hT X
  obtain ⟨v, st₀, t, T', L, h0, X', hL, e1, e2, ⟨⟨v', S', hv, hq, h1, h2, h3⟩, hz, hk⟩, stp⟩ := hr T hT X
  cases hv
  rw [h0] at hz hk
  have hF := q_free hP.2.1 hP.2.2.1 hA
  obtain ⟨t2, a1, b1⟩ := kk v S' hq T'.heap (locs ++ L) ⟨by rw [e1]; exact h1, h2.weaken (fun k q _ h => hF q.1 h), ⟨Nat.le_trans hP.2.2.1.1 (by rw [e1]; exact hz), fun q z1 z2 => by rw [e1, hk q (Nat.lt_of_lt_of_le z1 hP.2.2.1.1) (fun z => z2 (hF q z))]; exact hP.2.2.1.2.1 q z1 z2, fun q hq2 => by
      rcases List.mem_append.mp hq2 with h | h
      · exact hP.2.2.1.2.2 q h
      · exact hF _ (hL q h)⟩, h3⟩ T' rfl X'
  exact ⟨t2, stp t2 a1, b1⟩
/-- a virtual call (a private method's too) -/
theorem pw_callV (hG : QAct cc own nL R Λ G) {b k : Nat} {C : String} {T : u_T} {N : Nat} (hM : ∀ (l : Launch) (Δ : QDl), QCt l y bytes maxL rt fr lo Δ Λ (.ref b :: As) S Qp) (ho : qob Λ k b) (hc : classes[k]? = some (C, T, N)) (hw1 : Cond.methodLink own idx y ∈ lw_g) (hw2 : Cond.instanceMethod y ∈ lw_g) (hw3 : Cond.selects C y y ∈ lw_g) (hw4 : Cond.initialized C ∈ lw_g) (hw5 : Cond.code y bytes maxL rt ∈ lw_g)
    (hfs : ∀ Δ, ∃ fs, wE k Δ Λ S b = .inr (k, fs)) (hd : y.cls = C ∧ y.cls ≠ "java/lang/invoke/MethodHandle" ∧ y.cls ≠ "java/lang/invoke/VarHandle" ∧ (parseMethodDescriptor y.desc).map (fun d => d.parameters.length) = some n) (hn2 : As.length = n) (hR : fr + 1 ≤ R.frames ∧ 8 + (maxL + 11) + lo ≤ R.locals) (hst : (st.map fun v => v.category).sum ≤ 8)
    (hdg : decode cc pc = .ok (.invokevirtual idx, 3)) {st0 : List Value} (hs0 : st0 = As.reverse ++ .ref b :: st) (kk : ∀ (v : Option Value) (S' : QMem), Qp v S' → G (pc + 3) lv (v.toList ++ st) S') : G pc lv st0 S := by
  obtain ⟨p, l, e, s, m, args, below, meth, c, cells, slots, Q, A, Δ, hx, hb, hml, hown, hts, hn, hK, hL, hA, hcl, hsl, rfl⟩ := hG
  subst hs0
  intro H locs ls hP hl
  obtain ⟨q0, hq⟩ := q_pool_get (Δ := Δ) (S := S) ho.1
  obtain ⟨fs, hf9⟩ := hfs Δ
  rw [q_wF_at ho, hf9] at hq
  refine q_after (Δ := Δ) (S := S) (a := (Value.ref b :: As).toArray) hA hP (va_runV (As := As) (rest := st) (b := b) (C := C) (n := n) ⟨hx, hb, hml, hown, hts⟩ (hM l Δ H.size) (cwV n hts ?_ rfl rfl rfl hd hR) ⟨q_blind, va_recv hK hP.1 hc hq, fun U hU hW => ⟨rfl, by rw [hU], by rw [hU]; exact hP.1, va_K.moved hW.alike hK, hP.2.1.weaken (fun _ _ _ _ => trivial), hP.2.2.2, q_nest_warm hW hn⟩⟩ rfl hn2 hl.1 rfl (lv_room hst) hdg ⟨hcl, hsl⟩) (fun v S' hq H1 locs1 hP1 => kk v S' hq H1 locs1 ls hP1 hl)
  intro w hw
  have h5 := qm_gi hw5
  rcases List.mem_append.mp hw with h | h
  · have hm : w ∈ lw_g := by
      simp only [List.mem_cons, List.not_mem_nil, or_false] at h
      rcases h with rfl | rfl | rfl | rfl
      · exact hw1
      · exact hw2
      · exact hw3
      · exact hw4
    exact ⟨hm, good_of_word (List.mem_filter.mp hm).2⟩
  · exact h5 w h
/-- a static call -/
theorem pw_callS (hG : QAct cc own nL R Λ G) (hM : ∀ (l : Launch) (Δ : QDl), QCt l y bytes maxL rt fr lo Δ Λ As S Qp) (hw1 : Cond.methodLink own idx y ∈ lw_g) (hw2 : Cond.static y ∈ lw_g) (hw4 : Cond.initialized own ∈ lw_g) (hw5 : Cond.code y bytes maxL rt ∈ lw_g)
    (hd : y.cls = own ∧ y.cls ≠ "java/lang/invoke/MethodHandle" ∧ y.cls ≠ "java/lang/invoke/VarHandle" ∧ (parseMethodDescriptor y.desc).map (fun d => d.parameters.length) = some n) (hn2 : As.length = n) (hR : fr + 1 ≤ R.frames ∧ 8 + (maxL + 11) + lo ≤ R.locals) (hst : (st.map fun v => v.category).sum ≤ 8)
    (hdg : decode cc pc = .ok (.invokestatic idx, 3)) {st0 : List Value} (hs0 : st0 = As.reverse ++ st) (kk : ∀ (v : Option Value) (S' : QMem), Qp v S' → G (pc + 3) lv (v.toList ++ st) S') : G pc lv st0 S := by
  obtain ⟨p, l, e, s, m, args, below, meth, c, cells, slots, Q, A, Δ, hx, hb, hml, hown, hts, hn, hK, hL, hA, hcl, hsl, rfl⟩ := hG
  subst hs0
  intro H locs ls hP hl
  refine q_after (Δ := Δ) (S := S) (a := As.toArray) hA hP (va_runS (As := As) (rest := st) (n := n) ⟨hx, hb, hml, hown, hts⟩ (hM l Δ H.size) (cwS n hts ?_ rfl rfl rfl hd hR) ⟨q_blind, fun U hU hW => ⟨rfl, by rw [hU], by rw [hU]; exact hP.1, va_K.moved hW.alike hK, hP.2.1.weaken (fun _ _ _ _ => trivial), hP.2.2.2, q_nest_warm hW hn⟩⟩ rfl hn2 hl.1 rfl (lv_room hst) hdg ⟨hcl, hsl⟩) (fun v S' hq H1 locs1 hP1 => kk v S' hq H1 locs1 ls hP1 hl)
  intro w hw
  have h5 := qm_gi hw5
  rcases List.mem_append.mp hw with h | h
  · have hm : w ∈ lw_g := by
      simp only [List.mem_cons, List.not_mem_nil, or_false] at h
      rcases h with rfl | rfl | rfl
      · exact hw1
      · exact hw2
      · exact hw4
    exact ⟨hm, good_of_word (List.mem_filter.mp hm).2⟩
  · exact h5 w h
/-- a static call of a nest mate's private method -/
theorem pw_callSN (hG : QAct cc own nL R Λ G) (hM : ∀ (l : Launch) (Δ : QDl), QCt l y bytes maxL rt fr lo Δ Λ As S Qp) (hw1 : ∀ s : State, q_nest s → va_Nw (.methodLinkNest own idx y "TreeDiffer") s) (hw2 : Cond.static y ∈ lw_g) (hw4 : Cond.initialized y.cls ∈ lw_g) (hw5 : Cond.code y bytes maxL rt ∈ lw_g)
    (hd : y.cls ≠ "java/lang/invoke/MethodHandle" ∧ y.cls ≠ "java/lang/invoke/VarHandle" ∧ (parseMethodDescriptor y.desc).map (fun d => d.parameters.length) = some n) (hn2 : As.length = n) (hR : fr + 1 ≤ R.frames ∧ 8 + (maxL + 11) + lo ≤ R.locals) (hst : (st.map fun v => v.category).sum ≤ 8)
    (hdg : decode cc pc = .ok (.invokestatic idx, 3)) {st0 : List Value} (hs0 : st0 = As.reverse ++ st) (kk : ∀ (v : Option Value) (S' : QMem), Qp v S' → G (pc + 3) lv (v.toList ++ st) S') : G pc lv st0 S := by
  obtain ⟨p, l, e, s, m, args, below, meth, c, cells, slots, Q, A, Δ, hx, hb, hml, hown, hts, hn, hK, hL, hA, hcl, hsl, rfl⟩ := hG
  subst hs0
  intro H locs ls hP hl
  exact q_after (Δ := Δ) (S := S) (a := As.toArray) hA hP (va_runSN (As := As) (rest := st) (n := n) ⟨hx, hb, hml, hown, hts⟩ (hM l Δ H.size) ⟨va_cnB n hts (qm_gi hw5) rfl rfl rfl (hw1 s hn) (hts _ hw4) hd hR, hts _ hw2, trivial⟩ ⟨q_blind, fun U hU hW => ⟨rfl, by rw [hU], by rw [hU]; exact hP.1, va_K.moved hW.alike hK, hP.2.1.weaken (fun _ _ _ _ => trivial), hP.2.2.2, q_nest_warm hW hn⟩⟩ rfl hn2 hl.1 rfl (lv_room hst) hdg ⟨hcl, hsl⟩) (fun v S' hq H1 locs1 hP1 => kk v S' hq H1 locs1 ls hP1 hl)
end QCALLS
