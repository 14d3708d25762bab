/-! plain facts of the memory -/
def up (f : Int → Int) (k v : Int) : Int → Int := fun j => if j = k then v else f j
theorem up_s (f : Int → Int) (k v : Int) : up f k v k = v := if_pos rfl
theorem up_n (f : Int → Int) {k j : Int} (v : Int) (h : j ≠ k) : up f k v j = f j := if_neg h
/-- nothing but the fields in P has changed -/
def Kp (P : Nat → Nat → Prop) (S S' : QMem) : Prop := S'.2 = S.2 ∧ ∀ (o f : Nat) (i : Int), ¬ P o f → S'.1 o f i = S.1 o f i
theorem Kp.rf {P : Nat → Nat → Prop} {S : QMem} : Kp P S S := ⟨rfl, fun _ _ _ _ => rfl⟩
theorem Kp.tr {P : Nat → Nat → Prop} {S S1 S2 : QMem} (h : Kp P S S1) (h2 : Kp P S1 S2) : Kp P S S2 := ⟨h2.1.trans h.1, fun o f i q => (h2.2 o f i q).trans (h.2 o f i q)⟩
theorem Kp.mono {P P' : Nat → Nat → Prop} {S S1 : QMem} (h : Kp P S S1) (hp : ∀ o f, P o f → P' o f) : Kp P' S S1 := ⟨h.1, fun o f i q => h.2 o f i (fun z => q (hp o f z))⟩
theorem Kp.st {P : Nat → Nat → Prop} {S S1 : QMem} {o f : Nat} {i v : Int} (h : Kp P S S1) (hp : P o f) : Kp P S (q_st S1 o f i v) := by
  refine ⟨h.1, fun o' f' i' q => ?_⟩
  rw [q_st_ne (fun z => q (by rw [z.1, z.2.1]; exact hp))]
  exact h.2 o' f' i' q
theorem Kp.at {P : Nat → Nat → Prop} {S S1 : QMem} (h : Kp P S S1) {o f : Nat} {i : Int} (q : ¬ P o f) : S1.1 o f i = S.1 o f i := h.2 o f i q
theorem qob_ne {Λ : QLay} {k k' a b : Nat} (ha : qob Λ k a) (hb : qob Λ k' b) (h : k ≠ k') : a ≠ b := fun e => h (by rw [← ha.2, ← hb.2, e])
