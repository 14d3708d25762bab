/-! the reference's trees -/
def MT (S : QMem) (m : Nat) (t n : Int) (la va pa : Int → Int) : Prop := S.1 m 0 t = n ∧ ∀ k, 0 ≤ k → k < n → S.1 m 1 (24 * t + k) = la k ∧ S.1 m 2 (24 * t + k) = va k ∧ S.1 m 3 (24 * t + k) = pa k
def MS (S : QMem) (m : Nat) (t n : Int) (pa : Int → Int) : Prop := ∀ k, 0 ≤ k → k < n → S.1 m 18 (24 * t + k) = en n pa k - k ∧ S.1 m 19 (24 * t + k) = hgT n pa k
def Pm (m : Nat) (t : Int) (o f : Nat) (i : Int) : Prop := o = m ∧ (f = 18 ∨ f = 19) ∧ 24 * t ≤ i ∧ i < 24 * t + 24
theorem s_Mo_measures {Λ : QLay} {m : Nat} {t n : Int} {S0 : QMem} {Q : QMem → Prop} {pa : Int → Int} (ht : t = 0 ∨ t = 1) (hw : wfN n pa) (h0 : S0.1 m 0 t = n) (h3 : ∀ k, 0 ≤ k → k < n → S0.1 m 3 (24 * t + k) = pa k)
    (hq : ∀ S', Kq (Pm m t) S0 S' → MS S' m t n pa → Q S') : w_Mo_measures Λ m t S0 Q := by
  unfold w_Mo_measures
  have hn := hw.1
  have back : ∀ (i : Nat) (s h : Int → Int) (S : QMem), (i : Int) < n → Kq (Pm m t) S0 S → (∀ k, 1 ≤ h k ∧ h k ≤ n - i) → (∀ k, 0 ≤ k → k < n → S.1 m 18 (24 * t + k) = s k ∧ S.1 m 19 (24 * t + k) = h k) →
      (∀ k, 0 ≤ k → k < n → srun pa i s k = en n pa k - k) → (∀ k, hrun pa i h k = hgT n pa k) → w_Mo_measures_49 Λ Q (i + 1) m t (i : Int) S := by
    intro i
    induction i with
    | zero =>
      intro s h S hi hk hh hs hse hhe
      rw [w_Mo_measures_49]
      refine ⟨by unfold inR; omega, fun _ => ?_, fun z => absurd (by omega) z⟩
      exact hq S hk (fun k k1 k2 => ⟨(hs k k1 k2).1.trans (hse k k1 k2), (hs k k1 k2).2.trans (hhe k)⟩)
    | succ i ih =>
      intro s h S hi hk hh hs hse hhe
      push_cast at hi
      have hp := hw.2.2.1 ((i : Int) + 1) (by omega) hi
      rw [w_Mo_measures_49]
      push_cast
      dsimp only [w_Mo_at]
      refine ⟨by unfold inR; omega, fun z => absurd z (by omega), fun _ => ⟨by omega, ?_⟩⟩
      have e3 : S.1 m 3 (24 * t + ((i : Int) + 1)) = pa ((i : Int) + 1) := by rw [hk.at (by simp [Pm])]; exact h3 _ (by omega) hi
      rw [e3]
      have hsp := hs (pa ((i : Int) + 1)) (by omega) (by omega)
      have hsi := hs ((i : Int) + 1) (by omega) hi
      rw [hsi.2]
      refine ⟨by omega, ?_⟩
      intro x ex
      refine ⟨by omega, by omega, by omega, ?_⟩
      rw [hsp.1, hsi.1]
      intro S1 e1
      have a9 : S1.1 m 19 (24 * t + pa ((i : Int) + 1)) = h (pa ((i : Int) + 1)) := by rw [e1]; simp [q_st, hsp]
      rw [a9]
      have hhx := hh (pa ((i : Int) + 1))
      have hhi := hh ((i : Int) + 1)
      push_cast at hhx hhi
      have hk1 : Kq (Pm m t) S0 S1 := by rw [e1]; exact hk.st ⟨rfl, by simp, by omega, by omega⟩
      have fin : ∀ v, v = (if h ((i : Int) + 1) + 1 ≤ h (pa ((i : Int) + 1)) then h (pa ((i : Int) + 1)) else h ((i : Int) + 1) + 1) → ∀ S2, S2 = q_st S1 m 19 (24 * t + pa ((i : Int) + 1)) v → w_Mo_measures_49 Λ Q (i + 1) m t ((i : Int) + 1 + (-1)) S2 := by
        intro v hv S2 e2
        rw [show (i : Int) + 1 + (-1) = (i : Int) by omega]
        refine ih (up s (pa ((i : Int) + 1)) (s (pa ((i : Int) + 1)) + s ((i : Int) + 1))) (up h (pa ((i : Int) + 1)) v) S2 (by omega) (by rw [e2]; exact hk1.st ⟨rfl, by simp, by omega, by omega⟩) (fun k => ?_) (fun k k1 k2 => ?_) (fun k k1 k2 => ?_) (fun k => ?_)
        · have := hh k
          push_cast at this
          unfold up
          split
          · rw [hv]; split <;> omega
          · omega
        · have hsk := hs k k1 k2
          rw [e2, e1]
          by_cases q : k = pa ((i : Int) + 1)
          · rw [q, up_s, up_s]; simp [q_st]
          · have q2 : ¬ (24 * t + k = 24 * t + pa ((i : Int) + 1)) := by omega
            rw [up_n _ _ q, up_n _ _ q]; simp [q_st, q2, hsk]
        · have := hse k k1 k2
          unfold srun at this
          exact this
        · have := hhe k
          unfold hrun at this
          rw [hv]
          exact this
      refine ⟨by omega, by unfold inR; omega, by unfold inR; omega, fun z => ⟨by omega, by omega, fin _ (by rw [if_pos (by omega)])⟩, fun z => ⟨by omega, fin _ (by rw [if_neg (by omega), ex])⟩⟩
  refine ⟨n.toNat + 1, ?_⟩
  have key : ∀ (f : Nat) (i : Int) (S : QMem), 0 ≤ i → i ≤ n → n - i < f → Kq (Pm m t) S0 S → (∀ k, 0 ≤ k → k < i → S.1 m 18 (24 * t + k) = 1 ∧ S.1 m 19 (24 * t + k) = 1) → w_Mo_measures_2 Λ Q f m t i S := by
    intro f
    induction f with
    | zero => intro i S a1 a2 a3; omega
    | succ f ih =>
      intro i S a1 a2 a3 hk hs
      have e0 : S.1 m 0 t = n := by rw [hk.at (by simp [Pm])]; exact h0
      rw [w_Mo_measures_2, e0]
      refine ⟨by omega, by unfold inR; omega, by unfold inR; omega, fun z => ⟨by omega, ?_⟩, fun z => ?_⟩
      · intro x ex
        refine ⟨(n - 1).toNat + 1, ?_⟩
        have hx : x = (((n - 1).toNat : Nat) : Int) := by omega
        rw [hx]
        exact back (n - 1).toNat (fun _ => 1) (fun _ => 1) S (by omega) hk (fun k => by omega) (fun k k1 k2 => hs k k1 (by omega)) (fun k k1 k2 => sz_ok hw k1 k2) (fun k => rfl)
      · unfold w_Mo_at
        refine ⟨by omega, ?_⟩
        intro S1 e1
        refine ⟨by omega, ?_⟩
        intro S2 e2
        refine ih (i + 1) S2 (by omega) (by omega) (by omega) (by rw [e2, e1]; exact (hk.st ⟨rfl, by simp, by omega, by omega⟩).st ⟨rfl, by simp, by omega, by omega⟩) (fun k k1 k2 => ?_)
        rw [e2, e1]
        by_cases q : k = i
        · rw [q]; simp [q_st]
        · have q2 : ¬ (24 * t + k = 24 * t + i) := by omega
          simp [q_st, q2, hs k k1 (by omega)]
  exact key _ 0 S0 (by omega) (by omega) (by omega) Kq.rf (fun k a b => by omega)
def Pcp (m : Nat) (t : Int) (o f : Nat) (i : Int) : Prop := o = m ∧ ((f = 0 ∧ i = t) ∨ ((f = 1 ∨ f = 2 ∨ f = 3) ∧ 24 * t ≤ i ∧ i < 24 * t + 24))
theorem s_Mo_copiesTree {Λ : QLay} {m : Nat} {a t : Int} {S0 : QMem} {Q : QMem → Prop} (ha : 0 ≤ a ∧ a < 3) (ht : 0 ≤ t ∧ t < 3) (hat : a ≠ t)
    (hq : ∀ S', Kq (Pcp m t) S0 S' → S'.1 m 0 t = S0.1 m 0 a → (∀ (f : Nat) (k : Int), f = 1 ∨ f = 2 ∨ f = 3 → 0 ≤ k → k < 24 → S'.1 m f (24 * t + k) = S0.1 m f (24 * a + k)) → Q S') : w_Mo_copiesTree Λ m a t S0 Q := by
  unfold w_Mo_copiesTree
  refine ⟨ha, ht, ?_⟩
  intro S1 e1
  have hk1 : Kq (Pcp m t) S0 S1 := by rw [e1]; exact Kq.rf.st ⟨rfl, Or.inl ⟨rfl, rfl⟩⟩
  have h01 : S1.1 m 0 t = S0.1 m 0 a := by rw [e1]; simp [q_st]
  refine ⟨25, ?_⟩
  have key : ∀ (g : Nat) (i : Int) (S : QMem), 0 ≤ i → i ≤ 24 → 24 - i < g → Kq (Pcp m t) S0 S → S.1 m 0 t = S0.1 m 0 a → (∀ (f : Nat) (k : Int), f = 1 ∨ f = 2 ∨ f = 3 → 0 ≤ k → k < i → S.1 m f (24 * t + k) = S0.1 m f (24 * a + k)) → w_Mo_copiesTree_14 Λ Q g m a t i S := by
    intro g
    induction g with
    | zero => intro i S a1 a2 a3; omega
    | succ g ih =>
      intro i S a1 a2 a3 hk h0 hs
      rw [w_Mo_copiesTree_14]
      refine ⟨by unfold inR; omega, fun z => hq S hk h0 (fun f k hf k1 k2 => hs f k hf k1 (by omega)), fun z => ?_⟩
      unfold w_Mo_at
      have src : ∀ f : Nat, f = 1 ∨ f = 2 ∨ f = 3 → S.1 m f (24 * a + i) = S0.1 m f (24 * a + i) := fun f hf => hk.at (by unfold Pcp; omega)
      refine ⟨by omega, by omega, ?_⟩
      intro S2 e2
      refine ⟨by omega, by omega, ?_⟩
      intro S3 e3
      refine ⟨by omega, by omega, ?_⟩
      intro S4 e4
      have n1 : ¬ (24 * a + i = 24 * t + i) := by omega
      refine ih (i + 1) S4 (by omega) (by omega) (by omega) (by rw [e4, e3, e2]; exact ((hk.st ⟨rfl, Or.inr ⟨by simp, by omega, by omega⟩⟩).st ⟨rfl, Or.inr ⟨by simp, by omega, by omega⟩⟩).st ⟨rfl, Or.inr ⟨by simp, by omega, by omega⟩⟩) (by rw [e4, e3, e2]; simp [q_st, h0]) (fun f k hf k1 k2 => ?_)
      rw [e4, e3, e2]
      by_cases q : k = i
      · rw [q]
        rcases hf with rfl | rfl | rfl
        · simp [q_st, src 1 (by simp)]
        · simp [q_st, src 2 (by simp)]
        · simp [q_st, src 3 (by simp)]
      · have q2 : ¬ (24 * t + k = 24 * t + i) := by omega
        simp [q_st, q2, hs f k hf k1 (by omega)]
  exact key 25 0 S1 (by omega) (by omega) (by omega) hk1 h01 (fun f k hf k1 k2 => by omega)
/-! a tree's copy in the class -/
theorem s_Tr_copy {Λ : QLay} {a b : Nat} {S0 : QMem} {Q : QMem → Prop} (hab : a ≠ b)
    (hq : ∀ S', Kp (fun o _ => o = a) S0 S' → S'.1 a 0 0 = S0.1 b 0 0 → (∀ (f : Nat) (k : Int), 1 ≤ f → f ≤ 9 → 0 ≤ k → k < 24 → S'.1 a f k = S0.1 b f k) → Q S') : w_Tr_copy Λ a b S0 Q := by
  unfold w_Tr_copy
  intro S1 e1
  have hk1 : Kp (fun o _ => o = a) S0 S1 := by rw [e1]; exact Kp.rf.st rfl
  have h01 : S1.1 a 0 0 = S0.1 b 0 0 := by rw [e1]; simp [q_st]
  refine ⟨25, ?_⟩
  have hba : b ≠ a := fun z => hab z.symm
  have key : ∀ (g : Nat) (i : Int) (S : QMem), 0 ≤ i → i ≤ 24 → 24 - i < g → Kp (fun o _ => o = a) S0 S → S.1 a 0 0 = S0.1 b 0 0 → (∀ (f : Nat) (k : Int), 1 ≤ f → f ≤ 9 → 0 ≤ k → k < i → S.1 a f k = S0.1 b f k) → w_Tr_copy_10 Λ Q g a b i S := by
    intro g
    induction g with
    | zero => intro i S a1 a2 a3; omega
    | succ g ih =>
      intro i S a1 a2 a3 hk h0 hs
      rw [w_Tr_copy_10]
      refine ⟨by unfold inR; omega, fun z => hq S hk h0 (fun f k f1 f2 k1 k2 => hs f k f1 f2 k1 (by omega)), fun z => ?_⟩
      have src : ∀ f : Nat, S.1 b f i = S0.1 b f i := fun f => hk.at hba
      refine ⟨by omega, by omega, ?_⟩
      intro T1 g1
      refine ⟨by omega, by omega, ?_⟩
      intro T2 g2
      refine ⟨by omega, by omega, ?_⟩
      intro T3 g3
      refine ⟨by omega, by omega, ?_⟩
      intro T4 g4
      refine ⟨by omega, by omega, ?_⟩
      intro T5 g5
      refine ⟨by omega, by omega, ?_⟩
      intro T6 g6
      refine ⟨by omega, by omega, ?_⟩
      intro T7 g7
      refine ⟨by omega, by omega, ?_⟩
      intro T8 g8
      refine ⟨by omega, by omega, ?_⟩
      intro T9 g9
      have hT : Kp (fun o _ => o = a) S T9 := by
        rw [g9, g8, g7, g6, g5, g4, g3, g2, g1]
        exact (((((((((Kp.rf (P := fun o _ => o = a)).st rfl).st rfl).st rfl).st rfl).st rfl).st rfl).st rfl).st rfl).st rfl
      have s1 : ∀ f, T1.1 b f i = S.1 b f i := fun f => by rw [g1]; simp [q_st, hba]
      have s2 : ∀ f, T2.1 b f i = S.1 b f i := fun f => by rw [g2]; simp [q_st, hba, s1]
      have s3 : ∀ f, T3.1 b f i = S.1 b f i := fun f => by rw [g3]; simp [q_st, hba, s2]
      have s4 : ∀ f, T4.1 b f i = S.1 b f i := fun f => by rw [g4]; simp [q_st, hba, s3]
      have s5 : ∀ f, T5.1 b f i = S.1 b f i := fun f => by rw [g5]; simp [q_st, hba, s4]
      have s6 : ∀ f, T6.1 b f i = S.1 b f i := fun f => by rw [g6]; simp [q_st, hba, s5]
      have s7 : ∀ f, T7.1 b f i = S.1 b f i := fun f => by rw [g7]; simp [q_st, hba, s6]
      have s8 : ∀ f, T8.1 b f i = S.1 b f i := fun f => by rw [g8]; simp [q_st, hba, s7]
      rw [s1] at g2
      rw [s2] at g3
      rw [s3] at g4
      rw [s4] at g5
      rw [s5] at g6
      rw [s6] at g7
      rw [s7] at g8
      rw [s8] at g9
      refine ih (i + 1) T9 (by omega) (by omega) (by omega) (hk.tr hT) ?_ (fun f k f1 f2 k1 k2 => ?_)
      · rw [g9, g8, g7, g6, g5, g4, g3, g2, g1]; simp [q_st, h0]
      · by_cases q : k = i
        · rw [q, ← src f]
          have hf : f = 1 ∨ f = 2 ∨ f = 3 ∨ f = 4 ∨ f = 5 ∨ f = 6 ∨ f = 7 ∨ f = 8 ∨ f = 9 := by omega
          rw [g9, g8, g7, g6, g5, g4, g3, g2, g1]
          rcases hf with rfl | rfl | rfl | rfl | rfl | rfl | rfl | rfl | rfl <;> simp [q_st]
        · rw [g9, g8, g7, g6, g5, g4, g3, g2, g1]; simp [q_st, q, hs f k f1 f2 k1 (by omega)]
  exact key 25 0 S1 (by omega) (by omega) (by omega) hk1 h01 (fun f k f1 f2 k1 k2 => by omega)
theorem s_Tr_endOf {Λ : QLay} {a : Nat} {n k : Int} {la va pa : Int → Int} {S : QMem} {Q : Int → QMem → Prop} (hc : CT S a n la va pa) (hw : wfN n pa) (hk : -1 ≤ k ∧ k < n) (hq : Q (if k < 0 then n else en n pa k) S) : w_Tr_endOf Λ a k S Q := by
  unfold w_Tr_endOf
  have hn := hw.1
  refine ⟨by unfold inR; omega, fun z => ⟨by omega, ?_⟩, fun z => ?_⟩
  · rw [if_neg (by omega)] at hq
    rw [(hc.2.1 k z hk.2).2.2.2.2.2.2.1]
    rw [show k + 1 + (en n pa k - k - 1) = en n pa k by omega]
    exact hq
  · rw [if_pos (by omega)] at hq
    rw [hc.1]
    exact hq
