theorem cnt_z {n : Int} {pa : Int → Int} (h : wfN n pa) {k j : Int} (h0 : 0 ≤ k) (h1 : j ≤ k + 1) (h2 : j ≤ n) (h3 : 0 ≤ j) : cnt pa k j = 0 := by
  have : ∀ q : Nat, (q : Int) ≤ k + 1 → (q : Int) ≤ n → cntF pa k q = 0 := by
    intro q
    induction q with
    | zero => intro _ _; rfl
    | succ q ih =>
      intro a b
      push_cast at a b
      unfold cntF
      rw [ih (by omega) (by omega), if_neg (fun z => ?_)]
      · rfl
      · by_cases q0 : (q : Int) = 0
        · rw [q0, h.2.1] at z; omega
        · have := h.2.2.1 (q : Int) (by omega) (by omega)
          omega
  exact this j.toNat (by omega) (by omega)
/-- the class's tree object a holds a tree with all that follows from it -/
def CT (S : QMem) (a : Nat) (n : Int) (la va pa : Int → Int) : Prop := S.1 a 0 0 = n ∧ (∀ k, 0 ≤ k → k < n → S.1 a 1 k = la k ∧ S.1 a 2 k = va k ∧ S.1 a 3 k = pa k ∧ S.1 a 4 k = plT pa k ∧ S.1 a 5 k = dp pa k ∧ S.1 a 6 k = cnt pa k n ∧ S.1 a 7 k = en n pa k - k - 1 ∧ S.1 a 8 k = hgT n pa k) ∧ ∀ k, 0 ≤ k → k < n → S.1 a 9 (pix n pa k) = k
def PC (a o f : Nat) : Prop := o = a ∧ (f = 4 ∨ f = 5 ∨ f = 6 ∨ f = 7 ∨ f = 8 ∨ f = 9)
theorem s_Tr_sort {Λ : QLay} {a : Nat} {S0 : QMem} {Q : QMem → Prop} {n : Int} {pa : Int → Int} (hw : wfN n pa)
    (hq : ∀ S', Kp (fun o f => o = a ∧ f = 9) S0 S' → (∀ k, 0 ≤ k → k < n → S'.1 a 9 (pix n pa k) = k) → Q S') (h0 : S0.1 a 0 0 = n) (h5 : ∀ k, 0 ≤ k → k < n → S0.1 a 5 k = dp pa k ∧ S0.1 a 7 k = en n pa k - k - 1) : w_Tr_sortInPostorder Λ a S0 Q := by
  unfold w_Tr_sortInPostorder
  have hn := hw.1
  refine ⟨n.toNat + 1, ?_⟩
  have key : ∀ (f : Nat) (i : Int) (S : QMem), 0 ≤ i → i ≤ n → n - i < f → Kp (fun o f => o = a ∧ f = 9) S0 S → (∀ k, 0 ≤ k → k < i → S.1 a 9 (pix n pa k) = k) → w_Tr_sortInPostorder_2 Λ Q f a i S := by
    intro f
    induction f with
    | zero => intro i S a1 a2 a3; omega
    | succ f ih =>
      intro i S a1 a2 a3 hk hp
      have e0 : S.1 a 0 0 = n := by rw [hk.at (by simp)]; exact h0
      rw [w_Tr_sortInPostorder_2, e0]
      refine ⟨by unfold inR; omega, by unfold inR; omega, fun z => hq S hk (fun k k1 k2 => hp k k1 (by omega)), fun z => ⟨by omega, by omega, ?_⟩⟩
      have e5 : S.1 a 5 i = dp pa i := by rw [hk.at (by simp)]; exact (h5 i a1 (by omega)).1
      have e7 : S.1 a 7 i = en n pa i - i - 1 := by rw [hk.at (by simp)]; exact (h5 i a1 (by omega)).2
      rw [e5, e7]
      have hx : i - dp pa i + (en n pa i - i - 1) = pix n pa i := rfl
      rw [hx]
      refine ⟨by have := pix_rng hw (k := i) a1 (by omega); omega, ?_⟩
      intro S1 e1
      refine ih (i + 1) S1 (by omega) (by omega) (by omega) (by rw [e1]; exact hk.st ⟨rfl, rfl⟩) (fun k k1 k2 => ?_)
      rw [e1]
      by_cases q : k = i
      · rw [q, q_st_eq]
      · rw [q_st_ne (fun z => q (pix_inj hw k1 (by omega) a1 (by omega) z.2.2))]
        exact hp k k1 (by omega)
  exact key _ 0 S0 (by omega) (by omega) (by omega) Kp.rf (fun k a b => by omega)
theorem s_Tr_complete {Λ : QLay} {a : Nat} {S0 : QMem} {Q : QMem → Prop} {n : Int} {pa : Int → Int} (hw : wfN n pa) (h0 : S0.1 a 0 0 = n) (h3 : ∀ k, 0 ≤ k → k < n → S0.1 a 3 k = pa k)
    (hq : ∀ S', Kp (PC a) S0 S' → (∀ k, 0 ≤ k → k < n → S'.1 a 4 k = plT pa k ∧ S'.1 a 5 k = dp pa k ∧ S'.1 a 6 k = cnt pa k n ∧ S'.1 a 7 k = en n pa k - k - 1 ∧ S'.1 a 8 k = hgT n pa k) → (∀ k, 0 ≤ k → k < n → S'.1 a 9 (pix n pa k) = k) → Q S') : w_Tr_complete Λ a S0 Q := by
  unfold w_Tr_complete
  have hn := hw.1
  have P0 : ∀ f, ¬ PC a a f → ∀ {S : QMem} {i : Int}, Kp (PC a) S0 S → S.1 a f i = S0.1 a f i := fun f q S i hk => hk.at q
  -- the way back
  have back : ∀ (i : Nat) (s h : Int → Int) (S : QMem), (i : Int) < n → Kp (PC a) S0 S → (∀ k, 1 ≤ h k ∧ h k ≤ n - i) → (∀ k, 0 ≤ k → k < n → S.1 a 4 k = plT pa k ∧ S.1 a 5 k = dp pa k ∧ S.1 a 6 k = cnt pa k n ∧ S.1 a 7 k = s k - 1 ∧ S.1 a 8 k = h k) →
      (∀ k, 0 ≤ k → k < n → srun pa i s k = en n pa k - k) → (∀ k, hrun pa i h k = hgT n pa k) → w_Tr_complete_107 Λ Q (i + 2) a (i : Int) S := by
    intro i
    induction i with
    | zero =>
      intro s h S hi hk hh hs hse hhe
      rw [w_Tr_complete_107]
      refine ⟨by unfold inR; omega, fun z => absurd z (by omega), fun _ => ⟨by omega, ?_⟩⟩
      intro x e
      have e3 : S.1 a 3 ((0 : Nat) : Int) = -1 := by
        rw [P0 3 (by simp [PC]) hk]
        exact (h3 0 (by omega) (by omega)).trans hw.2.1
      rw [e3] at e
      refine ⟨by unfold inR; omega, fun _ => ?_, fun z => absurd (by omega) z⟩
      rw [w_Tr_complete_107]
      refine ⟨by unfold inR; omega, fun _ => ?_, fun z => absurd (by omega) z⟩
      have e0 : S.1 a 0 0 = n := by rw [P0 0 (by simp [PC]) hk]; exact h0
      refine s_Tr_sort hw (fun S' hk' hp => ?_) e0 (fun k k1 k2 => ⟨(hs k k1 k2).2.1, ?_⟩)
      · refine hq S' (hk.tr (hk'.mono (fun o f z => ⟨z.1, by simp [z.2]⟩))) (fun k k1 k2 => ?_) hp
        have hsk := hs k k1 k2
        refine ⟨by rw [hk'.at (by simp)]; exact hsk.1, by rw [hk'.at (by simp)]; exact hsk.2.1, by rw [hk'.at (by simp)]; exact hsk.2.2.1, ?_, ?_⟩
        · rw [hk'.at (by simp), hsk.2.2.2.1]
          have := hse k k1 k2
          show s k - 1 = _
          have e : s k = en n pa k - k := this
          omega
        · rw [hk'.at (by simp), hsk.2.2.2.2]
          exact hhe k
      · rw [(hs k k1 k2).2.2.2.1]
        have e : s k = en n pa k - k := hse k k1 k2
        omega
    | succ i ih =>
      intro s h S hi hk hh hs hse hhe
      push_cast at hi
      have hp := hw.2.2.1 ((i : Int) + 1) (by omega) hi
      rw [w_Tr_complete_107]
      push_cast
      refine ⟨by unfold inR; omega, fun z => absurd z (by omega), fun _ => ⟨by omega, ?_⟩⟩
      intro x e
      have e3 : S.1 a 3 ((i : Int) + 1) = pa ((i : Int) + 1) := by
        rw [P0 3 (by simp [PC]) hk]
        exact h3 _ (by omega) hi
      rw [e3] at e
      refine ⟨by unfold inR; omega, fun z => absurd z (by omega), fun _ => ⟨by omega, by omega, by omega, ?_⟩⟩
      have hsp := hs x (by omega) (by omega)
      have hsi := hs ((i : Int) + 1) (by omega) hi
      rw [hsp.2.2.2.1, hsi.2.2.2.1]
      intro S1 e1
      have a8 : S1.1 a 8 x = h x := by rw [e1]; simp [q_st, hsp]
      have a9 : S1.1 a 8 ((i : Int) + 1) = h ((i : Int) + 1) := by rw [e1]; simp [q_st, hsi]
      rw [a8, a9]
      have hhx := hh x
      have hhi := hh ((i : Int) + 1)
      push_cast at hhx hhi
      refine ⟨by omega, by omega, by unfold inR; omega, by unfold inR; omega, by omega, ?_⟩
      intro S2 e2
      rw [show (i : Int) + 1 + (-1) = (i : Int) by omega]
      refine ih (up s x (s x + s ((i : Int) + 1))) (up h x (if h ((i : Int) + 1) + 1 ≤ h x then h x else h ((i : Int) + 1) + 1)) S2 (by omega) (by rw [e2, e1]; exact (hk.st ⟨rfl, by simp⟩).st ⟨rfl, by simp⟩) (fun k => ?_) (fun k k1 k2 => ?_) (fun k k1 k2 => ?_) (fun k => ?_)
      · have := hh k
        push_cast at this
        unfold up
        split
        · split <;> omega
        · omega
      · have hsk := hs k k1 k2
        rw [e2, e1]
        refine ⟨by simp [q_st, hsk], by simp [q_st, hsk], by simp [q_st, hsk], ?_, ?_⟩
        · by_cases q : k = x
          · rw [q, up_s]; simp [q_st]; omega
          · rw [up_n _ _ q]; simp [q_st, q, hsk]
        · by_cases q : k = x
          · rw [q, up_s]; simp only [q_st]; simp
            split <;> split <;> omega
          · rw [up_n _ _ q]; simp [q_st, q, hsk]
      · have := hse k k1 k2
        unfold srun at this
        rw [← e] at this
        exact this
      · have := hhe k
        unfold hrun at this
        rw [← e] at this
        exact this
  -- the way on
  refine ⟨n.toNat + 1, ?_⟩
  have key : ∀ (f : Nat) (i : Int) (S : QMem), 0 ≤ i → i ≤ n → n - i < f → Kp (PC a) S0 S → (∀ k, 0 ≤ k → k < i → S.1 a 4 k = plT pa k ∧ S.1 a 5 k = dp pa k ∧ S.1 a 6 k = cnt pa k i ∧ S.1 a 7 k = 0 ∧ S.1 a 8 k = 1) → w_Tr_complete_2 Λ Q f a i S := by
    intro f
    induction f with
    | zero => intro i S a1 a2 a3; omega
    | succ f ih =>
      intro i S a1 a2 a3 hk hs
      have e0 : S.1 a 0 0 = n := by rw [P0 0 (by simp [PC]) hk]; exact h0
      rw [w_Tr_complete_2, e0]
      refine ⟨by unfold inR; omega, by unfold inR; omega, fun z => ?_, fun z => ⟨by omega, ?_⟩⟩
      · intro x e
        have hin : i = n := by omega
        refine ⟨(n - 1).toNat + 2, ?_⟩
        have hx : x = (((n - 1).toNat : Nat) : Int) := by omega
        rw [hx]
        refine back (n - 1).toNat (fun _ => 1) (fun _ => 1) S (by omega) hk (fun k => by omega) (fun k k1 k2 => ?_) (fun k k1 k2 => sz_ok hw k1 k2) (fun k => rfl)
        have := hs k k1 (by omega)
        rw [hin] at this
        exact ⟨this.1, this.2.1, this.2.2.1, by rw [this.2.2.2.1]; rfl, this.2.2.2.2⟩
      · intro S1 e1
        refine ⟨by omega, ?_⟩
        intro S2 e2
        refine ⟨by omega, ?_⟩
        intro S3 e3
        refine ⟨by omega, ?_⟩
        have hk3 : Kp (PC a) S0 S3 := by rw [e3, e2, e1]; exact ((hk.st ⟨rfl, by simp⟩).st ⟨rfl, by simp⟩).st ⟨rfl, by simp⟩
        have b3 : S3.1 a 3 i = pa i := by rw [P0 3 (by simp [PC]) hk3]; exact h3 i a1 (by omega)
        rw [b3]
        have hcz : cnt pa i i = 0 := cnt_z hw a1 (by omega) (by omega) a1
        have hci : cnt pa i (i + 1) = 0 := cnt_z hw a1 (by omega) (by omega) (by omega)
        have hs3 : ∀ k, 0 ≤ k → k ≤ i → (k < i → S3.1 a 4 k = plT pa k ∧ S3.1 a 5 k = dp pa k) ∧ S3.1 a 6 k = cnt pa k i ∧ S3.1 a 7 k = 0 ∧ S3.1 a 8 k = 1 := by
          intro k k1 k2
          rw [e3, e2, e1]
          by_cases q : k = i
          · subst q
            refine ⟨fun z => by omega, by simp [q_st, hcz], by simp [q_st], by simp [q_st]⟩
          · have hsk := hs k k1 (by omega)
            exact ⟨fun _ => ⟨by simp [q_st, q, hsk], by simp [q_st, q, hsk]⟩, by simp [q_st, q, hsk], by simp [q_st, q, hsk], by simp [q_st, q, hsk]⟩
        intro x e
        -- what follows, with the place and the depth known
        have rest : ∀ (d4 d5 : Int), d4 = plT pa i → d5 = dp pa i → ∀ S4, S4 = q_st S3 a 4 i d4 → w_Tr_complete_79 Λ (fun v0' v1' S' => w_Tr_complete_2 Λ Q f v0' v1' S') Q a i x a i d5 S4 := by
          intro d4 d5 h4 h5 S4 e4
          unfold w_Tr_complete_79
          refine ⟨by omega, ?_⟩
          intro S5 e5
          have hk5 : Kp (PC a) S0 S5 := by rw [e5, e4]; exact (hk3.st ⟨rfl, by simp⟩).st ⟨rfl, by simp⟩
          have hs5 : ∀ k, 0 ≤ k → k ≤ i → S5.1 a 4 k = plT pa k ∧ S5.1 a 5 k = dp pa k ∧ S5.1 a 6 k = cnt pa k i ∧ S5.1 a 7 k = 0 ∧ S5.1 a 8 k = 1 := by
            intro k k1 k2
            have hsk := hs3 k k1 k2
            rw [e5, e4]
            by_cases q : k = i
            · subst q
              refine ⟨by simp [q_st, h4], by simp [q_st, h5], by simp [q_st, hsk], by simp [q_st, hsk], by simp [q_st, hsk]⟩
            · have := hsk.1 (by omega)
              refine ⟨by simp [q_st, q, this], by simp [q_st, q, this], by simp [q_st, hsk], by simp [q_st, hsk], by simp [q_st, hsk]⟩
          refine ⟨?_, fun z => ?_, fun z => ?_⟩
          · by_cases q0 : i = 0
            · rw [e, q0, hw.2.1]; unfold inR; omega
            · have := hw.2.2.1 i (by omega) (by omega)
              rw [e]; unfold inR; omega
          · refine ih (i + 1) S5 (by omega) (by omega) (by omega) hk5 (fun k k1 k2 => ?_)
            have h5k := hs5 k k1 (by omega)
            refine ⟨h5k.1, h5k.2.1, ?_, h5k.2.2.2⟩
            rw [h5k.2.2.1, cnt_s pa k a1, if_neg (by omega)]
            omega
          · have hx : x < i := by
              by_cases q0 : i = 0
              · rw [e, q0, hw.2.1] at z; omega
              · have := hw.2.2.1 i (by omega) (by omega)
                omega
            refine ⟨by omega, by omega, ?_⟩
            rw [(hs5 x (by omega) (by omega)).2.2.1]
            intro S6 e6
            refine ih (i + 1) S6 (by omega) (by omega) (by omega) (by rw [e6]; exact hk5.st ⟨rfl, by simp⟩) (fun k k1 k2 => ?_)
            have h5k := hs5 k k1 (by omega)
            rw [e6]
            refine ⟨by simp [q_st, h5k], by simp [q_st, h5k], ?_, by simp [q_st, h5k], by simp [q_st, h5k]⟩
            rw [cnt_s pa k a1]
            by_cases q : k = x
            · rw [q, if_pos e.symm]; simp [q_st]
            · rw [if_neg (by omega)]; simp [q_st, q, h5k]
        have h57 : ∀ (d4 : Int), d4 = plT pa i → w_Tr_complete_57 Λ (fun v0' v1' S' => w_Tr_complete_2 Λ Q f v0' v1' S') Q a i x a i d4 S3 := by
          intro d4 h4
          unfold w_Tr_complete_57
          refine ⟨by omega, ?_⟩
          intro S4 e4
          by_cases q0 : i = 0
          · have hx : x = -1 := by rw [e, q0, hw.2.1]
            refine ⟨by unfold inR; omega, fun z => absurd z (by omega), fun _ => ?_⟩
            exact rest d4 0 h4 (by rw [q0, dp_0 hw]) S4 e4
          · have hp := hw.2.2.1 i (by omega) (by omega)
            refine ⟨by unfold inR; omega, fun _ => ⟨by omega, ?_⟩, fun z => absurd (by omega) z⟩
            have b5 : S4.1 a 5 x = dp pa x := by
              rw [e4]
              simp [q_st, ((hs3 x (by omega) (by omega)).1 (by omega)).2]
            rw [b5]
            exact rest d4 _ h4 (by rw [dp_s hw (k := i) (by omega) (by omega), e]) S4 e4
        by_cases q0 : i = 0
        · have hx : x = -1 := by rw [e, q0, hw.2.1]
          refine ⟨by unfold inR; omega, fun z => absurd z (by omega), fun _ => ?_⟩
          exact h57 0 (by unfold plT; rw [q0, hw.2.1]; rfl)
        · have hp := hw.2.2.1 i (by omega) (by omega)
          refine ⟨by unfold inR; omega, fun _ => ⟨by omega, ?_⟩, fun z => absurd (by omega) z⟩
          refine h57 _ ?_
          rw [(hs3 x (by omega) (by omega)).2.1]
          unfold plT
          rw [if_neg (by omega), e]
  exact key _ 0 S0 (by omega) (by omega) (by omega) Kp.rf (fun k a b => by omega)
