/-! the reference's postorder, by a stack -/
def PP (m o f : Nat) : Prop := o = m ∧ (f = 14 ∨ f = 15 ∨ f = 24)
def FPo (m : Nat) (n : Int) (pa : Int → Int) (k d : Int) (S : QMem) : Prop :=
  S.1 m 15 0 = d ∧ (0 ≤ d ∧ d ≤ k) ∧ (∀ j, 0 ≤ j → j < d → 0 ≤ S.1 m 14 j ∧ S.1 m 14 j < k ∧ dp pa (S.1 m 14 j) = j ∧ (1 ≤ j → pa (S.1 m 14 j) = S.1 m 14 (j - 1))) ∧
  ∀ j, 0 ≤ j → j < k → (dp pa j < d ∧ S.1 m 14 (dp pa j) = j) ∨ S.1 m 24 (pix n pa j) = j
/-- the last of the stack goes to its place -/
theorem FPo_pop {m : Nat} {n : Int} {pa : Int → Int} (hw : wfN n pa) {k d : Int} {S S1 S2 : QMem} (hk : k ≤ n) (h : FPo m n pa k d S) (hd : 0 < d) (he : en n pa (S.1 m 14 (d - 1)) = k) (e1 : S1 = q_st S m 15 0 (d - 1)) (e2 : S2 = q_st S1 m 24 (k - d) (S.1 m 14 (d - 1))) : FPo m n pa k (d - 1) S2 := by
  obtain ⟨h1, h2, h3, h4⟩ := h
  have ht := h3 (d - 1) (by omega) (by omega)
  have hp : pix n pa (S.1 m 14 (d - 1)) = k - d := by unfold pix; omega
  have o14 : ∀ j, S2.1 m 14 j = S.1 m 14 j := fun j => by rw [e2, e1]; simp [q_st]
  refine ⟨by rw [e2, e1]; simp [q_st], by omega, fun j j1 j2 => ?_, fun j j1 j2 => ?_⟩
  · rw [o14, o14]
    exact h3 j j1 (by omega)
  · rw [o14]
    have o24 : ∀ q, q ≠ k - d → S2.1 m 24 q = S.1 m 24 q := fun q hq => by rw [e2, e1]; simp [q_st, hq]
    by_cases hj : j = S.1 m 14 (d - 1)
    · right
      rw [hj, hp, e2]
      simp [q_st]
    · rcases h4 j j1 j2 with z | z
      · left
        refine ⟨?_, z.2⟩
        by_cases q : dp pa j = d - 1
        · rw [q] at z
          exact absurd z.2.symm hj
        · omega
      · right
        rw [o24 _ (fun q => hj (pix_inj hw j1 (by omega) ht.1 (by omega) (by omega)))]
        exact z
theorem s_Mo_findPost {Λ : QLay} {m : Nat} {t n : Int} {S0 : QMem} {Q : QMem → Prop} {pa : Int → Int} (ht : t = 0 ∨ t = 1) (hw : wfN n pa) (h0 : S0.1 m 0 t = n) (h3 : ∀ k, 0 ≤ k → k < n → S0.1 m 3 (24 * t + k) = pa k)
    (hq : ∀ S', Kp (PP m) S0 S' → (∀ k, 0 ≤ k → k < n → S'.1 m 24 (pix n pa k) = k) → Q S') : w_Mo_findPost Λ m t S0 Q := by
  have hn := hw.1
  unfold w_Mo_findPost
  intro S1 e1
  have hk1 : Kp (PP m) S0 S1 := by rw [e1]; exact Kp.rf.st ⟨rfl, by simp⟩
  -- the end: the stack is emptied
  have fin : ∀ (g : Nat) (d : Int) (S : QMem), d < g → Kp (PP m) S0 S → FPo m n pa n d S → (0 < d → en n pa (S.1 m 14 (d - 1)) = n) → w_Mo_findPost_107 Λ Q g m (n - d) S := by
    intro g
    induction g with
    | zero => intro d S a1 _ h; have := h.2.1; omega
    | succ g ih =>
      intro d S a1 hk h he
      have hh := h
      obtain ⟨b1, b2, b3, b4⟩ := h
      rw [w_Mo_findPost_107, b1]
      refine ⟨by unfold inR; omega, fun z => hq S hk (fun k k1 k2 => ?_), fun z => ?_⟩
      · rcases b4 k k1 k2 with q | q
        · have := dp_rng hw k1 k2
          omega
        · exact q
      · intro S2 e2
        have c15 : S2.1 m 15 0 = d - 1 := by rw [e2]; simp [q_st]
        have c14 : S2.1 m 14 (d - 1) = S.1 m 14 (d - 1) := by rw [e2]; simp [q_st]
        rw [c15, c14]
        refine ⟨by omega, by omega, ?_⟩
        intro S3 e3
        rw [show n - d + 1 = n - (d - 1) by omega]
        have hp := FPo_pop hw (Int.le_refl n) hh (by omega) (he (by omega)) e2 e3
        refine ih (d - 1) S3 (by omega) (by rw [e3, e2]; exact (hk.st ⟨rfl, by simp⟩).st ⟨rfl, by simp⟩) hp (fun hd => ?_)
        have o14 : ∀ j, S3.1 m 14 j = S.1 m 14 j := fun j => by rw [e3, e2]; simp [q_st]
        rw [o14]
        have ht := b3 (d - 1) (by omega) (by omega)
        have hpa := ht.2.2.2 (by omega)
        have h1 : 1 ≤ S.1 m 14 (d - 1) := by
          by_cases q : S.1 m 14 (d - 1) = 0
          · have := ht.2.2.1
            rw [q, dp_0 hw] at this
            omega
          · omega
        have := en_le hw h1 (by omega)
        rw [hpa, he (by omega)] at this
        have := (en_ok (n := n) (pa := pa) (k := S.1 m 14 (d - 1 - 1)) (by have := b3 (d - 1 - 1) (by omega) (by omega); omega)).2.1
        omega
  refine ⟨n.toNat + 1, ?_⟩
  have key : ∀ (g : Nat) (k d : Int) (S : QMem), 0 ≤ k → k ≤ n → n - k < g → Kp (PP m) S0 S → FPo m n pa k d S → (0 < k → 0 < d ∧ S.1 m 14 (d - 1) = k - 1) → w_Mo_findPost_9 Λ Q g m t (k - d) k S := by
    intro g
    induction g with
    | zero => intro k d S a1 a2 a3; omega
    | succ g ih =>
      intro k d S a1 a2 a3 hk hf htop
      have e0 : S.1 m 0 t = n := by rw [hk.at (by simp [PP])]; exact h0
      rw [w_Mo_findPost_9, e0]
      refine ⟨by omega, by unfold inR; omega, by unfold inR; omega, fun z => ?_, fun z => ?_⟩
      · have hkn : k = n := by omega
        refine ⟨d.toNat + 1, ?_⟩
        rw [hkn] at hf htop ⊢
        refine fin _ d S (by omega) hk hf (fun hd => ?_)
        rw [(htop (by omega)).2]
        have := en_ok (n := n) (pa := pa) (k := n - 1) (by omega)
        have h1 := this.1
        have h2 := this.2.1
        omega
      · -- the nodes that end before k leave the stack
        have inner : ∀ (q : Nat) (d : Int) (S : QMem), d < q → Kp (PP m) S0 S → FPo m n pa k d S → (0 < k → 0 < d ∧ pa k ≤ S.1 m 14 (d - 1) ∧ k ≤ en n pa (S.1 m 14 (d - 1))) → w_Mo_findPost_19 Λ (fun v0' v1' v2' v3' S' => w_Mo_findPost_9 Λ Q g v0' v1' v2' v3' S') Q q m t (k - d) k S := by
          intro q
          induction q with
          | zero => intro d S b1 _ h; have := h.2.1; omega
          | succ q ihq =>
            intro d S b1 hk hf htop
            have hff := hf
            obtain ⟨f1, f2, f3, f4⟩ := hf
            -- k comes on the stack
            have push : (d = 0 → k = 0) → (0 < d → S.1 m 14 (d - 1) = pa k ∧ 0 < k) → w_Mo_findPost_81 Λ (fun v0' v1' v2' v3' S' => w_Mo_findPost_9 Λ Q g v0' v1' v2' v3' S') Q m t (k - d) k S := by
              intro hz hnz
              unfold w_Mo_findPost_81
              rw [f1]
              refine ⟨by omega, ?_⟩
              intro S2 e2
              have c15 : S2.1 m 15 0 = d := by rw [e2]; simp [q_st, f1]
              rw [c15]
              intro S3 e3
              have hdk : dp pa k = d := by
                by_cases q0 : d = 0
                · rw [hz q0, dp_0 hw, q0]
                · have h1 := hnz (by omega)
                  rw [dp_s hw (k := k) (by omega) (by omega), ← h1.1, (f3 (d - 1) (by omega) (by omega)).2.2.1]
                  omega
              rw [show k - d = (k + 1) - (d + 1) by omega]
              refine ih (k + 1) (d + 1) S3 (by omega) (by omega) (by omega) (by rw [e3, e2]; exact (hk.st ⟨rfl, by simp⟩).st ⟨rfl, by simp⟩) ?_ (fun _ => ⟨by omega, ?_⟩)
              · have o14 : ∀ j, j ≠ d → S3.1 m 14 j = S.1 m 14 j := fun j hj => by rw [e3, e2]; simp [q_st, hj]
                have o14d : S3.1 m 14 d = k := by rw [e3, e2]; simp [q_st]
                have o24 : ∀ j, S3.1 m 24 j = S.1 m 24 j := fun j => by rw [e3, e2]; simp [q_st]
                refine ⟨by rw [e3]; simp [q_st], by omega, fun j j1 j2 => ?_, fun j j1 j2 => ?_⟩
                · by_cases hj : j = d
                  · rw [hj, o14d]
                    refine ⟨a1, by omega, hdk, fun h1 => ?_⟩
                    rw [o14 _ (by omega)]
                    exact (hnz (by omega)).1.symm
                  · rw [o14 j hj, o14 (j - 1) (by omega)]
                    have h3j := f3 j j1 (by omega)
                    exact ⟨h3j.1, by omega, h3j.2.2⟩
                · by_cases hj : j = k
                  · left
                    rw [hj, hdk]
                    exact ⟨by omega, o14d⟩
                  · rcases f4 j j1 (by omega) with z | z
                    · left
                      rw [o14 _ (by omega)]
                      exact ⟨by omega, z.2⟩
                    · right
                      rw [o24]
                      exact z
              · rw [e3, e2]
                rw [show d + 1 - 1 = d by omega, show k + 1 - 1 = k by omega]
                simp [q_st]
            rw [w_Mo_findPost_19, f1]
            refine ⟨by unfold inR; omega, fun z => push (fun _ => ?_) (fun q => by omega), fun z => ⟨by omega, ?_⟩⟩
            · by_cases q0 : k = 0
              · exact q0
              · have := (htop (by omega)).1
                omega
            · dsimp only [w_Mo_at]
              have hk0 : 0 < k := by omega
              have e3 : S.1 m 3 (24 * t + k) = pa k := by rw [hk.at (by simp [PP])]; exact h3 k a1 (by omega)
              rw [e3]
              have hp := hw.2.2.1 k (by omega) (by omega)
              have hto := f3 (d - 1) (by omega) (by omega)
              have hh := htop hk0
              refine ⟨by omega, by unfold inR; omega, by unfold inR; omega, fun q => push (fun _ => by omega) (fun _ => ⟨q, hk0⟩), fun q => ?_⟩
              rw [f1]
              intro S2 e2
              have c15 : S2.1 m 15 0 = d - 1 := by rw [e2]; simp [q_st]
              have c14 : S2.1 m 14 (d - 1) = S.1 m 14 (d - 1) := by rw [e2]; simp [q_st]
              rw [c15, c14]
              refine ⟨by omega, by omega, ?_⟩
              intro S3 e3'
              rw [show k - d + 1 = k - (d - 1) by omega]
              have hen : en n pa (S.1 m 14 (d - 1)) = k := by
                obtain ⟨g1, g2, g3, g4⟩ := en_ok (n := n) (pa := pa) (k := S.1 m 14 (d - 1)) (by omega)
                by_cases z2 : k < en n pa (S.1 m 14 (d - 1))
                · have := g3 k (by omega) z2
                  omega
                · omega
              refine ihq (d - 1) S3 (by omega) (by rw [e3', e2]; exact (hk.st ⟨rfl, by simp⟩).st ⟨rfl, by simp⟩) (FPo_pop hw (by omega) hff (by omega) hen e2 e3') (fun _ => ?_)
              have o14 : ∀ j, S3.1 m 14 j = S.1 m 14 j := fun j => by rw [e3', e2]; simp [q_st]
              rw [o14]
              have h1 : 1 ≤ S.1 m 14 (d - 1) := by omega
              have hd2 : 1 ≤ d - 1 := by
                by_cases q0 : d - 1 = 0
                · have h9 := hto.2.2.1
                  rw [dp_s hw h1 (by omega)] at h9
                  have := dp_rng hw (k := pa (S.1 m 14 (d - 1))) (by have := hw.2.2.1 _ h1 (by omega); omega) (by have := hw.2.2.1 _ h1 (by omega); omega)
                  omega
                · omega
              have hpa := hto.2.2.2 hd2
              rw [← hpa]
              refine ⟨by omega, hw.2.2.2 _ k hk0 (by omega) (by omega) (by omega), ?_⟩
              have := en_le hw h1 (by omega)
              omega
        refine ⟨d.toNat + 1, ?_⟩
        refine inner _ d S (by have := hf.2.1; omega) hk hf (fun hk0 => ?_)
        have hh := htop hk0
        rw [hh.2]
        have hp := hw.2.2.1 k (by omega) (by omega)
        have := (en_ok (n := n) (pa := pa) (k := k - 1) (by omega)).1
        exact ⟨hh.1, by omega, by omega⟩
  have := key (n.toNat + 1) 0 0 S1 (by omega) (by omega) (by omega) hk1 ⟨by rw [e1]; simp [q_st], by omega, fun j a b => by omega, fun j a b => by omega⟩ (fun z => by omega)
  rw [show (0 : Int) - 0 = 0 by omega] at this
  exact this
