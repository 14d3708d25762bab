/-! small questions -/
theorem cnt_mono {pa : Int → Int} {p : Int} : ∀ (d : Nat) (k : Int), 0 ≤ k → cnt pa p k ≤ cnt pa p (k + d)
  | 0, k, _ => by rw [show k + ((0 : Nat) : Int) = k by omega]; exact Int.le_refl _
  | d + 1, k, h => by
    have ih := cnt_mono (pa := pa) (p := p) d k h
    rw [show k + ((d + 1 : Nat) : Int) = k + d + 1 by omega, cnt_s _ _ (by omega)]
    split <;> omega
theorem pl_uniq {t : TT} {x k k' : Int} (x0 : 0 ≤ x) (k0 : 0 ≤ k) (k0' : 0 ≤ k') (h : tp t k = x) (h' : tp t k' = x) (e : plT (tp t) k = plT (tp t) k') : k = k' := by
  have lt : ∀ a b, 0 ≤ a → a < b → tp t a = x → cnt (tp t) x a < cnt (tp t) x b := fun a b a0 ab ha => by
    have s := cnt_s (tp t) x a0
    rw [if_pos ha] at s
    have m := cnt_mono (pa := tp t) (p := x) (b - (a + 1)).toNat (a + 1) (by omega)
    rw [show a + 1 + (((b - (a + 1)).toNat : Nat) : Int) = b by omega] at m
    omega
  unfold plT at e
  rw [h, h', if_neg (by omega), if_neg (by omega)] at e
  rcases Int.lt_trichotomy k k' with z | z | z
  · have := lt k k' k0 z h; omega
  · exact z
  · have := lt k' k k0' z h'; omega
theorem s_Tr_childAt {Λ : QLay} {a : Nat} {x p : Int} {S : QMem} {Q : Int → QMem → Prop} {t : TT} (hT : cT S a t) (hw : wfT t) (x0 : 0 ≤ x) (x1 : x < tn t) (hp : inR p) (h1 : ∀ k, 0 ≤ k → k < tn t → tp t k = x → plT (tp t) k = p → Q k S) (h0 : (∀ k, 0 ≤ k → k < tn t → tp t k = x → plT (tp t) k ≠ p) → Q (-15) S) : w_Tr_childAt Λ a x p S Q := by
  have n := tn_rng hw
  have ex := te_rng x1
  unfold w_Tr_childAt
  refine s_Tr_endOf hT hw.1 ⟨by omega, x1⟩ ?_
  rw [if_neg (by omega)]
  have ex' : en (tn t) (tp t) x = te t x := rfl
  rw [ex']
  intro y hy
  rw [hy]
  have key : ∀ (f : Nat) (k : Int), x < k → k + f = te t x → (∀ j, 0 ≤ j → j < k → tp t j = x → plT (tp t) j ≠ p) → w_Tr_childAt_11 Λ Q (f + 1) a x p (te t x) k S := by
    intro f
    induction f with
    | zero =>
      intro k k0 hk hn
      rw [w_Tr_childAt_11]
      refine ⟨by unfold inR; omega, by unfold inR; omega, fun _ => h0 (fun j j0 j1 e => ?_), fun z => by omega⟩
      by_cases q : j < k
      · exact hn j j0 q e
      · exfalso
        have := (en_le hw.1 (k := j) (by omega) j1).1
        rw [e] at this
        have this : j < te t x := this
        omega
    | succ f ih =>
      intro k k0 hk hn
      have o := hT.2.1 k (by omega) (by omega)
      have pr := tp_rng hw (k := k) (by omega) (by omega)
      have pl := pl_rng hw (x := k) (by omega) (by omega)
      rw [w_Tr_childAt_11, o.2.2.1, o.2.2.2.1]
      refine ⟨by unfold inR; omega, by unfold inR; omega, fun z => by omega, fun _ => ⟨by omega, by unfold inR; omega, by unfold inR; omega, fun z => ih (k + 1) (by omega) (by omega) (fun j j0 j1 e => ?_), fun z => ⟨by omega, by unfold inR; omega, hp, fun z2 => ih (k + 1) (by omega) (by omega) (fun j j0 j1 e => ?_), fun z2 => h1 k (by omega) (by omega) z z2⟩⟩⟩
      · by_cases q : j = k
        · rw [q] at e; exact absurd e z
        · exact hn j j0 (by omega) e
      · by_cases q : j = k
        · rw [q]; exact z2
        · exact hn j j0 (by omega) e
  exact ⟨_, key (te t x - (x + 1)).toNat (x + 1) (by omega) (by omega) (fun j j0 j1 e => by have := tp_rng hw j0 (by omega : j < tn t); omega)⟩
theorem s_Mo_childAt {Λ : QLay} {m : Nat} {i x p : Int} {S : QMem} {Q : Int → QMem → Prop} {t : TT} (hT : mT S m i t) (hw : wfT t) (hi : i = 0 ∨ i = 1) (x0 : 0 ≤ x) (x1 : x < tn t) (hp : inR p) (h1 : ∀ k, 0 ≤ k → k < tn t → tp t k = x → plT (tp t) k = p → Q k S) (h0 : (∀ k, 0 ≤ k → k < tn t → tp t k = x → plT (tp t) k ≠ p) → Q (-15) S) : w_Mo_childAt Λ m i x p S Q := by
  have n := tn_rng hw
  unfold w_Mo_childAt
  intro y hy
  rw [hy]
  by_cases q0 : p < 0
  · have none : Q (-15) S := h0 (fun k k0 k1 _ => by have := pl_rng hw k0 k1; omega)
    refine ⟨1, ?_⟩
    rw [w_Mo_childAt_8, hT.1.1]
    exact ⟨by omega, by unfold inR; omega, by unfold inR; omega, fun _ => none, fun _ => ⟨hp, fun _ => none, fun z => absurd q0 z⟩⟩
  · have key : ∀ (f : Nat) (k l : Int), x < k → k + f = tn t → l = p - cnt (tp t) x k → 0 ≤ l → (∀ j, 0 ≤ j → j < k → tp t j = x → plT (tp t) j ≠ p) → w_Mo_childAt_8 Λ Q (f + 1) m i x l k S := by
      intro f
      induction f with
      | zero =>
        intro k l k0 hk hl hl0 hn
        rw [w_Mo_childAt_8, hT.1.1]
        exact ⟨by omega, by unfold inR; omega, by unfold inR; omega, fun _ => h0 (fun j j0 j1 => hn j j0 (by omega)), fun z => by omega⟩
      | succ f ih =>
        intro k l k0 hk hl hl0 hn
        have pr := tp_rng hw (k := k) (by omega) (by omega)
        have s := cnt_s (tp t) x (k := k) (by omega)
        have cr := cnt_rng (tp t) x (k := k) (by omega)
        have hpi : inR l := by unfold inR at hp ⊢; omega
        rw [w_Mo_childAt_8, hT.1.1]
        refine ⟨by omega, by unfold inR; omega, by unfold inR; omega, fun z => by omega, fun _ => ⟨hpi, fun z => by omega, fun _ => ?_⟩⟩
        dsimp only [w_Mo_at]
        rw [(hT.1.2 k (by omega) (by omega)).2.2]
        have epl : tp t k = x → plT (tp t) k = cnt (tp t) x k := fun e => by unfold plT; rw [e, if_neg (by omega)]
        refine ⟨by omega, by unfold inR; omega, by unfold inR; omega, fun z => ?_, fun z => ⟨hpi, fun z2 => ?_, fun z2 => h1 k (by omega) (by omega) z (by rw [epl z]; omega)⟩⟩
        · rw [if_neg z] at s
          refine ih (k + 1) l (by omega) (by omega) (by omega) hl0 (fun j j0 j1 e => ?_)
          by_cases q : j = k
          · rw [q] at e; exact absurd e z
          · exact hn j j0 (by omega) e
        · rw [if_pos z] at s
          refine ih (k + 1) (l + (-1)) (by omega) (by omega) (by omega) (by omega) (fun j j0 j1 e => ?_)
          by_cases q : j = k
          · rw [q, epl z]; omega
          · exact hn j j0 (by omega) e
    exact ⟨_, key (tn t - (x + 1)).toNat (x + 1) p (by omega) (by omega) (by rw [cnt_z hw.1 x0 (by omega) (by omega) (by omega)]; omega) (by omega) (fun j j0 j1 e => by have := tp_rng hw j0 (by omega : j < tn t); omega)⟩
theorem s_Mo_children {Λ : QLay} {m : Nat} {i x : Int} {S : QMem} {Q : Int → QMem → Prop} {t : TT} (hT : mT S m i t) (hw : wfT t) (hi : i = 0 ∨ i = 1) (x0 : 0 ≤ x) (x1 : x < tn t) (hq : Q (cnt (tp t) x (tn t)) S) : w_Mo_children Λ m i x S Q := by
  have n := tn_rng hw
  unfold w_Mo_children
  intro y hy
  rw [hy]
  have key : ∀ (f : Nat) (k : Int), x < k → k + f = tn t → w_Mo_children_7 Λ Q (f + 1) m i x (cnt (tp t) x k) k S := by
    intro f
    induction f with
    | zero =>
      intro k k0 hk
      rw [w_Mo_children_7, hT.1.1]
      refine ⟨by omega, by unfold inR; omega, by unfold inR; omega, fun _ => ?_, fun z => by omega⟩
      rw [show k = tn t by omega]
      exact hq
    | succ f ih =>
      intro k k0 hk
      have pr := tp_rng hw (k := k) (by omega) (by omega)
      have s := cnt_s (tp t) x (k := k) (by omega)
      have ihk := ih (k + 1) (by omega) (by omega)
      rw [s] at ihk
      rw [w_Mo_children_7, hT.1.1]
      refine ⟨by omega, by unfold inR; omega, by unfold inR; omega, fun z => by omega, fun _ => ?_⟩
      dsimp only [w_Mo_at]
      rw [(hT.1.2 k (by omega) (by omega)).2.2]
      refine ⟨by omega, by unfold inR; omega, by unfold inR; omega, fun z v hv => ?_, fun z v hv => ?_⟩
      · rw [if_neg z] at ihk; rw [hv]; exact ihk
      · rw [if_pos z] at ihk; rw [hv]; exact ihk
  have := key (tn t - (x + 1)).toNat (x + 1) (by omega) (by omega)
  rw [cnt_z hw.1 x0 (by omega) (by omega) (by omega)] at this
  exact ⟨_, this⟩
theorem s_TD_numberOf {Λ : QLay} {x : Int} {S : QMem} {Q : Int → QMem → Prop} (x0 : 0 ≤ x) (x1 : x ≤ 48) (hq : Q (num x) S) : w_TD_numberOf Λ x S Q := by
  have hc := num_c (x := x)
  unfold w_TD_numberOf
  refine ⟨by unfold inR; omega, fun z => ⟨by unfold inR; omega, fun w => ?_, fun w => ?_⟩, fun z => ?_⟩
  · rw [show 100 + x - 24 = num x by omega]; exact hq
  · rw [show num x = x by omega] at hq; exact hq
  · rw [show num x = -1 by omega] at hq; exact hq
theorem okS_rng {W : WW} {s : ST} (hw : wfW W) (ho : okS W s) : (0 ≤ sk s ∧ sk s ≤ 3) ∧ (0 ≤ sr s ∧ sr s < 48) ∧ (sk s = 1 ∨ sk s = 2 → (0 ≤ su s ∧ su s ≤ 48) ∧ 0 ≤ sp s ∧ sp s ≤ 48) ∧ (sk s = 1 → 0 ≤ sl s ∧ sl s ≤ 7) ∧ (sk s = 0 ∨ sk s = 1 → 0 ≤ sv s ∧ sv s ≤ 99) := by
  obtain ⟨hr, z | z | z | z⟩ := ho
  · exact ⟨by omega, hr, fun w => by omega, fun w => by omega, fun _ => z.2.2.2⟩
  · have := okA_rng hw z.2.2.1.1 z.2.2.2.1
    exact ⟨by omega, hr, fun _ => ⟨z.2.2.1, this⟩, fun _ => z.2.2.2.2.1, fun _ => z.2.2.2.2.2.1⟩
  · have := okA_rng (wfW_out hw hr.1 hr.2 z.2.1) z.2.2.1.1 z.2.2.2.1
    exact ⟨by omega, hr, fun _ => ⟨z.2.2.1, this⟩, fun w => by omega, fun w => by omega⟩
  · exact ⟨by omega, hr, fun w => by omega, fun w => by omega, fun w => by omega⟩
theorem tl6_rng {W : WW} {s : ST} (hw : wfW W) (ho : okS W s) (j : Int) : -15 ≤ tl6 s j ∧ tl6 s j ≤ 200 := by
  obtain ⟨a, b, c, d, e⟩ := okS_rng hw ho
  have n1 := num_rng b.1 (by omega : sr s ≤ 48)
  unfold tl6
  split
  · omega
  · split
    · omega
    · split
      · split
        · rename_i h; have := num_rng (c h).1.1 (c h).1.2; omega
        · omega
      · split
        · split
          · rename_i h; have := (c h).2; omega
          · omega
        · split
          · split
            · rename_i h; have := d h; omega
            · omega
          · split
            · rename_i h; have := e h; omega
            · omega
theorem s_Sp_tell {Λ : QLay} {o : Nat} {j : Int} {S : QMem} {Q : Int → QMem → Prop} {W : WW} {s : ST} (hS : CS S o s) (hw : wfW W) (ho : okS W s) (hj : inR j) (h1 : 0 ≤ j → j ≤ 5 → Q (tl6 s j) S) (h0 : ¬ (0 ≤ j ∧ j ≤ 5) → Q (-12) S) : w_Sp_tell Λ o j S Q := by
  obtain ⟨a, b, c, d, e⟩ := okS_rng hw ho
  obtain ⟨⟨s0, s1⟩, s2, s4, s5, s6, s8⟩ := hS
  have main : ∀ v, (v = 1 ∧ (sk s = 1 ∨ sk s = 2)) ∨ (v = 0 ∧ ¬ (sk s = 1 ∨ sk s = 2)) → w_Sp_tell_21 Λ Q o j v S := fun v hv => by
    unfold w_Sp_tell_21
    rw [s0, s1]
    refine ⟨hj, fun z => ?_, fun z => ?_, fun z => ⟨by unfold inR; omega, fun w => ?_, fun w => ?_⟩, fun z => ⟨by unfold inR; omega, fun w => ?_, fun w => ?_⟩, fun z => ⟨by unfold inR; omega, fun w => ?_, fun w => ?_⟩, fun z => ⟨by unfold inR; omega, fun w => ?_, fun w => ⟨by unfold inR; omega, fun w2 => ?_, fun w2 => ?_⟩⟩, fun z => h0 (by omega)⟩
    · have := h1 (by omega) (by omega); rw [z] at this; exact this
    · have := h1 (by omega) (by omega); rw [z] at this; exact s_TD_numberOf b.1 (by omega) this
    · have := h1 (by omega) (by omega)
      rw [z] at this
      have e2 : tl6 s 2 = if sk s = 1 ∨ sk s = 2 then num (su s) else -15 := rfl
      rw [e2, if_neg (by omega)] at this
      exact this
    · have hk : sk s = 1 ∨ sk s = 2 := by omega
      have := h1 (by omega) (by omega)
      rw [z] at this
      have e2 : tl6 s 2 = if sk s = 1 ∨ sk s = 2 then num (su s) else -15 := rfl
      rw [e2, if_pos hk] at this
      rw [(s2 hk).1]
      exact s_TD_numberOf (c hk).1.1 (c hk).1.2 this
    · have := h1 (by omega) (by omega)
      rw [z] at this
      have e2 : tl6 s 3 = if sk s = 1 ∨ sk s = 2 then sp s else -15 := rfl
      rw [e2, if_neg (by omega)] at this
      exact this
    · have hk : sk s = 1 ∨ sk s = 2 := by omega
      have := h1 (by omega) (by omega)
      rw [z] at this
      have e2 : tl6 s 3 = if sk s = 1 ∨ sk s = 2 then sp s else -15 := rfl
      rw [e2, if_pos hk] at this
      rw [(s2 hk).2]
      exact this
    · have := h1 (by omega) (by omega)
      rw [z] at this
      have e2 : tl6 s 4 = if sk s = 1 then sl s else -15 := rfl
      rw [e2, if_neg w] at this
      exact this
    · have := h1 (by omega) (by omega)
      rw [z] at this
      have e2 : tl6 s 4 = if sk s = 1 then sl s else -15 := rfl
      rw [e2, if_pos w] at this
      rw [s4 w]
      exact this
    · have := h1 (by omega) (by omega)
      rw [z] at this
      have e2 : tl6 s 5 = if sk s = 0 ∨ sk s = 1 then sv s else -15 := rfl
      rw [e2, if_pos (Or.inr w)] at this
      rw [s5 (Or.inr w)]
      exact this
    · have := h1 (by omega) (by omega)
      rw [z] at this
      have e2 : tl6 s 5 = if sk s = 0 ∨ sk s = 1 then sv s else -15 := rfl
      rw [e2, if_neg (by omega)] at this
      exact this
    · have := h1 (by omega) (by omega)
      rw [z] at this
      have e2 : tl6 s 5 = if sk s = 0 ∨ sk s = 1 then sv s else -15 := rfl
      rw [e2, if_pos (Or.inl w2)] at this
      rw [s5 (Or.inl w2)]
      exact this
  unfold w_Sp_tell w_Sp_tell_16
  rw [s0]
  exact ⟨by unfold inR; omega, fun z => main 1 (Or.inl ⟨rfl, Or.inl z⟩), fun z => ⟨by unfold inR; omega, fun z2 => main 0 (Or.inr ⟨rfl, by omega⟩), fun z2 => main 1 (Or.inl ⟨rfl, Or.inr z2⟩)⟩⟩
