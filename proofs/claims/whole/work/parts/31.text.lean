/-! the reader: what both sides do with a letter -/
abbrev PS : Type := Int × Int × Int × Int × (Int → Int) × (Int → Int) × (Int → Int)
def pstep (p : PS) (c : Int) : Option PS :=
  match p with
  | (st, nd, op, cu, la, va, pa) =>
    if st = 0 then (if c < 97 ∨ 104 < c ∨ 24 ≤ nd then none else some (1, nd + 1, op, cu, up la nd (c - 97), up va nd 0, up pa nd cu))
    else if c = 40 then (if st = 4 then none else some (0, nd, op + 1, nd - 1, la, va, pa))
    else if c = 32 then (if op = 0 then none else some (0, nd, op, cu, la, va, pa))
    else if c = 41 then (if op = 0 then none else some (4, nd, op - 1, pa cu, la, va, pa))
    else if c < 48 ∨ 57 < c ∨ ¬ (st = 1 ∨ st = 2) then none
    else some (if st = 1 ∧ ¬ c = 48 then 2 else 3, nd, op, cu, la, up va (nd - 1) (10 * va (nd - 1) + c - 48), pa)
/-- the open nodes, from the innermost out -/
def pch (nd : Int) (pa : Int → Int) : Nat → Int → Prop
  | 0, c => c = -1
  | k + 1, c => 0 ≤ c ∧ c < nd ∧ pch nd pa k (pa c)
def wfP (p : PS) : Prop :=
  match p with
  | (st, nd, op, cu, la, va, pa) =>
    (0 ≤ st ∧ st ≤ 4) ∧ (0 ≤ nd ∧ nd ≤ 24) ∧ 0 ≤ op ∧ pch nd pa op.toNat cu ∧ (st ≠ 0 → 1 ≤ nd) ∧ (st = 0 → op = 0 → nd = 0) ∧ (nd = 0 → op = 0) ∧
    (∀ k, 0 ≤ k → k < nd → (0 ≤ la k ∧ la k ≤ 7) ∧ (0 ≤ va k ∧ va k ≤ 99) ∧ (pa k < k) ∧ (k = 0 → pa k = -1) ∧ (1 ≤ k → 0 ≤ pa k)) ∧
    (st = 1 → va (nd - 1) = 0) ∧ (st = 2 → va (nd - 1) ≤ 9) ∧
    (∀ j k, 0 < k → k < nd → pa k < j → j < k → pa k ≤ pa j) ∧ (∀ j, cu < j → j < nd → 0 ≤ j → cu ≤ pa j) ∧ (st = 1 ∨ st = 2 ∨ st = 3 → pa (nd - 1) = cu)
/-- the class's state is p -/
def RT (Λ : QLay) (tx : Nat) (S : QMem) (p : PS) : Prop :=
  match p with
  | (st, nd, op, cu, la, va, pa) =>
    S.1 tx 4 0 = st ∧ S.1 (yR Λ tx 2 0) 0 0 = nd ∧ S.1 tx 3 0 = op ∧ S.1 tx 5 0 = cu ∧
    ∀ k, 0 ≤ k → k < nd → S.1 (yR Λ tx 2 0) 1 k = la k ∧ S.1 (yR Λ tx 2 0) 2 k = va k ∧ S.1 (yR Λ tx 2 0) 3 k = pa k
def PT (Λ : QLay) (tx o f : Nat) : Prop := (o = tx ∧ (f = 3 ∨ f = 4 ∨ f = 5)) ∨ (o = yR Λ tx 2 0 ∧ (f = 0 ∨ f = 1 ∨ f = 2 ∨ f = 3))
theorem pch_cu {nd : Int} {pa : Int → Int} {k : Nat} {c : Int} (h : pch nd pa k c) (hk : k ≠ 0) : 0 ≤ c ∧ c < nd := by
  cases k with
  | zero => exact absurd rfl hk
  | succ k => exact ⟨h.1, h.2.1⟩
theorem pch_le {nd : Int} {pa : Int → Int} (hp : ∀ j, 0 ≤ j → j < nd → pa j < j) : ∀ (k : Nat) (c : Int), pch nd pa k c → (k : Int) ≤ c + 1
  | 0, c, h => by
    have h2 : c = -1 := h
    omega
  | k + 1, c, h => by
    have h2 := pch_le hp k (pa c) h.2.2
    have h3 := hp c h.1 h.2.1
    omega
theorem s_Tr_add {Λ : QLay} {t : Nat} {x y n : Int} {S : QMem} {Q : Int → QMem → Prop} (hn : S.1 t 0 0 = n) (h0 : 0 ≤ n ∧ n ≤ 24) (hq1 : n < 24 → Q 1 (q_st (q_st (q_st (q_st S t 1 n x) t 2 n 0) t 3 n y) t 0 0 (n + 1))) (hq0 : n = 24 → Q 0 S) : w_Tr_add Λ t x y S Q := by
  unfold w_Tr_add
  rw [hn]
  refine ⟨by unfold inR; omega, fun h => ⟨by omega, ?_⟩, fun h => hq0 (by omega)⟩
  intro S20 e20
  have n20 : S20.1 t 0 0 = n := by rw [e20]; simp [q_st, hn]
  rw [n20]
  refine ⟨by omega, ?_⟩
  intro S30 e30
  have n30 : S30.1 t 0 0 = n := by rw [e30]; simp [q_st, n20]
  rw [n30]
  refine ⟨by omega, ?_⟩
  intro S40 e40
  have n40 : S40.1 t 0 0 = n := by rw [e40]; simp [q_st, n30]
  rw [n40]
  intro S48 e48
  rw [e48, e40, e30, e20]
  exact hq1 h
theorem s_Tx_takes {Λ : QLay} {tx : Nat} {c : Int} {S : QMem} {Q : Int → QMem → Prop} {p : PS} (hne : tx ≠ yR Λ tx 2 0) (hw : wfP p) (hr : RT Λ tx S p) (hc : 0 ≤ c ∧ c ≤ 127)
    (h0 : pstep p c = none → Q 0 S) (h1 : ∀ p', pstep p c = some p' → ∀ S', Kp (PT Λ tx) S S' → RT Λ tx S' p' → Q 1 S') : w_Tx_takes Λ tx c S Q := by
  obtain ⟨st, nd, op, cu, la, va, pa⟩ := p
  obtain ⟨w1, w2, w3, w4, w5, w6, w6b, w7, w8, w9, w10, w11, w12⟩ := hw
  obtain ⟨r1, r2, r3, r4, r5⟩ := hr
  have cu0 : op ≠ 0 → 0 ≤ cu ∧ cu < nd := fun z => pch_cu w4 (by omega)
  have op24 : op ≤ 24 := by
    have h9 := pch_le (fun j a b => (w7 j a b).2.2.1) _ _ w4
    by_cases z : op = 0
    · omega
    · have := cu0 z
      omega
  have hRc : inR c := by unfold inR; omega
  have hne2 : yR Λ tx 2 0 ≠ tx := fun z => hne z.symm
  unfold w_Tx_takes
  rw [r1]
  refine ⟨by unfold inR; omega, fun hs => ⟨hRc, fun hc1 => ?_, fun hc1 => ?_, fun hc1 => ?_, fun hc1 => ?_⟩, fun hs => ?_⟩
  · -- a space
    unfold w_Tx_takesSpace
    rw [r3]
    refine ⟨by unfold inR; omega, fun ho => ?_, fun ho => ⟨Or.inl rfl, h0 (by simp [pstep, hs, hc1, ho])⟩⟩
    intro S1 e1
    refine ⟨Or.inr rfl, h1 (0, nd, op, cu, la, va, pa) (by simp [pstep, hs, hc1, ho]) S1 (by rw [e1]; exact Kp.rf.st (Or.inl ⟨rfl, by simp⟩)) ?_⟩
    rw [e1]
    refine ⟨by simp [q_st], by simp [q_st, hne2, r2], by simp [q_st, r3], by simp [q_st, r4], fun k k1 k2 => ?_⟩
    simp [q_st, hne2, r5 k k1 k2]
  · -- (
    unfold w_Tx_takesOpening
    rw [r1]
    refine ⟨by unfold inR; omega, fun ho => ?_, fun ho => ⟨Or.inl rfl, h0 (by simp [pstep, hs, hc1, ho])⟩⟩
    intro S1 e1 S2 e2 S3 e3
    refine ⟨Or.inr rfl, h1 (0, nd, op + 1, nd - 1, la, va, pa) (by simp [pstep, hs, hc1, ho]) S3 (by rw [e3, e2, e1]; exact ((Kp.rf.st (Or.inl ⟨rfl, by simp⟩)).st (Or.inl ⟨rfl, by simp⟩)).st (Or.inl ⟨rfl, by simp⟩)) ?_⟩
    rw [e3, e2, e1]
    refine ⟨by simp [q_st], by simp [q_st, hne2, r2], by simp [q_st, r3], by simp [q_st, hne2, r2], fun k k1 k2 => ?_⟩
    simp [q_st, hne2, r5 k k1 k2]
  · -- )
    unfold w_Tx_takesClosing
    rw [r3, r4]
    refine ⟨by unfold inR; omega, fun ho => ⟨Or.inl rfl, h0 (by simp [pstep, hs, hc1, ho])⟩, fun ho => ?_⟩
    have c1 := cu0 ho
    refine ⟨by unfold inR; omega, fun _ => ?_, fun z => absurd c1.1 z⟩
    intro S1 e1
    have c5 : S1.1 tx 5 0 = cu := by rw [e1]; simp [q_st, r4]
    have c6 : S1.1 (yR Λ tx 2 0) 3 cu = pa cu := by rw [e1]; simp [q_st, hne2, r5 cu c1.1 c1.2]
    rw [c5, c6]
    refine ⟨by omega, ?_⟩
    intro S2 e2 S3 e3
    refine ⟨Or.inr rfl, h1 (4, nd, op - 1, pa cu, la, va, pa) (by simp [pstep, hs, hc1, ho]) S3 (by rw [e3, e2, e1]; exact ((Kp.rf.st (Or.inl ⟨rfl, by simp⟩)).st (Or.inl ⟨rfl, by simp⟩)).st (Or.inl ⟨rfl, by simp⟩)) ?_⟩
    rw [e3, e2, e1]
    refine ⟨by simp [q_st], by simp [q_st, hne2, r2], by simp [q_st], by simp [q_st], fun k k1 k2 => ?_⟩
    simp [q_st, hne2, r5 k k1 k2]
  · -- a digit
    have hps : pstep (st, nd, op, cu, la, va, pa) c = if c < 48 ∨ 57 < c ∨ ¬ (st = 1 ∨ st = 2) then none else some (if st = 1 ∧ ¬ c = 48 then 2 else 3, nd, op, cu, la, up va (nd - 1) (10 * va (nd - 1) + c - 48), pa) := by
      simp [pstep, hs, hc1.1, hc1.2.1, hc1.2.2]
    have dg : ∀ s0 : Int, bl s0 → (s0 = 0 ↔ ¬ (st = 1 ∨ st = 2)) → w_Tx_takesDigit_21 Λ (fun r65 S65 => bl r65 ∧ Q r65 S65) tx c s0 S := by
      intro s0 hb hs0
      unfold w_Tx_takesDigit_21
      intro x31 e31
      rw [r2] at e31
      have w5' := w5 hs
      refine ⟨hRc, fun z => ⟨Or.inl rfl, h0 (by rw [hps, if_pos (Or.inl z)])⟩, fun z1 => ⟨hRc, fun z => ⟨Or.inl rfl, h0 (by rw [hps, if_pos (Or.inr (Or.inl z))])⟩, fun z2 => ⟨by rcases hb with rfl | rfl <;> unfold inR <;> omega, fun z => ⟨Or.inl rfl, h0 (by rw [hps, if_pos (Or.inr (Or.inr (hs0.mp z)))])⟩, fun z3 => ⟨by unfold inR; omega, fun _ => ⟨by omega, by omega, ?_⟩, fun z => absurd (by omega) z⟩⟩⟩⟩
      have hst : st = 1 ∨ st = 2 := Decidable.not_not.mp (fun q => z3 (hs0.mpr q))
      have hv : S.1 (yR Λ tx 2 0) 2 x31 = va (nd - 1) := by rw [e31]; exact (r5 (nd - 1) (by omega) (by omega)).2.1
      intro S1 e1
      rw [hv, e31] at e1
      have s4 : S1.1 tx 4 0 = st := by rw [e1]; simp [q_st, hne, r1]
      rw [s4]
      have fin : ∀ v : Int, v = (if st = 1 ∧ ¬ c = 48 then 2 else 3) → ∀ S2, S2 = q_st S1 tx 4 0 v → bl 1 ∧ Q 1 S2 := by
        intro v hv2 S2 e2
        refine ⟨Or.inr rfl, h1 (v, nd, op, cu, la, up va (nd - 1) (10 * va (nd - 1) + c - 48), pa) (by rw [hps, if_neg (by omega), hv2]) S2 (by rw [e2, e1]; exact (Kp.rf.st (Or.inr ⟨rfl, by simp⟩)).st (Or.inl ⟨rfl, by simp⟩)) ?_⟩
        rw [e2, e1]
        refine ⟨by simp [q_st], by simp [q_st, hne2, r2], by simp [q_st, hne, r3], by simp [q_st, hne, r4], fun k k1 k2 => ?_⟩
        have r5' := r5 k k1 k2
        by_cases hk : k = nd - 1
        · subst hk
          simp [q_st, hne2, r5', up]
        · simp [q_st, hne2, r5', up, hk]
      refine ⟨by unfold inR; omega, fun z => fin 3 (by simp [z]), fun z => ⟨hRc, fun z4 => fin 3 (by simp [z4]), fun z4 => fin 2 (by simp [z, z4])⟩⟩
    unfold w_Tx_takesDigit w_Tx_takesDigit_16
    rw [r1]
    refine ⟨by unfold inR; omega, fun z => dg 1 (Or.inr rfl) (by simp [z]), fun z => ⟨by unfold inR; omega, fun z2 => dg 0 (Or.inl rfl) (by simp [z, z2]), fun z2 => dg 1 (Or.inr rfl) (by simp [z2])⟩⟩
  · -- a label
    have hps : pstep (st, nd, op, cu, la, va, pa) c = if c < 97 ∨ 104 < c ∨ 24 ≤ nd then none else some (1, nd + 1, op, cu, up la nd (c - 97), up va nd 0, up pa nd cu) := by
      simp [pstep, hs]
    unfold w_Tx_takesLabel
    refine ⟨hRc, fun z => ⟨Or.inl rfl, h0 (by rw [hps, if_pos (Or.inl z)])⟩, fun z1 => ⟨hRc, fun z => ⟨Or.inl rfl, h0 (by rw [hps, if_pos (Or.inr (Or.inl z))])⟩, fun z2 => ?_⟩⟩
    rw [r4]
    refine s_Tr_add r2 w2 (fun hn => ?_) (fun hn => ?_)
    · refine ⟨by unfold inR; omega, fun _ => ?_, fun z => absurd z (by decide)⟩
      intro S1 e1
      refine ⟨Or.inr rfl, h1 (1, nd + 1, op, cu, up la nd (c - 97), up va nd 0, up pa nd cu) (by rw [hps, if_neg (by omega)]) S1 (by rw [e1]; exact ((((Kp.rf.st (Or.inr ⟨rfl, by simp⟩)).st (Or.inr ⟨rfl, by simp⟩)).st (Or.inr ⟨rfl, by simp⟩)).st (Or.inr ⟨rfl, by simp⟩)).st (Or.inl ⟨rfl, by simp⟩)) ?_⟩
      rw [e1]
      refine ⟨by simp [q_st], by simp [q_st, hne2], by simp [q_st, hne, r3], by simp [q_st, hne, r4], fun k k1 k2 => ?_⟩
      by_cases hk : k = nd
      · subst hk
        simp [q_st, hne2, up]
      · have r5' := r5 k k1 (by omega)
        simp [q_st, hne2, r5', up, hk]
    · refine ⟨by unfold inR; omega, fun z => absurd rfl z, fun _ => ⟨Or.inl rfl, h0 (by rw [hps, if_pos (by omega)])⟩⟩
theorem pch_mono {nd nd' : Int} {pa pa' : Int → Int} (hn : nd ≤ nd') (hp : ∀ j, 0 ≤ j → j < nd → pa' j = pa j) : ∀ (k : Nat) (c : Int), pch nd pa k c → pch nd' pa' k c
  | 0, _, h => h
  | k + 1, c, h => by
    refine ⟨h.1, by have := h.2.1; omega, ?_⟩
    rw [hp c h.1 h.2.1]
    exact pch_mono hn hp k _ h.2.2
theorem wfP_step {p p' : PS} {c : Int} (hc : 0 ≤ c ∧ c ≤ 127) (hw : wfP p) (h : pstep p c = some p') : wfP p' := by
  obtain ⟨st, nd, op, cu, la, va, pa⟩ := p
  obtain ⟨w1, w2, w3, w4, w5, w6, w6b, w7, w8, w9, w10, w11, w12⟩ := hw
  have cu0 : op ≠ 0 → 0 ≤ cu ∧ cu < nd := fun z => pch_cu w4 (by omega)
  have cuM : op = 0 → cu = -1 := fun z => by rw [z] at w4; exact w4
  unfold pstep at h
  dsimp only at h
  by_cases hs : st = 0
  · rw [if_pos hs] at h
    by_cases hz : c < 97 ∨ 104 < c ∨ 24 ≤ nd
    · rw [if_pos hz] at h; cases h
    · rw [if_neg hz] at h
      cases h
      have hop : op = 0 ↔ nd = 0 := ⟨fun z => w6 hs z, w6b⟩
      have hcu : cu < nd := by
        by_cases z : op = 0
        · rw [cuM z]; omega
        · exact (cu0 z).2
      refine ⟨by omega, by omega, w3, pch_mono (by omega) (fun j a b => up_n _ _ (by omega)) _ _ w4, fun _ => by omega, fun z => absurd z (by decide), fun z => by omega, ?_, fun _ => ?_, fun z => absurd z (by decide), ?_, ?_, fun _ => ?_⟩
      · intro k k1 k2
        by_cases hk : k = nd
        · subst hk
          simp only [up_s]
          refine ⟨by omega, by omega, hcu, fun z => cuM (hop.mpr z), fun z => (cu0 (fun q => by have := hop.mp q; omega)).1⟩
        · rw [up_n _ _ hk, up_n _ _ hk, up_n _ _ hk]
          exact w7 k k1 (by omega)
      · rw [show nd + 1 - 1 = nd by omega, up_s]
      · intro j k k1 k2 k3 k4
        by_cases hk : k = nd
        · subst hk
          rw [up_s] at k3 ⊢
          rw [up_n _ _ (by omega)]
          by_cases z : op = 0
          · have := hop.mp z; omega
          · exact w11 j k3 k4 (by have := (cu0 z).1; omega)
        · rw [up_n _ _ hk] at k3 ⊢
          rw [up_n _ _ (by omega)]
          exact w10 j k k1 (by omega) k3 k4
      · intro j k1 k2 k3
        by_cases hk : j = nd
        · subst hk
          rw [up_s]
          exact Int.le_refl _
        · rw [up_n _ _ hk]
          exact w11 j k1 (by omega) k3
      · rw [show nd + 1 - 1 = nd by omega, up_s]
  · rw [if_neg hs] at h
    have w5' := w5 hs
    by_cases h40 : c = 40
    · rw [if_pos h40] at h
      by_cases h4 : st = 4
      · rw [if_pos h4] at h; cases h
      · rw [if_neg h4] at h
        cases h
        have h7 := w7 (nd - 1) (by omega) (by omega)
        refine ⟨by omega, w2, by omega, ?_, fun z => absurd rfl z, fun _ z => by omega, fun z => by omega, w7, fun z => absurd z (by decide), fun z => absurd z (by decide), w10, fun j k1 k2 _ => by omega, fun z => by omega⟩
        rw [show (op + 1).toNat = op.toNat + 1 by omega]
        refine ⟨by omega, by omega, ?_⟩
        rw [w12 (by omega)]
        exact w4
    · rw [if_neg h40] at h
      by_cases h32 : c = 32
      · rw [if_pos h32] at h
        by_cases ho : op = 0
        · rw [if_pos ho] at h; cases h
        · rw [if_neg ho] at h
          cases h
          exact ⟨by omega, w2, w3, w4, fun z => absurd rfl z, fun _ z => absurd z ho, w6b, w7, fun z => absurd z (by decide), fun z => absurd z (by decide), w10, w11, fun z => by omega⟩
      · rw [if_neg h32] at h
        by_cases h41 : c = 41
        · rw [if_pos h41] at h
          by_cases ho : op = 0
          · rw [if_pos ho] at h; cases h
          · rw [if_neg ho] at h
            cases h
            have c0 := cu0 ho
            have hk : op.toNat = (op - 1).toNat + 1 := by omega
            rw [hk] at w4
            refine ⟨by omega, w2, by omega, w4.2.2, fun _ => w5', fun z => absurd z (by decide), fun z => by omega, w7, fun z => absurd z (by decide), fun z => absurd z (by decide), w10, fun j k1 k2 k3 => ?_, fun z => by omega⟩
            by_cases hj : j = cu
            · rw [hj]; exact Int.le_refl _
            · by_cases hj2 : j < cu
              · by_cases hz : cu = 0
                · have := (w7 cu c0.1 c0.2).2.2.2.1 hz
                  omega
                · exact w10 j cu (by omega) c0.2 k1 hj2
              · have := w11 j (by omega) k2 k3
                have := (w7 cu c0.1 c0.2).2.2.1
                omega
        · rw [if_neg h41] at h
          by_cases hz : c < 48 ∨ 57 < c ∨ ¬ (st = 1 ∨ st = 2)
          · rw [if_pos hz] at h; cases h
          · rw [if_neg hz] at h
            cases h
            have h12 : st = 1 ∨ st = 2 := by omega
            have hv : 0 ≤ va (nd - 1) ∧ va (nd - 1) ≤ 9 := by
              have := (w7 (nd - 1) (by omega) (by omega)).2.1
              rcases h12 with z | z
              · have := w8 z; omega
              · have := w9 z; omega
            refine ⟨by split <;> omega, w2, w3, w4, fun _ => w5', fun z => absurd z (by split <;> decide), w6b, ?_, fun z => absurd z (by split <;> decide), fun z => ?_, w10, w11, fun _ => w12 (by omega)⟩
            · intro k k1 k2
              have h7 := w7 k k1 k2
              refine ⟨h7.1, ?_, h7.2.2⟩
              by_cases hk : k = nd - 1
              · rw [hk, up_s]; omega
              · rw [up_n _ _ hk]; exact h7.2.1
            · have hs1 : st = 1 := by
                by_cases q : st = 1
                · exact q
                · rw [if_neg (fun z2 => q z2.1)] at z
                  exact absurd z (by decide)
              rw [up_s]
              have := w8 hs1
              omega
/-- the letters are taken as long as they can be -/
def prun (b : Int → Int) : Nat → Int → PS → Int × PS
  | 0, k, p => (k, p)
  | n + 1, k, p => match pstep p (b k) with
    | none => (k, p)
    | some p' => prun b n (k + 1) p'
def p0 (la va pa : Int → Int) : PS := (0, 0, 0, -1, la, va, pa)
theorem wfP_0 (la va pa : Int → Int) : wfP (p0 la va pa) := ⟨by omega, by omega, by omega, rfl, fun z => absurd rfl z, fun _ _ => rfl, fun _ => rfl, fun k a b => by omega, fun z => absurd z (by decide), fun z => absurd z (by decide), fun j k a b => by omega, fun j a b c => by omega, fun z => by omega⟩
theorem prun_wf {b : Int → Int} {len : Int} (hb : ∀ k, 0 ≤ k → k < len → 0 ≤ b k ∧ b k ≤ 127) : ∀ (n : Nat) (k : Int) (p : PS), 0 ≤ k → k + n = len → wfP p → wfP (prun b n k p).2 ∧ k ≤ (prun b n k p).1 ∧ (prun b n k p).1 ≤ len
  | 0, k, p, h0, h1, hw => ⟨hw, Int.le_refl _, by show k ≤ len; omega⟩
  | n + 1, k, p, h0, h1, hw => by
    unfold prun
    cases hp : pstep p (b k) with
    | none => exact ⟨hw, Int.le_refl _, by show k ≤ len; omega⟩
    | some p' =>
      have h2 := prun_wf hb n (k + 1) p' (by omega) (by omega) (wfP_step (hb k h0 (by omega)) hw hp)
      exact ⟨h2.1, by have := h2.2.1; show k ≤ (prun b n (k + 1) p').1; omega, h2.2.2⟩
/-- what a reading says: -15, or the place of the fault -/
def pans (len : Int) (r : Int × PS) : Int := if r.1 = len ∧ r.2.2.2.1 = 0 ∧ ¬ r.2.1 = 0 then -15 else r.1
theorem pans_1 {len : Int} {r : Int × PS} (h : r.1 = len ∧ r.2.2.2.1 = 0 ∧ ¬ r.2.1 = 0) : pans len r = -15 := if_pos h
theorem pans_2 {len : Int} {r : Int × PS} (h : ¬ (r.1 = len ∧ r.2.2.2.1 = 0 ∧ ¬ r.2.1 = 0)) : pans len r = r.1 := if_neg h
theorem s_Tx_findFault {Λ : QLay} {tx : Nat} {S : QMem} {Q : Int → QMem → Prop} (hne : tx ≠ yR Λ tx 2 0) {b : Int → Int} {len : Int} (hl : S.1 tx 1 0 = len) (hl2 : 0 ≤ len ∧ len ≤ 100) (hb : ∀ k, 0 ≤ k → k < len → S.1 tx 0 k = b k ∧ 0 ≤ b k ∧ b k ≤ 127)
    (hq : ∀ (la va pa : Int → Int) (S' : QMem), Kp (PT Λ tx) S S' → RT Λ tx S' (prun b len.toNat 0 (p0 la va pa)).2 → Q (pans len (prun b len.toNat 0 (p0 la va pa))) S') : w_Tx_findFault Λ tx S Q := by
  have hne2 : yR Λ tx 2 0 ≠ tx := fun z => hne z.symm
  unfold w_Tx_findFault
  intro S1 e1 S2 e2 S3 e3 S4 e4
  have hk4 : Kp (PT Λ tx) S S4 := by rw [e4, e3, e2, e1]; exact (((Kp.rf.st (Or.inr ⟨rfl, by simp⟩)).st (Or.inl ⟨rfl, by simp⟩)).st (Or.inl ⟨rfl, by simp⟩)).st (Or.inl ⟨rfl, by simp⟩)
  have hr4 : RT Λ tx S4 (p0 (fun _ => 0) (fun _ => 0) (fun _ => 0)) := by
    rw [e4, e3, e2, e1]
    exact ⟨by simp [q_st], by simp [q_st, hne2], by simp [q_st], by simp [q_st], fun k a b => by omega⟩
  have hq' := hq (fun _ => 0) (fun _ => 0) (fun _ => 0)
  generalize hp : p0 (fun _ => 0) (fun _ => 0) (fun _ => 0) = p at hr4 hq'
  have hw : wfP p := by rw [← hp]; exact wfP_0 _ _ _
  refine ⟨len.toNat + 1, ?_⟩
  have key : ∀ (n : Nat) (k : Int) (p : PS) (S4 : QMem), 0 ≤ k → k + n = len → wfP p → Kp (PT Λ tx) S S4 → RT Λ tx S4 p → (∀ S', Kp (PT Λ tx) S S' → RT Λ tx S' (prun b n k p).2 → Q (pans len (prun b n k p)) S') → w_Tx_findFault_25 Λ Q (n + 1) tx k S4 := by
    intro n
    induction n with
    | zero =>
      intro k p S4 h0 h1 hw hk hr hq
      obtain ⟨st, nd, op, cu, la, va, pa⟩ := p
      have hr' := hr
      obtain ⟨r1, r2, r3, r4, r5⟩ := hr
      obtain ⟨w1, w2, w3, w4, w5, w6, w6b, w7, -⟩ := hw
      have op24 : op ≤ 24 := by
        have h9 := pch_le (fun j a b => (w7 j a b).2.2.1) _ _ w4
        by_cases z : op = 0
        · omega
        · have := pch_cu w4 (show op.toNat ≠ 0 by omega)
          omega
      have hl4 : S4.1 tx 1 0 = len := by rw [hk.at (by simp [PT, hne])]; exact hl
      rw [w_Tx_findFault_25, hl4, r3, r1]
      have hq2 := hq S4 hk hr'
      have hkl : k = len := by omega
      refine ⟨by unfold inR; omega, by unfold inR; omega, fun _ => ⟨by unfold inR; omega, fun z => ?_, fun z => ⟨by unfold inR; omega, fun z2 => ?_, fun z2 => ?_⟩⟩, fun z => absurd (by omega) z⟩
      · simp only [prun, pans, z, false_and, and_false, if_false] at hq2
        rw [← hkl]; exact hq2
      · simp only [prun, pans, z2, not_true, and_false, if_false] at hq2
        rw [← hkl]; exact hq2
      · rw [pans_1 (r := prun b 0 k (st, nd, op, cu, la, va, pa)) ⟨hkl, z, z2⟩] at hq2
        exact hq2
    | succ n ih =>
      intro k p S4 h0 h1 hw hk hr hq
      have hl4 : S4.1 tx 1 0 = len := by rw [hk.at (by simp [PT, hne])]; exact hl
      have hbk := hb k h0 (by omega)
      have hb4 : S4.1 tx 0 k = b k := by rw [hk.at (by simp [PT, hne])]; exact hbk.1
      rw [w_Tx_findFault_25, hl4, hb4]
      refine ⟨by unfold inR; omega, by unfold inR; omega, fun z => absurd z (by omega), fun _ => ⟨by omega, ?_⟩⟩
      refine s_Tx_takes hne hw hr hbk.2 (fun hp => ?_) (fun p' hp S' hk' hr' => ?_)
      · refine ⟨by unfold inR; omega, fun z => absurd rfl z, fun _ => ?_⟩
        have hq2 := hq S4 hk
        have e : prun b (n + 1) k p = (k, p) := by rw [prun, hp]
        rw [e] at hq2
        have hq3 := hq2 hr
        unfold pans at hq3
        rw [if_neg (fun z => by have := z.1; dsimp only at this; omega)] at hq3
        exact hq3
      · refine ⟨by unfold inR; omega, fun _ => ?_, fun z => absurd z (by decide)⟩
        refine ih (k + 1) p' S' (by omega) (by omega) (wfP_step hbk.2 hw hp) (hk.tr hk') hr' (fun S'' a c => ?_)
        have e : prun b (n + 1) k p = prun b n (k + 1) p' := by rw [prun, hp]
        have hq2 := hq S'' a
        rw [e] at hq2
        exact hq2 c
  exact key len.toNat 0 p S4 (by omega) (by omega) hw hk4 hr4 hq'
/-! the reference's reader -/
/-- the reference's state is p: the open nodes stand in a row -/
def psk (nd : Int) (pa o : Int → Int) : Nat → Int → Prop
  | 0, c => c = -1
  | k + 1, c => o (k : Int) = c ∧ 0 ≤ c ∧ c < nd ∧ psk nd pa o k (pa c)
def RM (m : Nat) (S : QMem) (p : PS) : Prop :=
  match p with
  | (st, nd, op, cu, la, va, pa) =>
    S.1 m 16 0 = (if st = 4 then 3 else st) ∧ S.1 m 17 0 = (if st = 4 then 1 else 0) ∧ S.1 m 0 2 = nd ∧ S.1 m 15 0 = op ∧ psk nd pa (S.1 m 14) op.toNat cu ∧
    ∀ k, 0 ≤ k → k < nd → S.1 m 1 (48 + k) = la k ∧ S.1 m 2 (48 + k) = va k ∧ S.1 m 3 (48 + k) = pa k
/-- what the reader changes: the third tree alone of the trees -/
def PM (m o f : Nat) : Prop := o = m ∧ (f = 13 ∨ f = 14 ∨ f = 15 ∨ f = 16 ∨ f = 17)
def rg (f : Nat) (v : Int) : Prop := (f = 1 → 0 ≤ v ∧ v ≤ 7) ∧ (f = 2 → 0 ≤ v ∧ v ≤ 99) ∧ (f = 3 → -1 ≤ v ∧ v ≤ 23)
def KM (m : Nat) (S S' : QMem) : Prop := S'.2 = S.2 ∧ (∀ (o f : Nat) (i : Int), ¬ PM m o f → ¬ (o = m ∧ f = 0 ∧ i = 2) → ¬ (o = m ∧ (f = 1 ∨ f = 2 ∨ f = 3) ∧ 48 ≤ i) → S'.1 o f i = S.1 o f i) ∧ ∀ (f : Nat) (i : Int), rg f (S.1 m f i) → rg f (S'.1 m f i)
theorem KM.rf {m : Nat} {S : QMem} : KM m S S := ⟨rfl, fun _ _ _ _ _ _ => rfl, fun _ _ h => h⟩
theorem KM.tr {m : Nat} {S S1 S2 : QMem} (h : KM m S S1) (h2 : KM m S1 S2) : KM m S S2 := ⟨h2.1.trans h.1, fun o f i a b c => (h2.2.1 o f i a b c).trans (h.2.1 o f i a b c), fun f i z => h2.2.2 f i (h.2.2 f i z)⟩
theorem KM.st {m : Nat} {S S1 : QMem} {o f : Nat} {i v : Int} (h : KM m S S1) (hp : PM m o f ∨ (o = m ∧ f = 0 ∧ i = 2) ∨ (o = m ∧ (f = 1 ∨ f = 2 ∨ f = 3) ∧ 48 ≤ i ∧ rg f v)) : KM m S (q_st S1 o f i v) := by
  refine ⟨h.1, fun o' f' i' a b c => ?_, fun f' i' z => ?_⟩
  · rw [q_st_ne (fun z => ?_)]
    · exact h.2.1 o' f' i' a b c
    · obtain ⟨rfl, rfl, rfl⟩ := z
      rcases hp with q | q | q
      · exact a q
      · exact b q
      · exact c ⟨q.1, q.2.1, q.2.2.1⟩
  · have h1 := h.2.2 f' i' z
    by_cases q : m = o ∧ f' = f ∧ i' = i
    · obtain ⟨rfl, rfl, rfl⟩ := q
      rw [q_st_eq]
      rcases hp with q | q | q
      · have q2 := q.2
        exact ⟨fun z => by omega, fun z => by omega, fun z => by omega⟩
      · exact ⟨fun z => by omega, fun z => by omega, fun z => by omega⟩
      · exact q.2.2.2
    · rw [q_st_ne q]
      exact h1
theorem psk_mono {nd nd' : Int} {pa pa' o o' : Int → Int} (hn : nd ≤ nd') (hp : ∀ j, 0 ≤ j → j < nd → pa' j = pa j) : ∀ (k : Nat) (c : Int), (∀ j : Int, 0 ≤ j → j < k → o' j = o j) → psk nd pa o k c → psk nd' pa' o' k c
  | 0, _, _, h => h
  | k + 1, c, ho, h => by
    refine ⟨by rw [ho k (by omega) (by omega)]; exact h.1, h.2.1, by have := h.2.2.1; omega, ?_⟩
    rw [hp c h.2.1 h.2.2.1]
    exact psk_mono hn hp k _ (fun j a b => ho j a (by omega)) h.2.2.2
theorem s_Mo_in {Λ : QLay} {x lo hi : Int} {S : QMem} {Q : Int → QMem → Prop} (hx : inR x) (hl : inR lo) (hh : inR hi) (h1 : lo ≤ x ∧ x ≤ hi → Q 1 S) (h0 : ¬ (lo ≤ x ∧ x ≤ hi) → Q 0 S) : w_Mo_in Λ x lo hi S Q := by
  unfold w_Mo_in
  refine ⟨hx, hl, fun z => h0 (by omega), fun z => ⟨hx, hh, fun z2 => h0 (by omega), fun z2 => h1 (by omega)⟩⟩
theorem s_Mo_isLabelRead {Λ : QLay} {m : Nat} {c : Int} {S : QMem} {Q : Int → QMem → Prop} {p : PS} (hw : wfP p) (hr : RM m S p) (hs : p.1 = 0) (hc : -1 ≤ c ∧ c ≤ 127)
    (h0 : pstep p c = none → Q 0 S) (h1 : ∀ p', pstep p c = some p' → ∀ S', KM m S S' → S'.1 m 13 0 = S.1 m 13 0 → RM m S' p' → Q 1 S') : w_Mo_isLabelRead Λ m c S Q := by
  obtain ⟨st, nd, op, cu, la, va, pa⟩ := p
  obtain ⟨w1, w2, w3, w4, w5, w6, w6b, w7, w8, w9, w10, w11, w12⟩ := hw
  obtain ⟨r1, r2, r3, r4, r5, r6⟩ := hr
  have hs : st = 0 := hs
  have op24 : op ≤ 24 := by
    have h9 := pch_le (fun j a b => (w7 j a b).2.2.1) _ _ w4
    by_cases z : op = 0
    · omega
    · have := pch_cu w4 (show op.toNat ≠ 0 by omega)
      omega
  have hps : pstep (st, nd, op, cu, la, va, pa) c = if c < 97 ∨ 104 < c ∨ 24 ≤ nd then none else some (1, nd + 1, op, cu, up la nd (c - 97), up va nd 0, up pa nd cu) := by
    simp [pstep, hs]
  unfold w_Mo_isLabelRead
  refine s_Mo_in (by unfold inR; omega) (by unfold inR; omega) (by unfold inR; omega) (fun hin => ?_) (fun hin => ?_)
  · refine ⟨by unfold inR; omega, fun z => absurd z (by decide), fun _ => ?_⟩
    rw [r3]
    refine ⟨by unfold inR; omega, fun z => ?_, fun z => h0 (by rw [hps, if_pos (by omega)])⟩
    unfold w_Mo_at
    refine ⟨by omega, ?_⟩
    intro S1 e1
    refine ⟨by omega, ?_⟩
    intro S2 e2
    have a1 : S2.1 m 15 0 = op := by rw [e2, e1]; simp [q_st, r4]
    have a2 : S2.1 m 14 = S.1 m 14 := by funext q; rw [e2, e1]; simp [q_st]
    rw [a1, a2]
    have fin : w_Mo_isLabelRead_79 Λ Q m m (24 * 2 + nd) cu S2 := by
      unfold w_Mo_isLabelRead_79
      refine ⟨by omega, ?_⟩
      intro S3 e3 S4 e4 S5 e5
      have b1 : S3.1 m 0 2 = nd := by rw [e3, e2, e1]; simp [q_st, r3]
      rw [b1] at e4
      have hkm : KM m S S5 := by
        rw [e5, e4, e3, e2, e1]
        have hcr : -1 ≤ cu ∧ cu ≤ 23 := by
          by_cases z : op = 0
          · have : cu = -1 := by rw [z] at w4; exact w4
            omega
          · have := pch_cu w4 (show op.toNat ≠ 0 by omega)
            omega
        exact ((((KM.rf.st (Or.inr (Or.inr ⟨rfl, by simp, by omega, fun _ => by omega, fun z => by omega, fun z => by omega⟩))).st (Or.inr (Or.inr ⟨rfl, by simp, by omega, fun z => by omega, fun _ => by omega, fun z => by omega⟩))).st (Or.inr (Or.inr ⟨rfl, by simp, by omega, fun z => by omega, fun z => by omega, fun _ => hcr⟩))).st (Or.inr (Or.inl ⟨rfl, rfl, rfl⟩))).st (Or.inl ⟨rfl, by simp⟩)
      refine h1 (1, nd + 1, op, cu, up la nd (c - 97), up va nd 0, up pa nd cu) (by rw [hps, if_neg (by omega)]) S5 hkm (by rw [e5, e4, e3, e2, e1]; simp [q_st]) ?_
      refine ⟨by rw [e5]; simp [q_st], by rw [e5, e4, e3, e2, e1]; simp [q_st, r2, hs], by rw [e5, e4]; simp [q_st], by rw [e5, e4, e3, e2, e1]; simp [q_st, r4], ?_, ?_⟩
      · refine psk_mono (by omega) (fun j a b => up_n _ _ (by omega)) _ _ (fun j _ _ => ?_) r5
        rw [e5, e4, e3, e2, e1]
        simp [q_st]
      · intro k k1 k2
        rw [e5, e4, e3, e2, e1]
        by_cases hk : k = nd
        · subst hk
          simp [q_st, up]
        · have r6' := r6 k k1 (by omega)
          have : ¬ (48 + k = 24 * 2 + nd) := by omega
          simp [q_st, up, hk, r6', this]
    refine ⟨by unfold inR; omega, fun z => ⟨by omega, ?_⟩, fun z => ?_⟩
    · have hcu : S.1 m 14 (op - 1) = cu := by
        have hk : op.toNat = (op - 1).toNat + 1 := by omega
        rw [hk] at r5
        have := r5.1
        rwa [show (((op - 1).toNat : Nat) : Int) = op - 1 by omega] at this
      rw [hcu]
      exact fin
    · have hcu : cu = -1 := by rw [z] at w4; exact w4
      rw [← hcu]
      exact fin
  · exact ⟨by unfold inR; omega, fun _ => h0 (by rw [hps, if_pos (by omega)]), fun z => absurd rfl z⟩
theorem s_Mo_isDigitRead {Λ : QLay} {m : Nat} {c : Int} {S : QMem} {Q : Int → QMem → Prop} {p : PS} (hw : wfP p) (hr : RM m S p) (hs : ¬ p.1 = 0) (hc : -1 ≤ c ∧ c ≤ 127)
    (h0 : ¬ (48 ≤ c ∧ c ≤ 57 ∧ (p.1 = 1 ∨ p.1 = 2)) → Q 0 S) (h1 : 48 ≤ c → c ≤ 57 → ∀ p', pstep p c = some p' → ∀ S', KM m S S' → S'.1 m 13 0 = S.1 m 13 0 → RM m S' p' → Q 1 S') : w_Mo_isDigitRead Λ m c S Q := by
  obtain ⟨st, nd, op, cu, la, va, pa⟩ := p
  obtain ⟨w1, w2, w3, w4, w5, w6, w6b, w7, w8, w9, w10, w11, w12⟩ := hw
  obtain ⟨r1, r2, r3, r4, r5, r6⟩ := hr
  have hs : ¬ st = 0 := hs
  have w5' := w5 hs
  unfold w_Mo_isDigitRead
  refine s_Mo_in (by unfold inR; omega) (by unfold inR; omega) (by unfold inR; omega) (fun hin => ?_) (fun hin => ?_)
  · refine ⟨by unfold inR; omega, fun z => absurd z (by decide), fun _ => ?_⟩
    rw [r1, r3]
    by_cases h12 : st = 1 ∨ st = 2
    · have h4 : ¬ st = 4 := by omega
      rw [if_neg h4]
      have hps : pstep (st, nd, op, cu, la, va, pa) c = some (if st = 1 ∧ ¬ c = 48 then 2 else 3, nd, op, cu, la, up va (nd - 1) (10 * va (nd - 1) + c - 48), pa) := by
        unfold pstep
        dsimp only
        rw [if_neg hs, if_neg (by omega), if_neg (by omega), if_neg (by omega), if_neg (by omega)]
      refine ⟨by unfold inR; omega, fun _ => ?_, fun z => by omega⟩
      unfold w_Mo_at
      refine ⟨by omega, by omega, ?_⟩
      have hv : S.1 m 2 (24 * 2 + (nd - 1)) = va (nd - 1) := (r6 (nd - 1) (by omega) (by omega)).2.1
      have hvr : 0 ≤ 10 * va (nd - 1) + c - 48 ∧ 10 * va (nd - 1) + c - 48 ≤ 99 := by
        have := (w7 (nd - 1) (by omega) (by omega)).2.1
        rcases h12 with z | z
        · have := w8 z; omega
        · have := w9 z; omega
      rw [hv]
      intro S1 e1
      have a1 : S1.1 m 16 0 = st := by rw [e1]; simp [q_st, r1, h4]
      rw [a1]
      have fin : ∀ v : Int, v = (if st = 1 ∧ ¬ c = 48 then 2 else 3) → ∀ S2, S2 = q_st S1 m 16 0 v → Q 1 S2 := by
        intro v hv2 S2 e2
        have v4 : ¬ v = 4 := by rw [hv2]; split <;> decide
        refine h1 hin.1 hin.2 (v, nd, op, cu, la, up va (nd - 1) (10 * va (nd - 1) + c - 48), pa) (by rw [hps, hv2]) S2 (by rw [e2, e1]; exact (KM.rf.st (Or.inr (Or.inr ⟨rfl, by simp, by omega, fun z => by omega, fun _ => hvr, fun z => by omega⟩))).st (Or.inl ⟨rfl, by simp⟩)) (by rw [e2, e1]; simp [q_st]) ?_
        refine ⟨by rw [e2]; simp [q_st, v4], by rw [e2, e1]; simp [q_st, r2, v4, h4], by rw [e2, e1]; simp [q_st, r3], by rw [e2, e1]; simp [q_st, r4], ?_, ?_⟩
        · refine psk_mono (Int.le_refl _) (fun j a b => rfl) _ _ (fun j _ _ => ?_) r5
          rw [e2, e1]
          simp [q_st]
        · intro k k1 k2
          have r6' := r6 k k1 k2
          rw [e2, e1]
          by_cases hk : k = nd - 1
          · subst hk
            simp [q_st, up, r6']
          · have : ¬ (48 + k = 24 * 2 + (nd - 1)) := by omega
            simp [q_st, up, hk, r6', this]
      exact ⟨by unfold inR; omega, fun z => fin 3 (by simp [z]), fun z => ⟨by unfold inR; omega, fun z4 => fin 3 (by simp [z4]), fun z4 => fin 2 (by simp [z, z4])⟩⟩
    · have h34 : (if st = 4 then 3 else st) = 3 := by split <;> omega
      rw [h34]
      exact ⟨by unfold inR; omega, fun z => absurd rfl z, fun _ => h0 (fun z => h12 z.2.2)⟩
  · exact ⟨by unfold inR; omega, fun _ => h0 (fun z => hin ⟨z.1, z.2.1⟩), fun z => absurd rfl z⟩
theorem s_Mo_isOther {Λ : QLay} {m : Nat} {c : Int} {S : QMem} {Q : Int → QMem → Prop} {p : PS} (hw : wfP p) (hr : RM m S p) (hs : ¬ p.1 = 0) (hc : -1 ≤ c ∧ c ≤ 127) (hd : ¬ (48 ≤ c ∧ c ≤ 57 ∧ (p.1 = 1 ∨ p.1 = 2)))
    (h0 : pstep p c = none → Q 0 S) (h1 : ∀ p', pstep p c = some p' → ∀ S', KM m S S' → S'.1 m 13 0 = S.1 m 13 0 → RM m S' p' → Q 1 S') : w_Mo_isOther Λ m c S Q := by
  obtain ⟨st, nd, op, cu, la, va, pa⟩ := p
  obtain ⟨w1, w2, w3, w4, w5, w6, w6b, w7, w8, w9, w10, w11, w12⟩ := hw
  obtain ⟨r1, r2, r3, r4, r5, r6⟩ := hr
  have hs : ¬ st = 0 := hs
  have hd : ¬ (48 ≤ c ∧ c ≤ 57 ∧ (st = 1 ∨ st = 2)) := hd
  have w5' := w5 hs
  have hRc : inR c := by unfold inR; omega
  have op24 : op ≤ 24 := by
    have h9 := pch_le (fun j a b => (w7 j a b).2.2.1) _ _ w4
    by_cases z : op = 0
    · omega
    · have := pch_cu w4 (show op.toNat ≠ 0 by omega)
      omega
  have hno : ¬ c = 32 → ¬ c = 41 → (c = 40 → st = 4) → pstep (st, nd, op, cu, la, va, pa) c = none := by
    intro a b d
    unfold pstep
    dsimp only
    rw [if_neg hs]
    by_cases e40 : c = 40
    · rw [if_pos e40, if_pos (d e40)]
    · rw [if_neg e40, if_neg a, if_neg b, if_pos (by omega)]
  have h47 : (c = 40 → st = 4) → w_Mo_isOther_47 Λ Q m c S := by
    intro d
    unfold w_Mo_isOther_47
    rw [r4]
    refine ⟨by unfold inR; omega, fun z => ?_, fun z => ⟨hRc, fun z2 => ?_, fun z2 => ⟨hRc, fun z3 => ?_, fun z3 => h0 (hno z2 z3 d)⟩⟩⟩
    · by_cases c32 : c = 32
      · exact h0 (by simp [pstep, hs, c32, z])
      · by_cases c41 : c = 41
        · exact h0 (by simp [pstep, hs, c41, z])
        · exact h0 (hno c32 c41 d)
    · unfold w_Mo_isOther_68
      refine ⟨hRc, fun q => absurd z2 q, fun _ => ?_⟩
      unfold w_Mo_isOther_80
      intro S1 e1
      refine ⟨hRc, fun _ => ?_, fun q => by omega⟩
      unfold w_Mo_isOther_95
      refine ⟨Or.inl rfl, ?_⟩
      intro S2 e2
      have a1 : S2.1 m 17 0 = 0 := by rw [e2]; simp [q_st]
      have a2 : S2.1 m 15 0 = op := by rw [e2, e1]; simp [q_st, r4]
      rw [a1, a2]
      refine ⟨by unfold inR; omega, fun _ => ?_, fun q => absurd rfl q⟩
      intro S3 e3
      refine h1 (0, nd, op, cu, la, va, pa) (by simp [pstep, hs, z2, z]) S3 (by rw [e3, e2, e1]; exact ((KM.rf.st (Or.inl ⟨rfl, by simp⟩)).st (Or.inl ⟨rfl, by simp⟩)).st (Or.inl ⟨rfl, by simp⟩)) (by rw [e3, e2, e1]; simp [q_st]) ?_
      refine ⟨by rw [e3, e2, e1]; simp [q_st], by rw [e3, e2]; simp [q_st], by rw [e3, e2, e1]; simp [q_st, r3], by rw [e3]; simp [q_st], ?_, ?_⟩
      · refine psk_mono (Int.le_refl _) (fun j a b => rfl) _ _ (fun j _ _ => ?_) r5
        rw [e3, e2, e1]
        simp [q_st]
      · intro k k1 k2
        have r6' := r6 k k1 k2
        rw [e3, e2, e1]
        simp [q_st, r6']
    · unfold w_Mo_isOther_68
      refine ⟨hRc, fun _ => ?_, fun q => by omega⟩
      unfold w_Mo_isOther_80
      intro S1 e1
      refine ⟨hRc, fun q => absurd z3 q, fun _ => ?_⟩
      unfold w_Mo_isOther_95
      refine ⟨Or.inr rfl, ?_⟩
      intro S2 e2
      have a1 : S2.1 m 17 0 = 1 := by rw [e2]; simp [q_st]
      have a2 : S2.1 m 15 0 = op := by rw [e2, e1]; simp [q_st, r4]
      rw [a1, a2]
      refine ⟨by unfold inR; omega, fun q => absurd q (by decide), fun _ => ?_⟩
      intro S3 e3
      refine h1 (4, nd, op - 1, pa cu, la, va, pa) (by simp [pstep, hs, z3, z]) S3 (by rw [e3, e2, e1]; exact ((KM.rf.st (Or.inl ⟨rfl, by simp⟩)).st (Or.inl ⟨rfl, by simp⟩)).st (Or.inl ⟨rfl, by simp⟩)) (by rw [e3, e2, e1]; simp [q_st]) ?_
      refine ⟨by rw [e3, e2, e1]; simp [q_st], by rw [e3, e2]; simp [q_st], by rw [e3, e2, e1]; simp [q_st, r3], by rw [e3]; simp [q_st], ?_, ?_⟩
      · have hk : op.toNat = (op - 1).toNat + 1 := by omega
        rw [hk] at r5
        refine psk_mono (Int.le_refl _) (fun j a b => rfl) _ _ (fun j _ _ => ?_) r5.2.2.2
        rw [e3, e2, e1]
        simp [q_st]
      · intro k k1 k2
        have r6' := r6 k k1 k2
        rw [e3, e2, e1]
        simp [q_st, r6']
  unfold w_Mo_isOther
  rw [r2, r4, r3]
  refine ⟨hRc, fun z => h47 (fun q => absurd q z), fun z => ?_⟩
  by_cases h4 : st = 4
  · rw [if_pos h4]
    exact ⟨by unfold inR; omega, fun _ => h47 (fun _ => h4), fun z => absurd z (by decide)⟩
  · rw [if_neg h4]
    refine ⟨by unfold inR; omega, fun z => absurd rfl z, fun _ => ⟨by omega, ?_⟩⟩
    intro S1 e1
    have a1 : S1.1 m 15 0 = op := by rw [e1]; simp [q_st, r4]
    rw [a1]
    intro S2 e2 S3 e3
    have hps : pstep (st, nd, op, cu, la, va, pa) c = some (0, nd, op + 1, nd - 1, la, va, pa) := by simp [pstep, hs, z, h4]
    refine h1 _ hps S3 (by rw [e3, e2, e1]; exact ((KM.rf.st (Or.inl ⟨rfl, by simp⟩)).st (Or.inl ⟨rfl, by simp⟩)).st (Or.inl ⟨rfl, by simp⟩)) (by rw [e3, e2, e1]; simp [q_st]) ?_
    refine ⟨by rw [e3]; simp [q_st], by rw [e3, e2, e1]; simp [q_st, r2, h4], by rw [e3, e2, e1]; simp [q_st, r3], by rw [e3, e2]; simp [q_st], ?_, ?_⟩
    · rw [show (op + 1).toNat = op.toNat + 1 by omega]
      refine ⟨by rw [e3, e2, e1]; simp [q_st, show ((op.toNat : Nat) : Int) = op by omega], by omega, by omega, ?_⟩
      rw [w12 (by omega)]
      refine psk_mono (Int.le_refl _) (fun j a b => rfl) _ _ (fun j j1 j2 => ?_) r5
      have : ¬ j = op := by omega
      rw [e3, e2, e1]
      simp [q_st, this]
    · intro k k1 k2
      have r6' := r6 k k1 k2
      rw [e3, e2, e1]
      simp [q_st, r6']
theorem s_Mo_isText {Λ : QLay} {m : Nat} {S : QMem} {Q : Int → QMem → Prop} {b : Int → Int} {len : Int} (hl : S.1 m 10 0 = len) (hl2 : 0 ≤ len ∧ len ≤ 100) (hb : ∀ k, 0 ≤ k → k < len → S.1 m 9 k = b k ∧ 0 ≤ b k ∧ b k ≤ 127) (la va pa : Int → Int)
    (hq : ∀ (S' : QMem), KM m S S' → RM m S' (prun b len.toNat 0 (p0 la va pa)).2 → S'.1 m 13 0 = (prun b len.toNat 0 (p0 la va pa)).1 → Q (if pans len (prun b len.toNat 0 (p0 la va pa)) = -15 then 1 else 0) S') : w_Mo_isText Λ m S Q := by
  unfold w_Mo_isText
  intro S1 e1 S2 e2 S3 e3 S4 e4 S5 e5
  have hk5 : KM m S S5 := by rw [e5, e4, e3, e2, e1]; exact ((((KM.rf.st (Or.inl ⟨rfl, by simp⟩)).st (Or.inl ⟨rfl, by simp⟩)).st (Or.inl ⟨rfl, by simp⟩)).st (Or.inl ⟨rfl, by simp⟩)).st (Or.inr (Or.inl ⟨rfl, rfl, rfl⟩))
  have hr5 : RM m S5 (p0 la va pa) := by
    rw [e5, e4, e3, e2, e1]
    exact ⟨by simp [q_st], by simp [q_st], by simp [q_st], by simp [q_st], rfl, fun k a b => by omega⟩
  have hp5 : S5.1 m 13 0 = 0 := by rw [e5, e4, e3, e2, e1]; simp [q_st]
  refine ⟨len.toNat + 2, ?_⟩
  have fin : ∀ (p : PS) (k i : Int) (S4 : QMem), wfP p → RM m S4 p → S4.1 m 13 0 = k → bl i → (i = 0 → ¬ (k = len ∧ p.2.2.1 = 0 ∧ ¬ p.1 = 0)) → (i = 1 → k = len) → Q (if pans len (k, p) = -15 then 1 else 0) S4 → 0 ≤ k → w_Mo_isText_113 Λ Q m i S4 := by
    intro p k i S4 hw hr hk hi hi0 hi1 hq hk0
    obtain ⟨st, nd, op, cu, la, va, pa⟩ := p
    obtain ⟨w1, w2, w3, w4, w5, w6, w6b, w7, -⟩ := hw
    obtain ⟨r1, r2, r3, r4, r5, r6⟩ := hr
    have op24 : op ≤ 24 := by
      have h9 := pch_le (fun j a b => (w7 j a b).2.2.1) _ _ w4
      by_cases z : op = 0
      · omega
      · have := pch_cu w4 (show op.toNat ≠ 0 by omega)
        omega
    have hno : ¬ (k = len ∧ op = 0 ∧ ¬ st = 0) → Q 0 S4 := fun z => by
      rw [pans_2 (r := (k, st, nd, op, cu, la, va, pa)) z, if_neg (show ¬ k = -15 by omega)] at hq
      exact hq
    have hyes : (k = len ∧ op = 0 ∧ ¬ st = 0) → Q 1 S4 := fun z => by
      rw [pans_1 (r := (k, st, nd, op, cu, la, va, pa)) z, if_pos rfl] at hq
      exact hq
    have hm : 0 ≤ (if st = 4 then 3 else st) ∧ (if st = 4 then 3 else st) ≤ 3 ∧ ((if st = 4 then 3 else st) = 0 ↔ st = 0) := by split <;> omega
    unfold w_Mo_isText_113
    rw [r1, r4]
    refine ⟨by rcases hi with rfl | rfl <;> unfold inR <;> omega, fun z => hno (hi0 z), fun z => ⟨by unfold inR; omega, fun z2 => hno (fun q => q.2.2 (by omega)), fun z2 => ⟨by unfold inR; omega, fun z3 => hno (fun q => z3 q.2.1), fun z3 => hyes ⟨hi1 (by rcases hi with h | h; exact absurd h z; exact h), z3, by omega⟩⟩⟩⟩
  have key : ∀ (n : Nat) (k : Int) (p : PS) (S4 : QMem), 0 ≤ k → k + n = len → wfP p → KM m S S4 → RM m S4 p → S4.1 m 13 0 = k → (∀ S', KM m S S' → RM m S' (prun b n k p).2 → S'.1 m 13 0 = (prun b n k p).1 → Q (if pans len (prun b n k p) = -15 then 1 else 0) S') → w_Mo_isText_29 Λ Q (n + 2) m 1 S4 := by
    intro n
    induction n with
    | zero =>
      intro k p S4 h0 h1 hw hk hr hpl hq
      have hl4 : S4.1 m 10 0 = len := by rw [hk.2.1 m 10 0 (by simp [PM]) (by simp) (by simp)]; exact hl
      rw [w_Mo_isText_29, hl4, hpl]
      have hkl : k = len := by omega
      refine ⟨by unfold inR; omega, fun z => absurd z (by decide), fun _ => ⟨by unfold inR; omega, by unfold inR; omega, fun _ => ?_, fun z => absurd (by omega) z⟩⟩
      exact fin p k 1 S4 hw hr hpl (Or.inr rfl) (fun z => absurd z (by decide)) (fun _ => hkl) (hq S4 hk hr hpl) h0
    | succ n ih =>
      intro k p S4 h0 h1 hw hk hr hpl hq
      have hl4 : S4.1 m 10 0 = len := by rw [hk.2.1 m 10 0 (by simp [PM]) (by simp) (by simp)]; exact hl
      have hbk := hb k h0 (by omega)
      have hb4 : S4.1 m 9 k = b k := by rw [hk.2.1 m 9 k (by simp [PM]) (by simp) (by simp)]; exact hbk.1
      rw [w_Mo_isText_29, hl4, hpl]
      refine ⟨by unfold inR; omega, fun z => absurd z (by decide), fun _ => ⟨by unfold inR; omega, by unfold inR; omega, fun z => absurd z (by omega), fun _ => ?_⟩⟩
      unfold w_Mo_here
      rw [hl4, hpl]
      refine ⟨by unfold inR; omega, by unfold inR; omega, fun z => absurd z (by omega), fun _ => ⟨by omega, ?_⟩⟩
      rw [hb4]
      -- the letter is taken
      have yes : ∀ p', pstep p (b k) = some p' → ∀ S', KM m S S' → S'.1 m 13 0 = k → RM m S' p' → w_Mo_isText_92 Λ (fun v0' v1' S' => w_Mo_isText_29 Λ Q (n + 2) v0' v1' S') Q m 1 S' := by
        intro p' hp S' hk' hpl' hr'
        unfold w_Mo_isText_92
        rw [hpl']
        refine ⟨by unfold inR; omega, fun z => absurd z (by decide), fun _ => ?_⟩
        intro S6 e6
        have e : prun b (n + 1) k p = prun b n (k + 1) p' := by rw [prun, hp]
        rw [e] at hq
        refine ih (k + 1) p' S6 (by omega) (by omega) (wfP_step hbk.2 hw hp) (by rw [e6]; exact hk'.st (Or.inl ⟨rfl, by simp⟩)) ?_ (by rw [e6]; simp [q_st]) hq
        obtain ⟨st, nd, op, cu, la, va, pa⟩ := p'
        obtain ⟨r1, r2, r3, r4, r5, r6⟩ := hr'
        rw [e6]
        refine ⟨by simp [q_st, r1], by simp [q_st, r2], by simp [q_st, r3], by simp [q_st, r4], ?_, fun q q1 q2 => by simp [q_st, r6 q q1 q2]⟩
        refine psk_mono (Int.le_refl _) (fun j a b => rfl) _ _ (fun j _ _ => ?_) r5
        simp [q_st]
      -- it isn't
      have no : pstep p (b k) = none → ∀ S', KM m S S' → S'.1 m 13 0 = k → RM m S' p → w_Mo_isText_92 Λ (fun v0' v1' S' => w_Mo_isText_29 Λ Q (n + 2) v0' v1' S') Q m 0 S' := by
        intro hp S' hk' hpl' hr'
        unfold w_Mo_isText_92
        rw [hpl']
        refine ⟨by unfold inR; omega, fun _ => ?_, fun z => absurd rfl z⟩
        intro S6 e6
        have e : prun b (n + 1) k p = (k, p) := by rw [prun, hp]
        rw [e] at hq
        have hk6 : KM m S S6 := by rw [e6]; exact hk'.st (Or.inl ⟨rfl, by simp⟩)
        have hpl6 : S6.1 m 13 0 = k := by rw [e6]; simp [q_st]
        have hr6 : RM m S6 p := by
          obtain ⟨st, nd, op, cu, la, va, pa⟩ := p
          obtain ⟨r1, r2, r3, r4, r5, r6⟩ := hr'
          rw [e6]
          refine ⟨by simp [q_st, r1], by simp [q_st, r2], by simp [q_st, r3], by simp [q_st, r4], ?_, fun q q1 q2 => by simp [q_st, r6 q q1 q2]⟩
          refine psk_mono (Int.le_refl _) (fun j a b => rfl) _ _ (fun j _ _ => ?_) r5
          simp [q_st]
        show w_Mo_isText_29 Λ Q (n + 2) m 0 S6
        rw [w_Mo_isText_29]
        refine ⟨by unfold inR; omega, fun _ => ?_, fun z => absurd rfl z⟩
        exact fin p k 0 S6 hw hr6 hpl6 (Or.inl rfl) (fun _ z => by omega) (fun z => absurd z (by decide)) (hq S6 hk6 hr6 hpl6) h0
      have hst : S4.1 m 16 0 = 0 ↔ p.1 = 0 := by
        obtain ⟨st, nd, op, cu, la, va, pa⟩ := p
        have h1 := hr.1
        rw [h1]
        show (if st = 4 then 3 else st) = 0 ↔ st = 0
        split <;> omega
      have hst2 : inR (S4.1 m 16 0) := by
        obtain ⟨st, nd, op, cu, la, va, pa⟩ := p
        have h1 := hr.1
        have h2 : 0 ≤ st ∧ st ≤ 4 := hw.1
        rw [h1]
        show inR (if st = 4 then 3 else st)
        unfold inR
        split <;> omega
      refine ⟨hst2, fun z => ?_, fun z => ?_⟩
      · have hs : ¬ p.1 = 0 := fun q => z (hst.mpr q)
        refine s_Mo_isDigitRead hw hr hs (by omega) (fun hd => ?_) (fun _ _ p' hp S' hk' hpl' hr' => ?_)
        · refine ⟨by unfold inR; omega, fun q => absurd rfl q, fun _ => ?_⟩
          refine s_Mo_isOther hw hr hs (by omega) hd (fun hp => ?_) (fun p' hp S' hk' hpl' hr' => ?_)
          · exact ⟨by unfold inR; omega, fun _ => no hp S4 hk hpl hr, fun q => absurd rfl q⟩
          · exact ⟨by unfold inR; omega, fun q => absurd q (by decide), fun _ => yes p' hp S' (hk.tr hk') (hpl'.trans hpl) hr'⟩
        · exact ⟨by unfold inR; omega, fun _ => yes p' hp S' (hk.tr hk') (hpl'.trans hpl) hr', fun q => absurd q (by decide)⟩
      · have hs : p.1 = 0 := hst.mp z
        intro S6 e6
        have hk6 : KM m S S6 := by rw [e6]; exact hk.st (Or.inl ⟨rfl, by simp⟩)
        have hpl6 : S6.1 m 13 0 = k := by rw [e6]; simp [q_st, hpl]
        have hr6 : RM m S6 p := by
          obtain ⟨st, nd, op, cu, la, va, pa⟩ := p
          obtain ⟨r1, r2, r3, r4, r5, r6⟩ := hr
          have hs : st = 0 := hs
          rw [e6]
          refine ⟨by simp [q_st, r1], by simp [q_st, hs], by simp [q_st, r3], by simp [q_st, r4], ?_, fun q q1 q2 => by simp [q_st, r6 q q1 q2]⟩
          refine psk_mono (Int.le_refl _) (fun j a b => rfl) _ _ (fun j _ _ => ?_) r5
          simp [q_st]
        refine s_Mo_isLabelRead hw hr6 hs (by omega) (fun hp => no hp S6 hk6 hpl6 hr6) (fun p' hp S' hk' hpl' hr' => yes p' hp S' (hk6.tr hk') (hpl'.trans hpl6) hr')
  exact key len.toNat 0 (p0 la va pa) S5 (by omega) (by omega) (wfP_0 _ _ _) hk5 hr5 hp5 hq
