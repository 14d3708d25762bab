/-! the class's own constructor -/
def SN (Λ : QLay) (S : QMem) (ix : Nat → Nat) (Λ' : QLay) (S' : QMem) (ix' : Nat → Nat) : Prop := Sub Λ S Λ' S' ∧ ∀ a, a ∈ yL Λ → ix' a = ix a
def ixM (Λ : QLay) (ix ix' : Nat → Nat) : Nat → Nat := fun a => if a ∈ yL Λ then ix a else ix' a
theorem SN_1 {Λ Λ' : QLay} {S S' : QMem} {ix ix' : Nat → Nat} : SN Λ S ix (lyM Λ Λ') (meM Λ S S') (ixM Λ ix ix') := ⟨Sub_1, fun _ h => if_pos h⟩
theorem SN_2 {Λ Λ' : QLay} {S S' : QMem} {ix ix' : Nat → Nat} (hd : Dj Λ Λ') : SN Λ' S' ix' (lyM Λ Λ') (meM Λ S S') (ixM Λ ix ix') := ⟨Sub_2 hd, fun a h => if_neg (fun z => hd a z h)⟩
theorem SN.tr {Λ Λ' X : QLay} {S S' T : QMem} {ix ix' ix2 : Nat → Nat} (h : SN Λ S ix Λ' S' ix') (h2 : SN Λ' S' ix' X T ix2) : SN Λ S ix X T ix2 := ⟨h.1.tr h2.1, fun a ha => (h2.2 a (h.1 a ha).1).trans (h.2 a ha)⟩
noncomputable def stN (g : Int → Nat) (a : Nat) : Nat := 100 + Classical.epsilon (fun i : Nat => i < 96 ∧ g (i : Int) = a)
theorem stN_at {g : Int → Nat} (hg : ∀ i j : Int, 0 ≤ i → i < 96 → 0 ≤ j → j < 96 → g i = g j → i = j) {i : Int} (i0 : 0 ≤ i) (i1 : i < 96) : stN g (g i) = 100 + i.toNat := by
  have h := Classical.epsilon_spec (p := fun k : Nat => k < 96 ∧ g (k : Int) = g i) ⟨i.toNat, by omega, by rw [show ((i.toNat : Nat) : Int) = i by omega]⟩
  have h2 := hg _ _ (by omega) (by have := h.1; omega) i0 i1 h.2
  unfold stN
  omega
def FNm (Λ : QLay) (T : Nat) (ix : Nat → Nat) : Prop := ix T = 0 ∧ ix (yR Λ T 0 0) = 2 ∧ ix (yR Λ T 1 0) = 3 ∧ ix (yR Λ T 2 0) = 4 ∧ ix (yR Λ T 2 1) = 5 ∧ ix (yR Λ T 4 0) = 6 ∧ ix (yR Λ T 5 0) = 7 ∧ ix (yR Λ T 6 0) = 8 ∧ ix (yR Λ T 7 0) = 9 ∧ ix (yR Λ T 8 0) = 10 ∧ ix (yR Λ (yR Λ T 5 0) 2 0) = 11 ∧ ix (yR Λ T 9 0) = 12 ∧ ix (yR Λ T 10 0) = 13 ∧ ix (yR Λ (yR Λ T 0 0) 2 0) = 14 ∧ ∀ i : Int, 0 ≤ i → i < 96 → ix (yR Λ (yR Λ T 5 0) 0 i) = 100 + i.toNat
def FVa (Λ : QLay) (T : Nat) (S : QMem) : Prop := S.1 (yR Λ T 0 0) 1 0 = 0 ∧ (cT S (S.2 (yR Λ T 1 0) 0) t00 ∧ cT S (S.2 (yR Λ T 1 0) 1) t00) ∧ (S.1 (yR Λ T 1 0) 2 0 = 2 ∧ S.1 (yR Λ T 1 0) 3 0 = 50) ∧ (S.1 T 3 0 = 0 ∧ S.1 T 3 1 = 0) ∧ (S.1 T 11 0 = 0 ∧ S.1 T 12 0 = -1 ∧ S.1 T 13 0 = 0) ∧ S.1 (yR Λ T 9 0) 1 0 = 0
def FTD (T : Nat) (Λ : QLay) (S : QMem) : Prop := nF 9 T Λ S ∧ (∃ ix : Nat → Nat, FNm Λ T ix ∧ iTR Λ T ix S) ∧ FVa Λ T S ∧ CW S (yR Λ T 7 0) (W0 t00)
theorem FTD_load {T : Nat} {Λ : QLay} {S S' : QMem} (hn : nF 9 T Λ S) (hi : ∃ ix : Nat → Nat, FNm Λ T ix ∧ iTR Λ T ix S) (hv : FVa Λ T S) (hk : Kp (fun o _ => o = yR Λ T 7 0) S S') (hok : okQ Λ Λ S') (hC : CW S' (yR Λ T 7 0) (W0 t00)) : FTD T Λ S' := by
  obtain ⟨ix, ⟨a0, a2, a3, a4, a5, a6, a7, a8, a9, a10, a11, a12, a13, a14, a15⟩, tr⟩ := hi
  obtain ⟨r0, r1, _⟩ := iTR_r tr
  have e : ∀ a f i, ix a ≠ 9 → S'.1 a f i = S.1 a f i := fun a f i h => hk.at (fun z => h (by rw [z]; exact a9))
  obtain ⟨v1, v2, v3, v4, v5, v6⟩ := hv
  refine ⟨⟨hn.1, hok, hn.2.2⟩, ⟨ix, ⟨a0, a2, a3, a4, a5, a6, a7, a8, a9, a10, a11, a12, a13, a14, a15⟩, iTR_sg hk.1 tr⟩, ⟨?_, ⟨?_, ?_⟩, ?_, ?_, ?_, ?_⟩, hC⟩
  · rw [e _ _ _ (by omega)]; exact v1
  · rw [hk.1]; exact cT_kp hk (fun f z => by have := congrArg ix z; omega) v2.1
  · rw [hk.1]; exact cT_kp hk (fun f z => by have := congrArg ix z; omega) v2.2
  · rw [e _ _ _ (by omega), e _ _ _ (by omega)]; exact v3
  · rw [e _ _ _ (by omega), e _ _ _ (by omega)]; exact v4
  · rw [e _ _ _ (by omega), e _ _ _ (by omega), e _ _ _ (by omega)]; exact v5
  · rw [e _ _ _ (by omega)]; exact v6
theorem rw9 : ∀ j, j < 14 → defaultValue (qt9 j) = vp_V [.null, .null, .null, .null, .null, .null, .null, .null, .null, .null, .null, vI 0, vI 0, vI 0] j
  | 0, _ => rfl
  | 1, _ => rfl
  | 2, _ => rfl
  | 3, _ => rfl
  | 4, _ => rfl
  | 5, _ => rfl
  | 6, _ => rfl
  | 7, _ => rfl
  | 8, _ => rfl
  | 9, _ => rfl
  | 10, _ => rfl
  | 11, _ => rfl
  | 12, _ => rfl
  | 13, _ => rfl
  | n + 14, h => absurd h (by omega)
set_option maxRecDepth 100000 in
set_option maxHeartbeats 4000000 in
theorem n_TD : QNt y_TD_init c_TD_init 2 3 60 254 5275 9 [.null, .null, .null, .null, .null, .null, .null, .null, .null, .null, .null, vI 0, vI 0, vI 0] (FTD) := by
  refine QNt.mk (own := "TreeDiffer") (by decide) rfl rfl (by decide) (fun Δ h0 G hG ret => ?_)
  refine np_aload_n (pc := 0) hG d_TD_init_0 rfl ?_
  refine np_objInit (pc := 1) hG m_18 (by decide) (by decide) d_TD_init_1 ?_
  refine np_aload_n (pc := 4) hG d_TD_init_4 rfl ?_
  refine np_make (pc := 5) hG n_Tx rfl qi6 qt6 qto6 rw6 m_21 m_22 m_2 m_25 m_24 (Or.inr (fun _ h => h.1)) (by decide +kernel) ⟨by decide, by decide⟩ (Nat.le_of_ble_eq_true rfl) (Nat.le_of_ble_eq_true rfl) (Nat.le_of_ble_eq_true rfl) d_TD_init_5 d_TD_init_8 d_TD_init_9 LyA_E (fun q1 L1 M1 f1 g1 j1 => ?_)
  have hL1 := LyA_M j1 LyA_E g1
  have c1 := acc_M j1 LyR_E (okQ_E (S := meE)) f1.1.1 f1.1.2.1
  have u1 := SN_1 (Λ := lyE) (Λ' := L1) (S := meE) (S' := M1) (ix := (fun _ => 0)) (ix' := fun a => if a = q1 then 2 else 14)
  have v1 := SN_2 (S := meE) (S' := M1) (ix := (fun _ => 0)) (ix' := fun a => if a = q1 then 2 else 14) j1
  generalize lyM lyE L1 = A1 at hL1 c1 u1 v1 ⊢
  generalize meM lyE meE M1 = S1 at c1 u1 v1 ⊢
  generalize ixM lyE (fun _ => 0) (fun a => if a = q1 then 2 else 14) = ix1 at u1 v1
  refine np_put (pc := 12) (k := 9) (ty := qt9 0) hG rfl qi9 qt9 qto9 qn9 0 (by decide) rfl m_326 (qto9 0 (by decide)) rfl rfl (Nat.le_of_ble_eq_true rfl) d_TD_init_12 ?_
  refine np_aload_n (pc := 15) hG d_TD_init_15 rfl ?_
  refine np_make (pc := 16) hG n_Se rfl qi4 qt4 qto4 rw4 m_120 m_121 m_4 m_124 m_123 (Or.inr (fun _ h => h.2.1)) (by decide +kernel) ⟨by decide, by decide⟩ (Nat.le_of_ble_eq_true rfl) (Nat.le_of_ble_eq_true rfl) (Nat.le_of_ble_eq_true rfl) d_TD_init_16 d_TD_init_19 d_TD_init_20 hL1 (fun q2 L2 M2 f2 g2 j2 => ?_)
  have hL2 := LyA_M j2 hL1 g2
  have c2 := acc_M j2 c1.1 c1.2 f2.1.1 f2.1.2.1
  have u2 := SN_1 (Λ := A1) (Λ' := L2) (S := S1) (S' := M2) (ix := ix1) (ix' := fun a => if a = q2 then 3 else if a = M2.2 q2 0 then 15 else 16)
  have v2 := SN_2 (S := S1) (S' := M2) (ix := ix1) (ix' := fun a => if a = q2 then 3 else if a = M2.2 q2 0 then 15 else 16) j2
  generalize lyM A1 L2 = A2 at hL2 c2 u2 v2 ⊢
  generalize meM A1 S1 M2 = S2 at c2 u2 v2 ⊢
  generalize ixM A1 ix1 (fun a => if a = q2 then 3 else if a = M2.2 q2 0 then 15 else 16) = ix2 at u2 v2
  refine np_put (pc := 23) (k := 9) (ty := qt9 1) hG rfl qi9 qt9 qto9 qn9 1 (by decide) rfl m_327 (qto9 1 (by decide)) rfl rfl (Nat.le_of_ble_eq_true rfl) d_TD_init_23 ?_
  refine np_aload_n (pc := 26) hG d_TD_init_26 rfl ?_
  refine np_iconst (pc := 27) hG d_TD_init_27 ?_
  refine np_newA (pc := 28) (N := 2) (j := 2) (C := "TreeDiffer$Setup") hG (Or.inl ⟨rfl, rfl⟩) m_120 rfl (by decide) (Nat.le_of_ble_eq_true rfl) (Nat.le_of_ble_eq_true rfl) d_TD_init_28 (fun a1 => ?_)
  refine np_put (pc := 31) (k := 9) (ty := qt9 2) hG rfl qi9 qt9 qto9 qn9 2 (by decide) rfl m_328 (qto9 2 (by decide)) rfl rfl (Nat.le_of_ble_eq_true rfl) d_TD_init_31 ?_
  refine np_iconst (pc := 34) hG d_TD_init_34 ?_
  refine np_istore_n (pc := 35) (lv' := [(0, .ref h0), (1, vI 0)]) hG d_TD_init_35 (by decide) rfl ?_
  refine np_iload_n (pc := 36) hG d_TD_init_36 rfl ?_
  refine np_iconst (pc := 37) hG d_TD_init_37 ?_
  refine np_icmp_ge (pc := 38) (tgt := 60) hG d_TD_init_38 (by decide) (by unfold inR; omega) (by unfold inR; omega) (fun h => absurd h (by decide)) (fun _ => ?_)
  refine np_aload_n (pc := 41) hG d_TD_init_41 rfl ?_
  refine np_get (pc := 42) (k := 9) hG rfl qi9 2 (by decide) m_328 rfl d_TD_init_42 ?_
  refine np_iload_n (pc := 45) hG d_TD_init_45 rfl ?_
  refine np_make (pc := 46) hG n_Se rfl qi4 qt4 qto4 rw4 m_120 m_121 m_4 m_124 m_123 (Or.inr (fun _ h => h.2.1)) (by decide +kernel) ⟨by decide, by decide⟩ (Nat.le_of_ble_eq_true rfl) (Nat.le_of_ble_eq_true rfl) (Nat.le_of_ble_eq_true rfl) d_TD_init_46 d_TD_init_49 d_TD_init_50 hL2 (fun q3 L3 M3 f3 g3 j3 => ?_)
  have hL3 := LyA_M j3 hL2 g3
  have c3 := acc_M j3 c2.1 c2.2 f3.1.1 f3.1.2.1
  have u3 := SN_1 (Λ := A2) (Λ' := L3) (S := S2) (S' := M3) (ix := ix2) (ix' := fun a => if a = q3 then 4 else if a = M3.2 q3 0 then 17 else 18)
  have v3 := SN_2 (S := S2) (S' := M3) (ix := ix2) (ix' := fun a => if a = q3 then 4 else if a = M3.2 q3 0 then 17 else 18) j3
  generalize lyM A2 L3 = A3 at hL3 c3 u3 v3 ⊢
  generalize meM A2 S2 M3 = S3 at c3 u3 v3 ⊢
  generalize ixM A2 ix2 (fun a => if a = q3 then 4 else if a = M3.2 q3 0 then 17 else 18) = ix3 at u3 v3
  refine np_aast (pc := 53) (q0 := 1) (j := 2) (kv := 4) hG (Or.inl ⟨rfl, rfl⟩) rfl (v3.1.qob f3.1.2.2) ⟨by decide, by decide⟩ (by decide) d_TD_init_53 ?_
  refine np_iinc (pc := 54) (lv' := [(0, .ref h0), (1, vI 1)]) hG d_TD_init_54 rfl (by decide) rfl ?_
  refine np_goto (pc := 57) (tgt := 36) hG d_TD_init_57 (by decide) ?_
  refine np_iload_n (pc := 36) hG d_TD_init_36 rfl ?_
  refine np_iconst (pc := 37) hG d_TD_init_37 ?_
  refine np_icmp_ge (pc := 38) (tgt := 60) hG d_TD_init_38 (by decide) (by unfold inR; omega) (by unfold inR; omega) (fun h => absurd h (by decide)) (fun _ => ?_)
  refine np_aload_n (pc := 41) hG d_TD_init_41 rfl ?_
  refine np_get (pc := 42) (k := 9) hG rfl qi9 2 (by decide) m_328 rfl d_TD_init_42 ?_
  refine np_iload_n (pc := 45) hG d_TD_init_45 rfl ?_
  refine np_make (pc := 46) hG n_Se rfl qi4 qt4 qto4 rw4 m_120 m_121 m_4 m_124 m_123 (Or.inr (fun _ h => h.2.1)) (by decide +kernel) ⟨by decide, by decide⟩ (Nat.le_of_ble_eq_true rfl) (Nat.le_of_ble_eq_true rfl) (Nat.le_of_ble_eq_true rfl) d_TD_init_46 d_TD_init_49 d_TD_init_50 hL3 (fun q4 L4 M4 f4 g4 j4 => ?_)
  have hL4 := LyA_M j4 hL3 g4
  have c4 := acc_M j4 c3.1 c3.2 f4.1.1 f4.1.2.1
  have u4 := SN_1 (Λ := A3) (Λ' := L4) (S := S3) (S' := M4) (ix := ix3) (ix' := fun a => if a = q4 then 5 else if a = M4.2 q4 0 then 19 else 20)
  have v4 := SN_2 (S := S3) (S' := M4) (ix := ix3) (ix' := fun a => if a = q4 then 5 else if a = M4.2 q4 0 then 19 else 20) j4
  generalize lyM A3 L4 = A4 at hL4 c4 u4 v4 ⊢
  generalize meM A3 S3 M4 = S4 at c4 u4 v4 ⊢
  generalize ixM A3 ix3 (fun a => if a = q4 then 5 else if a = M4.2 q4 0 then 19 else 20) = ix4 at u4 v4
  refine np_aast (pc := 53) (q0 := 1) (j := 2) (kv := 4) hG (Or.inl ⟨rfl, rfl⟩) rfl (v4.1.qob f4.1.2.2) ⟨by decide, by decide⟩ (by decide) d_TD_init_53 ?_
  refine np_iinc (pc := 54) (lv' := [(0, .ref h0), (1, vI 2)]) hG d_TD_init_54 rfl (by decide) rfl ?_
  refine np_goto (pc := 57) (tgt := 36) hG d_TD_init_57 (by decide) ?_
  refine np_iload_n (pc := 36) hG d_TD_init_36 rfl ?_
  refine np_iconst (pc := 37) hG d_TD_init_37 ?_
  refine np_icmp_ge (pc := 38) (tgt := 60) hG d_TD_init_38 (by decide) (by unfold inR; omega) (by unfold inR; omega) (fun _ => ?_) (fun h => absurd (by decide) h)
  refine np_aload_n (pc := 60) hG d_TD_init_60 rfl ?_
  refine np_iconst (pc := 61) hG d_TD_init_61 ?_
  refine np_newZ (pc := 62) (N := 2) hG rfl (by decide) (Nat.le_of_ble_eq_true rfl) (Nat.le_of_ble_eq_true rfl) d_TD_init_62 (fun a2 => ?_)
  refine np_put (pc := 64) (k := 9) (ty := qt9 3) hG rfl qi9 qt9 qto9 qn9 3 (by decide) rfl m_329 (qto9 3 (by decide)) rfl rfl (Nat.le_of_ble_eq_true rfl) d_TD_init_64 ?_
  refine np_aload_n (pc := 67) hG d_TD_init_67 rfl ?_
  refine np_make (pc := 68) hG n_Ma rfl qi1 qt1 qto1 rw1 m_154 m_155 m_5 m_158 m_157 (Or.inr (fun _ h => h.2.2.1)) (by decide +kernel) ⟨by decide, by decide⟩ (Nat.le_of_ble_eq_true rfl) (Nat.le_of_ble_eq_true rfl) (Nat.le_of_ble_eq_true rfl) d_TD_init_68 d_TD_init_71 d_TD_init_72 hL4 (fun q5 L5 M5 f5 g5 j5 => ?_)
  have hL5 := LyA_M j5 hL4 g5
  have c5 := acc_M j5 c4.1 c4.2 f5.1 f5.2.1
  have u5 := SN_1 (Λ := A4) (Λ' := L5) (S := S4) (S' := M5) (ix := ix4) (ix' := fun _ => 6)
  have v5 := SN_2 (S := S4) (S' := M5) (ix := ix4) (ix' := fun _ => 6) j5
  generalize lyM A4 L5 = A5 at hL5 c5 u5 v5 ⊢
  generalize meM A4 S4 M5 = S5 at c5 u5 v5 ⊢
  generalize ixM A4 ix4 (fun _ => 6) = ix5 at u5 v5
  refine np_put (pc := 75) (k := 9) (ty := qt9 4) hG rfl qi9 qt9 qto9 qn9 4 (by decide) rfl m_330 (qto9 4 (by decide)) rfl rfl (Nat.le_of_ble_eq_true rfl) d_TD_init_75 ?_
  refine np_aload_n (pc := 78) hG d_TD_init_78 rfl ?_
  refine np_make (pc := 79) hG n_Sc rfl qi3 qt3 qto3 rw3 m_180 m_181 m_6 m_184 m_183 (Or.inl m_182) (by decide +kernel) ⟨by decide, by decide⟩ (Nat.le_of_ble_eq_true rfl) (Nat.le_of_ble_eq_true rfl) (Nat.le_of_ble_eq_true rfl) d_TD_init_79 d_TD_init_82 d_TD_init_83 hL5 (fun q6 L6 M6 f6 g6 j6 => ?_)
  have hL6 := LyA_M j6 hL5 g6
  have c6 := acc_M j6 c5.1 c5.2 f6.1.1 f6.1.2.1
  have u6 := SN_1 (Λ := A5) (Λ' := L6) (S := S5) (S' := M6) (ix := ix5) (ix' := fun a => if a = q6 then 7 else if a = yR L6 q6 2 0 then 11 else stN (fun i => yR L6 q6 0 i) a)
  have v6 := SN_2 (S := S5) (S' := M6) (ix := ix5) (ix' := fun a => if a = q6 then 7 else if a = yR L6 q6 2 0 then 11 else stN (fun i => yR L6 q6 0 i) a) j6
  generalize lyM A5 L6 = A6 at hL6 c6 u6 v6 ⊢
  generalize meM A5 S5 M6 = S6 at c6 u6 v6 ⊢
  generalize ixM A5 ix5 (fun a => if a = q6 then 7 else if a = yR L6 q6 2 0 then 11 else stN (fun i => yR L6 q6 0 i) a) = ix6 at u6 v6
  refine np_put (pc := 86) (k := 9) (ty := qt9 5) hG rfl qi9 qt9 qto9 qn9 5 (by decide) rfl m_331 (qto9 5 (by decide)) rfl rfl (Nat.le_of_ble_eq_true rfl) d_TD_init_86 ?_
  refine np_aload_n (pc := 89) hG d_TD_init_89 rfl ?_
  refine np_make (pc := 90) hG n_ED rfl qi0 qt0 qto0 rw0 m_290 m_291 m_9 m_294 m_293 (Or.inr (fun _ h => h.2.2.2.2.2.1)) (by decide +kernel) ⟨by decide, by decide⟩ (Nat.le_of_ble_eq_true rfl) (Nat.le_of_ble_eq_true rfl) (Nat.le_of_ble_eq_true rfl) d_TD_init_90 d_TD_init_93 d_TD_init_94 hL6 (fun q7 L7 M7 f7 g7 j7 => ?_)
  have hL7 := LyA_M j7 hL6 g7
  have c7 := acc_M j7 c6.1 c6.2 f7.1 f7.2.1
  have u7 := SN_1 (Λ := A6) (Λ' := L7) (S := S6) (S' := M7) (ix := ix6) (ix' := fun _ => 8)
  have v7 := SN_2 (S := S6) (S' := M7) (ix := ix6) (ix' := fun _ => 8) j7
  generalize lyM A6 L7 = A7 at hL7 c7 u7 v7 ⊢
  generalize meM A6 S6 M7 = S7 at c7 u7 v7 ⊢
  generalize ixM A6 ix6 (fun _ => 8) = ix7 at u7 v7
  refine np_put (pc := 97) (k := 9) (ty := qt9 6) hG rfl qi9 qt9 qto9 qn9 6 (by decide) rfl m_332 (qto9 6 (by decide)) rfl rfl (Nat.le_of_ble_eq_true rfl) d_TD_init_97 ?_
  refine np_aload_n (pc := 100) hG d_TD_init_100 rfl ?_
  refine np_make (pc := 101) hG n_Wt rfl qi8 qt8 qto8 rw8 m_305 m_189 m_7 m_192 m_191 (Or.inr (fun _ h => h.2.2.2.2.2.2.1)) (by decide +kernel) ⟨by decide, by decide⟩ (Nat.le_of_ble_eq_true rfl) (Nat.le_of_ble_eq_true rfl) (Nat.le_of_ble_eq_true rfl) d_TD_init_101 d_TD_init_104 d_TD_init_105 hL7 (fun q8 L8 M8 f8 g8 j8 => ?_)
  have hL8 := LyA_M j8 hL7 g8
  have c8 := acc_M j8 c7.1 c7.2 f8.1 f8.2.1
  have u8 := SN_1 (Λ := A7) (Λ' := L8) (S := S7) (S' := M8) (ix := ix7) (ix' := fun _ => 9)
  have v8 := SN_2 (S := S7) (S' := M8) (ix := ix7) (ix' := fun _ => 9) j8
  generalize lyM A7 L8 = A8 at hL8 c8 u8 v8 ⊢
  generalize meM A7 S7 M8 = S8 at c8 u8 v8 ⊢
  generalize ixM A7 ix7 (fun _ => 9) = ix8 at u8 v8
  refine np_put (pc := 108) (k := 9) (ty := qt9 7) hG rfl qi9 qt9 qto9 qn9 7 (by decide) rfl m_333 (qto9 7 (by decide)) rfl rfl (Nat.le_of_ble_eq_true rfl) d_TD_init_108 ?_
  refine np_aload_n (pc := 111) hG d_TD_init_111 rfl ?_
  refine np_make (pc := 112) hG n_Wt rfl qi8 qt8 qto8 rw8 m_305 m_189 m_7 m_192 m_191 (Or.inr (fun _ h => h.2.2.2.2.2.2.1)) (by decide +kernel) ⟨by decide, by decide⟩ (Nat.le_of_ble_eq_true rfl) (Nat.le_of_ble_eq_true rfl) (Nat.le_of_ble_eq_true rfl) d_TD_init_112 d_TD_init_115 d_TD_init_116 hL8 (fun q9 L9 M9 f9 g9 j9 => ?_)
  have hL9 := LyA_M j9 hL8 g9
  have c9 := acc_M j9 c8.1 c8.2 f9.1 f9.2.1
  have u9 := SN_1 (Λ := A8) (Λ' := L9) (S := S8) (S' := M9) (ix := ix8) (ix' := fun _ => 10)
  have v9 := SN_2 (S := S8) (S' := M9) (ix := ix8) (ix' := fun _ => 10) j9
  generalize lyM A8 L9 = A9 at hL9 c9 u9 v9 ⊢
  generalize meM A8 S8 M9 = S9 at c9 u9 v9 ⊢
  generalize ixM A8 ix8 (fun _ => 10) = ix9 at u9 v9
  refine np_put (pc := 119) (k := 9) (ty := qt9 8) hG rfl qi9 qt9 qto9 qn9 8 (by decide) rfl m_334 (qto9 8 (by decide)) rfl rfl (Nat.le_of_ble_eq_true rfl) d_TD_init_119 ?_
  refine np_aload_n (pc := 122) hG d_TD_init_122 rfl ?_
  refine np_make (pc := 123) hG n_Ou rfl qi2 qt2 qto2 rw2 m_307 m_308 m_10 m_311 m_310 (Or.inr (fun _ h => h.2.2.2.2.2.2.2.1)) (by decide +kernel) ⟨by decide, by decide⟩ (Nat.le_of_ble_eq_true rfl) (Nat.le_of_ble_eq_true rfl) (Nat.le_of_ble_eq_true rfl) d_TD_init_123 d_TD_init_126 d_TD_init_127 hL9 (fun q10 L10 M10 f10 g10 j10 => ?_)
  have hL10 := LyA_M j10 hL9 g10
  have c10 := acc_M j10 c9.1 c9.2 f10.1.1 f10.1.2.1
  have u10 := SN_1 (Λ := A9) (Λ' := L10) (S := S9) (S' := M10) (ix := ix9) (ix' := fun _ => 12)
  have v10 := SN_2 (S := S9) (S' := M10) (ix := ix9) (ix' := fun _ => 12) j10
  generalize lyM A9 L10 = A10 at hL10 c10 u10 v10 ⊢
  generalize meM A9 S9 M10 = S10 at c10 u10 v10 ⊢
  generalize ixM A9 ix9 (fun _ => 12) = ix10 at u10 v10
  refine np_put (pc := 130) (k := 9) (ty := qt9 9) hG rfl qi9 qt9 qto9 qn9 9 (by decide) rfl m_335 (qto9 9 (by decide)) rfl rfl (Nat.le_of_ble_eq_true rfl) d_TD_init_130 ?_
  refine np_aload_n (pc := 133) hG d_TD_init_133 rfl ?_
  refine np_make (pc := 134) hG n_Ou rfl qi2 qt2 qto2 rw2 m_307 m_308 m_10 m_311 m_310 (Or.inr (fun _ h => h.2.2.2.2.2.2.2.1)) (by decide +kernel) ⟨by decide, by decide⟩ (Nat.le_of_ble_eq_true rfl) (Nat.le_of_ble_eq_true rfl) (Nat.le_of_ble_eq_true rfl) d_TD_init_134 d_TD_init_137 d_TD_init_138 hL10 (fun q11 L11 M11 f11 g11 j11 => ?_)
  have hL11 := LyA_M j11 hL10 g11
  have c11 := acc_M j11 c10.1 c10.2 f11.1.1 f11.1.2.1
  have u11 := SN_1 (Λ := A10) (Λ' := L11) (S := S10) (S' := M11) (ix := ix10) (ix' := fun _ => 13)
  have v11 := SN_2 (S := S10) (S' := M11) (ix := ix10) (ix' := fun _ => 13) j11
  generalize lyM A10 L11 = A11 at hL11 c11 u11 v11 ⊢
  generalize meM A10 S10 M11 = S11 at c11 u11 v11 ⊢
  generalize ixM A10 ix10 (fun _ => 13) = ix11 at u11 v11
  refine np_put (pc := 141) (k := 9) (ty := qt9 10) hG rfl qi9 qt9 qto9 qn9 10 (by decide) rfl m_336 (qto9 10 (by decide)) rfl rfl (Nat.le_of_ble_eq_true rfl) d_TD_init_141 ?_
  refine np_aload_n (pc := 144) hG d_TD_init_144 rfl ?_
  refine np_iconst (pc := 145) hG d_TD_init_145 ?_
  refine np_put (pc := 146) (k := 9) (ty := qt9 11) hG rfl qi9 qt9 qto9 qn9 11 (by decide) rfl m_337 (qto9 11 (by decide)) (q_nb (Or.inl rfl)).1 (q_nb (Or.inl rfl)).2 (Nat.le_of_ble_eq_true rfl) d_TD_init_146 ?_
  refine np_aload_n (pc := 149) hG d_TD_init_149 rfl ?_
  refine np_iconst (pc := 150) hG d_TD_init_150 ?_
  refine np_put (pc := 151) (k := 9) (ty := qt9 12) hG rfl qi9 qt9 qto9 qn9 12 (by decide) rfl m_338 (qto9 12 (by decide)) rfl rfl (Nat.le_of_ble_eq_true rfl) d_TD_init_151 ?_
  refine np_aload_n (pc := 154) hG d_TD_init_154 rfl ?_
  refine np_iconst (pc := 155) hG d_TD_init_155 ?_
  refine np_put (pc := 156) (k := 9) (ty := qt9 13) hG rfl qi9 qt9 qto9 qn9 13 (by decide) rfl m_339 (qto9 13 (by decide)) rfl rfl (Nat.le_of_ble_eq_true rfl) d_TD_init_156 ?_
  refine np_refs hG 1 (fun j => some (if (j : Int) = 0 then q3 else q4)) rfl (fun j hj => by have hj : j < 2 := hj; match j, hj with | 0, _ => rfl | 1, _ => rfl | _ + 2, h => exact absurd h (by omega)) ?_
  refine np_obj (k := 9) (h0 := h0) (as := [(2, a1, 13, 2), (3, a2, 12, 2)]) (rf := (fun (f : Nat) (i : Int) => match f with | 0 => q1 | 1 => q2 | 2 => (if i = 0 then q3 else q4) | 4 => q5 | 5 => q6 | 6 => q7 | 7 => q8 | 8 => q9 | 9 => q10 | _ => q11)) (S0 := ((fun _ f _ => match f with | 12 => -1 | _ => 0, fun _ _ => 0) : QMem)) hG (k2_of [(2, 13, 2), (3, 12, 2)] rfl (by decide)) rfl (lyA_ob [(2, 13, 2), (3, 12, 2)] rfl (by decide) (by decide) (k2_of [(2, 13, 2), (3, 12, 2)] rfl (by decide)) (c1_of [(2, 13, 2), (3, 12, 2)] rfl (by decide)) (c2_no (by decide))) hL11 (fun hn hd hLo => ?_)
  have e1 := ((((((((((v1.tr u2).tr u3).tr u4).tr u5).tr u6).tr u7).tr u8).tr u9).tr u10).tr u11)
  have e2 := (((((((((v2.tr u3).tr u4).tr u5).tr u6).tr u7).tr u8).tr u9).tr u10).tr u11)
  have e3 := ((((((((v3.tr u4).tr u5).tr u6).tr u7).tr u8).tr u9).tr u10).tr u11)
  have e4 := (((((((v4.tr u5).tr u6).tr u7).tr u8).tr u9).tr u10).tr u11)
  have e5 := ((((((v5.tr u6).tr u7).tr u8).tr u9).tr u10).tr u11)
  have e6 := (((((v6.tr u7).tr u8).tr u9).tr u10).tr u11)
  have e7 := ((((v7.tr u8).tr u9).tr u10).tr u11)
  have e8 := (((v8.tr u9).tr u10).tr u11)
  have e9 := ((v9.tr u10).tr u11)
  have e10 := (v10.tr u11)
  have e11 := v11
  have hF := nF_ob (S0 := ((fun _ f _ => match f with | 12 => -1 | _ => 0, fun _ _ => 0) : QMem)) (rf := (fun (f : Nat) (i : Int) => match f with | 0 => q1 | 1 => q2 | 2 => (if i = 0 then q3 else q4) | 4 => q5 | 5 => q6 | 6 => q7 | 7 => q8 | 8 => q9 | 9 => q10 | _ => q11)) hn hd (k2_of [(2, 13, 2), (3, 12, 2)] rfl (by decide)) c11.1 c11.2 (fun f i h _ _ => match f, h with | 0, _ => e1.1.qob f1.1.2.2 | 1, _ => e2.1.qob f2.1.2.2 | 2, _ => (by show qob A11 4 (if i = 0 then q3 else q4); split; exact e3.1.qob f3.1.2.2; exact e4.1.qob f4.1.2.2) | 3, h => absurd rfl h | 4, _ => e5.1.qob f5.2.2 | 5, _ => e6.1.qob f6.1.2.2 | 6, _ => e7.1.qob f7.2.2 | 7, _ => e8.1.qob f8.2.2 | 8, _ => e9.1.qob f9.2.2 | 9, _ => e10.1.qob f10.1.2.2 | 10, _ => e11.1.qob f11.1.2.2 | _ + 11, h => absurd rfl h) (fun h => absurd h (by decide))
  have x := SN_2 (S := ((fun _ f _ => match f with | 12 => -1 | _ => 0, fun _ _ => 0) : QMem)) (S' := S11) (ix := fun _ => 0) (ix' := ix11) hd
  have d1 := e1.tr x
  have d2 := e2.tr x
  have d3 := e3.tr x
  have d4 := e4.tr x
  have d5 := e5.tr x
  have d6 := e6.tr x
  have d7 := e7.tr x
  have d8 := e8.tr x
  have d9 := e9.tr x
  have d10 := e10.tr x
  have d11 := e11.tr x
  have hT : ixM (obL 9 h0 [(2, a1, 13, 2), (3, a2, 12, 2)] (fun (f : Nat) (i : Int) => match f with | 0 => q1 | 1 => q2 | 2 => (if i = 0 then q3 else q4) | 4 => q5 | 5 => q6 | 6 => q7 | 7 => q8 | 8 => q9 | 9 => q10 | _ => q11)) (fun _ => 0) ix11 h0 = 0 := if_pos List.mem_cons_self
  have rT : ∀ (f : Nat) (i : Int), yR (lyM (obL 9 h0 [(2, a1, 13, 2), (3, a2, 12, 2)] (fun (f : Nat) (i : Int) => match f with | 0 => q1 | 1 => q2 | 2 => (if i = 0 then q3 else q4) | 4 => q5 | 5 => q6 | 6 => q7 | 7 => q8 | 8 => q9 | 9 => q10 | _ => q11)) A11) h0 f i = (fun (f : Nat) (i : Int) => match f with | 0 => q1 | 1 => q2 | 2 => (if i = 0 then q3 else q4) | 4 => q5 | 5 => q6 | 6 => q7 | 7 => q8 | 8 => q9 | 9 => q10 | _ => q11) f i := fun f i => ob_R
  have sT : ∀ (f : Nat) (i : Int), (meM (obL 9 h0 [(2, a1, 13, 2), (3, a2, 12, 2)] (fun (f : Nat) (i : Int) => match f with | 0 => q1 | 1 => q2 | 2 => (if i = 0 then q3 else q4) | 4 => q5 | 5 => q6 | 6 => q7 | 7 => q8 | 8 => q9 | 9 => q10 | _ => q11)) ((fun _ f _ => match f with | 12 => -1 | _ => 0, fun _ _ => 0) : QMem) S11).1 h0 f i = (match f with | 12 => -1 | _ => 0) := fun f i => ob_S
  have hLA := LyA_M hd hLo hL11
  have hLy := LyOk hLA hF.1
  generalize lyM (obL 9 h0 [(2, a1, 13, 2), (3, a2, 12, 2)] (fun (f : Nat) (i : Int) => match f with | 0 => q1 | 1 => q2 | 2 => (if i = 0 then q3 else q4) | 4 => q5 | 5 => q6 | 6 => q7 | 7 => q8 | 8 => q9 | 9 => q10 | _ => q11)) A11 = Λ at hF hLA hLy rT d1 d2 d3 d4 d5 d6 d7 d8 d9 d10 d11 ⊢
  generalize meM (obL 9 h0 [(2, a1, 13, 2), (3, a2, 12, 2)] (fun (f : Nat) (i : Int) => match f with | 0 => q1 | 1 => q2 | 2 => (if i = 0 then q3 else q4) | 4 => q5 | 5 => q6 | 6 => q7 | 7 => q8 | 8 => q9 | 9 => q10 | _ => q11)) ((fun _ f _ => match f with | 12 => -1 | _ => 0, fun _ _ => 0) : QMem) S11 = S at hF sT d1 d2 d3 d4 d5 d6 d7 d8 d9 d10 d11 ⊢
  generalize ixM (obL 9 h0 [(2, a1, 13, 2), (3, a2, 12, 2)] (fun (f : Nat) (i : Int) => match f with | 0 => q1 | 1 => q2 | 2 => (if i = 0 then q3 else q4) | 4 => q5 | 5 => q6 | 6 => q7 | 7 => q8 | 8 => q9 | 9 => q10 | _ => q11)) (fun _ => 0) ix11 = ix at hT d1 d2 d3 d4 d5 d6 d7 d8 d9 d10 d11
  have r0 : yR Λ h0 0 0 = q1 := rT 0 0
  have r1 : yR Λ h0 1 0 = q2 := rT 1 0
  have r20 : yR Λ h0 2 0 = q3 := rT 2 0
  have r21 : yR Λ h0 2 1 = q4 := rT 2 1
  have r4 : yR Λ h0 4 0 = q5 := rT 4 0
  have r5 : yR Λ h0 5 0 = q6 := rT 5 0
  have r6 : yR Λ h0 6 0 = q7 := rT 6 0
  have r7 : yR Λ h0 7 0 = q8 := rT 7 0
  have r8 : yR Λ h0 8 0 = q9 := rT 8 0
  have r9 : yR Λ h0 9 0 = q10 := rT 9 0
  have r10 : yR Λ h0 10 0 = q11 := rT 10 0
  have m1 := f1.1.2.2.1
  have m2 := f2.1.2.2.1
  have m3 := f3.1.2.2.1
  have m4 := f4.1.2.2.1
  have m5 := f5.2.2.1
  have m6 := f6.1.2.2.1
  have m7 := f7.2.2.1
  have m8 := f8.2.2.1
  have m9 := f9.2.2.1
  have m10 := f10.1.2.2.1
  have m11 := f11.1.2.2.1
  have tr1 : qob L1 7 (yR L1 q1 2 0) := q_rf (LyOk g1 f1.1.1) f1.1.2.2 rfl ⟨by decide, by decide⟩
  have cp6 : qob L6 8 (yR L6 q6 2 0) := q_rf (LyOk g6 f6.1.1) f6.1.2.2 rfl ⟨by decide, by decide⟩
  have st6 : ∀ i : Int, 0 ≤ i → i < 96 → qob L6 5 (yR L6 q6 0 i) := fun i i0 i1 => q_rf (LyOk g6 f6.1.1) f6.1.2.2 rfl ⟨i0, i1⟩
  have se : ∀ {L : QLay} {M : QMem} {q a b c : Nat} {X : Nat → Nat}, nF 4 q L M → M.2 q 0 ≠ M.2 q 1 → SN L M (fun x => if x = q then a else if x = M.2 q 0 then b else c) Λ S X → X q = a ∧ X (S.2 q 0) = b ∧ X (S.2 q 1) = c := fun {L M q a b c X} hf hne hs => by
    have ok := hf.2.1 q hf.2.2
    have n0 : ¬ M.2 q 0 = q := qob_ne ok.1 hf.2.2 (by decide)
    have n1 : ¬ M.2 q 1 = q := qob_ne ok.2 hf.2.2 (by decide)
    have p := (hs.1 q hf.2.2.1).2.2.2.1
    refine ⟨(hs.2 q hf.2.2.1).trans (if_pos rfl), ?_, ?_⟩
    · rw [p 0]
      exact (hs.2 _ ok.1.1).trans (by show (if M.2 q 0 = q then a else if M.2 q 0 = M.2 q 0 then b else c) = b; rw [if_neg n0, if_pos rfl])
    · rw [p 1]
      exact (hs.2 _ ok.2.1).trans (by show (if M.2 q 1 = q then a else if M.2 q 1 = M.2 q 0 then b else c) = c; rw [if_neg n1, if_neg (fun z => hne z.symm)])
  have k2 := se f2.1 f2.2.2.2 d2
  have k3 := se f3.1 f3.2.2.2 d3
  have k4 := se f4.1 f4.2.2.2 d4
  have hi : ∃ ix : Nat → Nat, FNm Λ h0 ix ∧ iTR Λ h0 ix S := by
    refine ⟨ix, ⟨hT, ?_, ?_, ?_, ?_, ?_, ?_, ?_, ?_, ?_, ?_, ?_, ?_, ?_, fun i i0 i1 => ?_⟩, ?_⟩
    · rw [r0]; exact (d1.2 _ m1).trans (if_pos rfl)
    · rw [r1]; exact k2.1
    · rw [r20]; exact k3.1
    · rw [r21]; exact k4.1
    · rw [r4]; exact d5.2 _ m5
    · rw [r5]; exact (d6.2 _ m6).trans (if_pos rfl)
    · rw [r6]; exact d7.2 _ m7
    · rw [r7]; exact d8.2 _ m8
    · rw [r8]; exact d9.2 _ m9
    · rw [r5, (d6.1 q6 m6).2.2.2.2 2 0]
      exact (d6.2 _ cp6.1).trans (by show (if yR L6 q6 2 0 = q6 then 7 else if yR L6 q6 2 0 = yR L6 q6 2 0 then 11 else _) = 11; rw [if_neg (qob_ne cp6 f6.1.2.2 (by decide)), if_pos rfl])
    · rw [r9]; exact d10.2 _ m10
    · rw [r10]; exact d11.2 _ m11
    · rw [r0, (d1.1 q1 m1).2.2.2.2 2 0]
      exact (d1.2 _ tr1.1).trans (if_neg (qob_ne tr1 f1.1.2.2 (by decide)))
    · rw [r5, (d6.1 q6 m6).2.2.2.2 0 i]
      have s := st6 i i0 i1
      refine (d6.2 _ s.1).trans ?_
      show (if yR L6 q6 0 i = q6 then 7 else if yR L6 q6 0 i = yR L6 q6 2 0 then 11 else stN (fun i => yR L6 q6 0 i) (yR L6 q6 0 i)) = _
      rw [if_neg (qob_ne s f6.1.2.2 (by decide)), if_neg (qob_ne s cp6 (by decide))]
      exact stN_at (g := fun i => yR L6 q6 0 i) f6.2 i0 i1
    · unfold iTR
      rw [r1, r20, r21]
      exact ⟨Or.inl ⟨k2.2.1, k2.2.2⟩, ⟨k3.2.1, k3.2.2⟩, ⟨k4.2.1, k4.2.2⟩⟩
  have hv : FVa Λ h0 S := by
    unfold FVa
    rw [r0, r1, r9]
    have p := (d2.1 q2 m2).2.2.2.1
    have ok := f2.1.2.1 q2 f2.1.2.2
    refine ⟨?_, ⟨?_, ?_⟩, ⟨?_, ?_⟩, ⟨sT 3 0, sT 3 1⟩, ⟨sT 11 0, sT 12 0, sT 13 0⟩, ?_⟩
    · rw [(d1.1 q1 m1).2.2.1 1 0]; exact f1.2
    · rw [p 0]; exact Sub_cT d2.1 ok.1.1 f2.2.2.1.1
    · rw [p 1]; exact Sub_cT d2.1 ok.2.1 f2.2.2.1.2
    · rw [(d2.1 q2 m2).2.2.1 2 0]; exact f2.2.1.1
    · rw [(d2.1 q2 m2).2.2.1 3 0]; exact f2.2.1.2
    · rw [(d10.1 q10 m10).2.2.1 1 0]; exact f10.2
  have o0 := hF.2.2
  have nw : ¬ S.2 (yR Λ h0 1 0) 0 = yR Λ h0 7 0 := qob_ne (hF.2.1 _ (q_rf hLy o0 rfl ⟨by decide, by decide⟩)).1 (q_rf (k' := 8) hLy o0 rfl ⟨by decide, by decide⟩) (by decide)
  refine np_walk hG hLy hF.2.1 (Nat.le_of_ble_eq_true rfl) (Nat.le_of_ble_eq_true rfl) (fun G' hG' cv => ?_)
  refine pw_aload_n (pc := 159) hG' d_TD_init_159 rfl ?_
  refine g9_7 (pc := 160) hG' m_333 d_TD_init_160 o0 ?_
  refine pw_aload_n (pc := 163) hG' d_TD_init_163 rfl ?_
  refine g9_1 (pc := 164) hG' m_327 d_TD_init_164 o0 ?_
  refine pw_getP (pc := 167) hG' (q_rf hLy o0 rfl (by decide)) 0 (Or.inl rfl) m_129 d_TD_init_167 (fun t8 et8 ot8 => ?_)
  refine pw_callv (pc := 170) hG' (fun l Δ => ct_Wt_load l Δ hLy (q_rf hLy o0 rfl (by decide)) ot8 (by rw [et8]; exact s_Wt_load (Q := fun S' => Kp (fun o _ => o = yR Λ h0 7 0) S S' ∧ CW S' (yR Λ h0 7 0) (W0 t00)) hv.2.1.1 wf00 nw (fun S' hk hC => ⟨hk, hC⟩))) (q_rf hLy o0 rfl (by decide)) rfl (by decide) m_322 k_Wt_load rfl ⟨by decide, by decide⟩ (Nat.le_of_ble_eq_true rfl) d_TD_init_170 rfl (fun S' h => ?_)
  exact cv 173 _ [] S' (fun hok => ret 173 _ _ _ _ _ d_TD_init_173 (FTD_load hF hi hv h.1 hok h.2) hLA (Nat.le_of_ble_eq_true rfl) (Nat.le_of_ble_eq_true rfl))
