/-! constructors that make others -/
theorem acc_M {Λ Λ' : QLay} {S S' : QMem} (hd : Dj Λ Λ') (h : LyR Λ Λ) (o : okQ Λ Λ S) (h' : LyR Λ' Λ') (o' : okQ Λ' Λ' S') : LyR (lyM Λ Λ') (lyM Λ Λ') ∧ okQ (lyM Λ Λ') (lyM Λ Λ') (meM Λ S S') :=
  ⟨LyR_M (h.up (fun _ _ => qob_1)) (h'.up (fun _ _ => qob_2 hd)), okQ_M (o.up (fun _ _ => qob_1)) (o'.up (fun _ _ => qob_2 hd))⟩
def edAs (a1 a2 : Nat) : QAs := ((0, a1, 15, 25) :: (List.range 25).map (fun j => (100 + j, a1 + 1 + j, 11, 25))) ++ ((1, a2, 15, 24) :: (List.range 24).map (fun j => (200 + j, a2 + 1 + j, 11, 24)))
def edL : List (Nat × Nat × Nat) := [(0, 15, 25), (100, 11, 25), (101, 11, 25), (102, 11, 25), (103, 11, 25), (104, 11, 25), (105, 11, 25), (106, 11, 25), (107, 11, 25), (108, 11, 25), (109, 11, 25), (110, 11, 25), (111, 11, 25), (112, 11, 25), (113, 11, 25), (114, 11, 25), (115, 11, 25), (116, 11, 25), (117, 11, 25), (118, 11, 25), (119, 11, 25), (120, 11, 25), (121, 11, 25), (122, 11, 25), (123, 11, 25), (124, 11, 25), (1, 15, 24), (200, 11, 24), (201, 11, 24), (202, 11, 24), (203, 11, 24), (204, 11, 24), (205, 11, 24), (206, 11, 24), (207, 11, 24), (208, 11, 24), (209, 11, 24), (210, 11, 24), (211, 11, 24), (212, 11, 24), (213, 11, 24), (214, 11, 24), (215, 11, 24), (216, 11, 24), (217, 11, 24), (218, 11, 24), (219, 11, 24), (220, 11, 24), (221, 11, 24), (222, 11, 24), (223, 11, 24)]
theorem edL_eq (a1 a2 : Nat) : (edAs a1 a2).map (fun t => (t.1, t.2.2.1, t.2.2.2)) = edL := rfl
theorem ed_nd (a1 a2 : Nat) : ((edAs a1 a2).map (fun t => t.1)).Nodup := (by decide : (edL.map (fun q => q.1)).Nodup)
theorem ed_0 (a1 a2 : Nat) {j : Nat} (h : j < 25) : (edAs a1 a2).find? (fun q => q.1 == rw_ 0 (j : Int)) = some (100 + j, a1 + 1 + j, 11, 25) := by
  have e : rw_ 0 (j : Int) = 100 + j := by unfold rw_; omega
  rw [e]
  exact find_nd (fun t : Nat × Nat × Nat × Nat => t.1) (edAs a1 a2) (100 + j, a1 + 1 + j, 11, 25) (ed_nd a1 a2) (List.mem_append_left _ (List.mem_cons_of_mem _ (List.mem_map.mpr ⟨j, List.mem_range.mpr h, rfl⟩)))
theorem ed_1 (a1 a2 : Nat) {j : Nat} (h : j < 24) : (edAs a1 a2).find? (fun q => q.1 == rw_ 1 (j : Int)) = some (200 + j, a2 + 1 + j, 11, 24) := by
  have e : rw_ 1 (j : Int) = 200 + j := by unfold rw_; omega
  rw [e]
  exact find_nd (fun t : Nat × Nat × Nat × Nat => t.1) (edAs a1 a2) (200 + j, a2 + 1 + j, 11, 24) (ed_nd a1 a2) (List.mem_append_right _ (List.mem_cons_of_mem _ (List.mem_map.mpr ⟨j, List.mem_range.mpr h, rfl⟩)))
theorem ed_c2 (a1 a2 : Nat) : ∀ (f : Nat) (i : Int), (tA 0 f).1 = 15 → 0 ≤ i → i < (tA 0 f).2 → ∃ a n : Nat, (rw_ f i, a, 11, n) ∈ edAs a1 a2 ∧ (n : Int) = (tA 0 f).2 ∧ n ≤ 65536
  | 0, i, _, i0, i1 => by
    have i1 : i < 25 := i1
    refine ⟨a1 + 1 + i.toNat, 25, ?_, rfl, by decide⟩
    rw [show rw_ 0 i = 100 + i.toNat by unfold rw_; omega]
    exact List.mem_append_left _ (List.mem_cons_of_mem _ (List.mem_map.mpr ⟨i.toNat, List.mem_range.mpr (by omega), rfl⟩))
  | 1, i, _, i0, i1 => by
    have i1 : i < 24 := i1
    refine ⟨a2 + 1 + i.toNat, 24, ?_, rfl, by decide⟩
    rw [show rw_ 1 i = 200 + i.toNat by unfold rw_; omega]
    exact List.mem_append_right _ (List.mem_cons_of_mem _ (List.mem_map.mpr ⟨i.toNat, List.mem_range.mpr (by omega), rfl⟩))
  | _ + 2, _, h, _, _ => absurd h (by show ¬ (0 : Nat) = 15; decide)
theorem ed_k2 (a1 a2 : Nat) : ∀ t ∈ edAs a1 a2, 11 ≤ t.2.2.1 ∧ t.2.2.1 ≤ 15 ∧ tI 0 t.1 = false := k2_of edL (edL_eq a1 a2) (by decide)
set_option maxRecDepth 100000 in
set_option maxHeartbeats 4000000 in
theorem n_ED : QNt y_ED_init c_ED_init 1 1 12 51 1250 0 [.null, .null] (nF 0) := by
  refine QNt.mk (own := "TreeDiffer$EditDistance") (by decide) rfl rfl (by decide) (fun Δ h0 G hG ret => ?_)
  refine np_aload_n (pc := 0) hG d_ED_init_0 rfl ?_
  refine np_objInit (pc := 1) hG m_295 (by decide) (by decide) d_ED_init_1 ?_
  refine np_aload_n (pc := 4) hG d_ED_init_4 rfl ?_
  refine np_bipush (pc := 5) hG d_ED_init_5 (by decide) ?_
  refine np_bipush (pc := 7) hG d_ED_init_7 (by decide) ?_
  refine np_grid (pc := 9) (N := 25) (M := 25) hG rfl rfl (by decide) (by decide) m_296 (Nat.le_of_ble_eq_true rfl) (Nat.le_of_ble_eq_true rfl) d_ED_init_9 (fun a1 => ?_)
  refine np_put (pc := 13) (k := 0) (ty := qt0 0) hG rfl qi0 qt0 qto0 qn0 0 (by decide) rfl m_298 (qto0 0 (by decide)) rfl rfl (Nat.le_of_ble_eq_true rfl) d_ED_init_13 ?_
  refine np_aload_n (pc := 16) hG d_ED_init_16 rfl ?_
  refine np_bipush (pc := 17) hG d_ED_init_17 (by decide) ?_
  refine np_bipush (pc := 19) hG d_ED_init_19 (by decide) ?_
  refine np_grid (pc := 21) (N := 24) (M := 24) hG rfl rfl (by decide) (by decide) m_296 (Nat.le_of_ble_eq_true rfl) (Nat.le_of_ble_eq_true rfl) d_ED_init_21 (fun a2 => ?_)
  refine np_put (pc := 25) (k := 0) (ty := qt0 1) hG rfl qi0 qt0 qto0 qn0 1 (by decide) rfl m_299 (qto0 1 (by decide)) rfl rfl (Nat.le_of_ble_eq_true rfl) d_ED_init_25 ?_
  refine np_refs hG 1 (fun j => some (match (edAs a1 a2).find? (fun q => q.1 == rw_ 0 (j : Int)) with | some q => q.2.1 | none => 0)) rfl (fun j hj => by rw [ed_0 a1 a2 hj]) ?_
  refine np_refs hG 27 (fun j => some (match (edAs a1 a2).find? (fun q => q.1 == rw_ 1 (j : Int)) with | some q => q.2.1 | none => 0)) rfl (fun j hj => by rw [ed_1 a1 a2 hj]) ?_
  refine np_obj (k := 0) (h0 := h0) (as := edAs a1 a2) (rf := fun _ _ => 0) (S0 := meE) hG (ed_k2 a1 a2) rfl (lyA_ob edL (edL_eq a1 a2) (by decide) (by decide) (ed_k2 a1 a2) (c1_of edL (edL_eq a1 a2) (by decide)) (ed_c2 a1 a2)) LyA_E (fun hn hd hL => ?_)
  have hF := nF_ob (S0 := meE) hn hd (ed_k2 a1 a2) LyR_E (okQ_E (S := meE)) (fun f i h => absurd rfl h) (fun h => absurd h (by decide))
  exact ret 28 _ _ _ _ _ d_ED_init_28 hF (LyA_M hd hL LyA_E) (Nat.le_of_ble_eq_true rfl) (Nat.le_of_ble_eq_true rfl)
set_option maxRecDepth 100000 in
set_option maxHeartbeats 4000000 in
theorem n_Se : QNt y_Se_init c_Se_init 1 2 32 20 452 4 [.null, .null, vI 0, vI 0] (fun h0 Λ S => nF 4 h0 Λ S ∧ (S.1 h0 2 0 = 2 ∧ S.1 h0 3 0 = 50) ∧ (cT S (S.2 h0 0) t00 ∧ cT S (S.2 h0 1) t00) ∧ S.2 h0 0 ≠ S.2 h0 1) := by
  refine QNt.mk (own := "TreeDiffer$Setup") (by decide) rfl rfl (by decide) (fun Δ h0 G hG ret => ?_)
  refine np_aload_n (pc := 0) hG d_Se_init_0 rfl ?_
  refine np_objInit (pc := 1) hG m_125 (by decide) (by decide) d_Se_init_1 ?_
  refine np_aload_n (pc := 4) hG d_Se_init_4 rfl ?_
  refine np_make (pc := 5) hG n_Tr rfl qi7 qt7 qto7 rw7 m_126 m_28 m_3 m_31 m_30 (Or.inl m_127) (by decide +kernel) ⟨by decide, by decide⟩ (Nat.le_of_ble_eq_true rfl) (Nat.le_of_ble_eq_true rfl) (Nat.le_of_ble_eq_true rfl) d_Se_init_5 d_Se_init_8 d_Se_init_9 LyA_E (fun q1 L1 M1 f1 g1 j1 => ?_)
  refine np_put (pc := 12) (k := 4) (ty := qt4 0) hG rfl qi4 qt4 qto4 qn4 0 (by decide) rfl m_128 (qto4 0 (by decide)) rfl rfl (Nat.le_of_ble_eq_true rfl) d_Se_init_12 ?_
  refine np_aload_n (pc := 15) hG d_Se_init_15 rfl ?_
  refine np_make (pc := 16) hG n_Tr rfl qi7 qt7 qto7 rw7 m_126 m_28 m_3 m_31 m_30 (Or.inl m_127) (by decide +kernel) ⟨by decide, by decide⟩ (Nat.le_of_ble_eq_true rfl) (Nat.le_of_ble_eq_true rfl) (Nat.le_of_ble_eq_true rfl) d_Se_init_16 d_Se_init_19 d_Se_init_20 (LyA_M j1 LyA_E g1) (fun q2 L2 M2 f2 g2 j2 => ?_)
  refine np_put (pc := 23) (k := 4) (ty := qt4 1) hG rfl qi4 qt4 qto4 qn4 1 (by decide) rfl m_133 (qto4 1 (by decide)) rfl rfl (Nat.le_of_ble_eq_true rfl) d_Se_init_23 ?_
  refine np_aload_n (pc := 26) hG d_Se_init_26 rfl ?_
  refine np_iconst (pc := 27) hG d_Se_init_27 ?_
  refine np_put (pc := 28) (k := 4) (ty := qt4 2) hG rfl qi4 qt4 qto4 qn4 2 (by decide) rfl m_138 (qto4 2 (by decide)) rfl rfl (Nat.le_of_ble_eq_true rfl) d_Se_init_28 ?_
  refine np_aload_n (pc := 31) hG d_Se_init_31 rfl ?_
  refine np_bipush (pc := 32) hG d_Se_init_32 (by decide) ?_
  refine np_put (pc := 34) (k := 4) (ty := qt4 3) hG rfl qi4 qt4 qto4 qn4 3 (by decide) rfl m_141 (qto4 3 (by decide)) rfl rfl (Nat.le_of_ble_eq_true rfl) d_Se_init_34 ?_
  have c1 := acc_M j1 LyR_E (okQ_E (S := meE)) f1.1.1 f1.1.2.1
  have c2 := acc_M j2 c1.1 c1.2 f2.1.1 f2.1.2.1
  have b1 := qob_1 (Λ' := L2) (qob_2 j1 f1.1.2.2)
  have b2 := qob_2 j2 f2.1.2.2
  refine np_obj (k := 4) (h0 := h0) (as := []) (rf := fun _ _ => 0) (S0 := ((fun _ f _ => match f with | 2 => 2 | 3 => 50 | _ => 0, fun _ f => match f with | 0 => q1 | _ => q2) : QMem)) hG (k2_of [] rfl (by decide)) rfl (lyA_ob [] rfl (by decide) (by decide) (k2_of [] rfl (by decide)) (c1_of [] rfl (by decide)) (c2_no (by decide))) (LyA_M j2 (LyA_M j1 LyA_E g1) g2) (fun hn hd hL => ?_)
  have hF := nF_ob (S0 := ((fun _ f _ => match f with | 2 => 2 | 3 => 50 | _ => 0, fun _ f => match f with | 0 => q1 | _ => q2) : QMem)) hn hd (k2_of [] rfl (by decide)) c2.1 c2.2 (fun f i h => absurd rfl h) (fun _ => ⟨b1, b2⟩)
  have s1 := ((Sub_2 (S := meE) (S' := M1) j1).tr (Sub_1 (Λ' := L2) (S' := M2))).tr (Sub_2 (S := ((fun _ f _ => match f with | 2 => 2 | 3 => 50 | _ => 0, fun _ f => match f with | 0 => q1 | _ => q2) : QMem)) hd)
  have s2 := (Sub_2 (S := meM lyE meE M1) (S' := M2) j2).tr (Sub_2 (S := ((fun _ f _ => match f with | 2 => 2 | 3 => 50 | _ => 0, fun _ f => match f with | 0 => q1 | _ => q2) : QMem)) hd)
  refine ret 37 _ _ _ _ _ d_Se_init_37 ⟨hF, ⟨ob_S, ob_S⟩, ⟨?_, ?_⟩, ?_⟩ (LyA_M hd hL (LyA_M j2 (LyA_M j1 LyA_E g1) g2)) (Nat.le_of_ble_eq_true rfl) (Nat.le_of_ble_eq_true rfl)
  · rw [ob_S2]; exact Sub_cT s1 f1.1.2.2.1 f1.2
  · rw [ob_S2]; exact Sub_cT s2 f2.1.2.2.1 f2.2
  · rw [ob_S2, ob_S2]
    intro e
    have e : q1 = q2 := e
    exact j2 q1 (qob_2 j1 f1.1.2.2).1 (by rw [e]; exact f2.1.2.2.1)
set_option maxRecDepth 100000 in
set_option maxHeartbeats 4000000 in
theorem n_Tx : QNt y_Tx_init c_Tx_init 1 2 32 11 326 6 [.null, vI 0, .null, vI 0, vI 0, vI 0] (fun h0 Λ S => nF 6 h0 Λ S ∧ S.1 h0 1 0 = 0) := by
  refine QNt.mk (own := "TreeDiffer$Text") (by decide) rfl rfl (by decide) (fun Δ h0 G hG ret => ?_)
  refine np_aload_n (pc := 0) hG d_Tx_init_0 rfl ?_
  refine np_objInit (pc := 1) hG m_26 (by decide) (by decide) d_Tx_init_1 ?_
  refine np_aload_n (pc := 4) hG d_Tx_init_4 rfl ?_
  refine np_bipush (pc := 5) hG d_Tx_init_5 (by decide) ?_
  refine np_newI (pc := 7) (N := 100) hG rfl (by decide) (Nat.le_of_ble_eq_true rfl) (Nat.le_of_ble_eq_true rfl) d_Tx_init_7 (fun a1 => ?_)
  refine np_put (pc := 9) (k := 6) (ty := qt6 0) hG rfl qi6 qt6 qto6 qn6 0 (by decide) rfl m_98 (qto6 0 (by decide)) rfl rfl (Nat.le_of_ble_eq_true rfl) d_Tx_init_9 ?_
  refine np_aload_n (pc := 12) hG d_Tx_init_12 rfl ?_
  refine np_iconst (pc := 13) hG d_Tx_init_13 ?_
  refine np_put (pc := 14) (k := 6) (ty := qt6 1) hG rfl qi6 qt6 qto6 qn6 1 (by decide) rfl m_99 (qto6 1 (by decide)) rfl rfl (Nat.le_of_ble_eq_true rfl) d_Tx_init_14 ?_
  refine np_aload_n (pc := 17) hG d_Tx_init_17 rfl ?_
  refine np_make (pc := 18) hG n_Tr rfl qi7 qt7 qto7 rw7 m_27 m_28 m_3 m_31 m_30 (Or.inl m_29) (by decide +kernel) ⟨by decide, by decide⟩ (Nat.le_of_ble_eq_true rfl) (Nat.le_of_ble_eq_true rfl) (Nat.le_of_ble_eq_true rfl) d_Tx_init_18 d_Tx_init_21 d_Tx_init_22 LyA_E (fun q1 L1 M1 f1 g1 j1 => ?_)
  refine np_put (pc := 25) (k := 6) (ty := qt6 2) hG rfl qi6 qt6 qto6 qn6 2 (by decide) rfl m_101 (qto6 2 (by decide)) rfl rfl (Nat.le_of_ble_eq_true rfl) d_Tx_init_25 ?_
  refine np_aload_n (pc := 28) hG d_Tx_init_28 rfl ?_
  refine np_iconst (pc := 29) hG d_Tx_init_29 ?_
  refine np_put (pc := 30) (k := 6) (ty := qt6 3) hG rfl qi6 qt6 qto6 qn6 3 (by decide) rfl m_103 (qto6 3 (by decide)) rfl rfl (Nat.le_of_ble_eq_true rfl) d_Tx_init_30 ?_
  refine np_aload_n (pc := 33) hG d_Tx_init_33 rfl ?_
  refine np_iconst (pc := 34) hG d_Tx_init_34 ?_
  refine np_put (pc := 35) (k := 6) (ty := qt6 4) hG rfl qi6 qt6 qto6 qn6 4 (by decide) rfl m_105 (qto6 4 (by decide)) rfl rfl (Nat.le_of_ble_eq_true rfl) d_Tx_init_35 ?_
  refine np_aload_n (pc := 38) hG d_Tx_init_38 rfl ?_
  refine np_iconst (pc := 39) hG d_Tx_init_39 ?_
  refine np_put (pc := 40) (k := 6) (ty := qt6 5) hG rfl qi6 qt6 qto6 qn6 5 (by decide) rfl m_106 (qto6 5 (by decide)) rfl rfl (Nat.le_of_ble_eq_true rfl) d_Tx_init_40 ?_
  have c1 := acc_M j1 LyR_E (okQ_E (S := meE)) f1.1.1 f1.1.2.1
  have b1 := qob_2 j1 f1.1.2.2
  refine np_obj (k := 6) (h0 := h0) (as := [(0, a1, 11, 100)]) (rf := fun _ _ => q1) (S0 := ((fun _ f _ => match f with | 5 => -1 | _ => 0, fun _ _ => 0) : QMem)) hG (k2_of [(0, 11, 100)] rfl (by decide)) rfl (lyA_ob [(0, 11, 100)] rfl (by decide) (by decide) (k2_of [(0, 11, 100)] rfl (by decide)) (c1_of [(0, 11, 100)] rfl (by decide)) (c2_no (by decide))) (LyA_M j1 LyA_E g1) (fun hn hd hL => ?_)
  have hF := nF_ob (S0 := ((fun _ f _ => match f with | 5 => -1 | _ => 0, fun _ _ => 0) : QMem)) hn hd (k2_of [(0, 11, 100)] rfl (by decide)) c1.1 c1.2 (fun f i h _ _ => match f, h with | 0, h => absurd rfl h | 1, h => absurd rfl h | 2, _ => b1 | _ + 3, h => absurd rfl h) (fun h => absurd h (by decide))
  exact ret 43 _ _ _ _ _ d_Tx_init_43 ⟨hF, ob_S⟩ (LyA_M hd hL (LyA_M j1 LyA_E g1)) (Nat.le_of_ble_eq_true rfl) (Nat.le_of_ble_eq_true rfl)
set_option maxRecDepth 100000 in
set_option maxHeartbeats 4000000 in
theorem n_Sc : QNt y_Sc_init c_Sc_init 2 2 32 106 1256 3 [.null, vI 0, .null, .null, .null, .null, .null] (fun h0 Λ S => nF 3 h0 Λ S ∧ ∀ i j : Int, 0 ≤ i → i < 96 → 0 ≤ j → j < 96 → yR Λ h0 0 i = yR Λ h0 0 j → i = j) := by
  refine QNt.mk (own := "TreeDiffer$Script") (by decide) rfl rfl (by decide) (fun Δ h0 G hG ret => ?_)
  refine np_aload_n (pc := 0) hG d_Sc_init_0 rfl ?_
  refine np_objInit (pc := 1) hG m_185 (by decide) (by decide) d_Sc_init_1 ?_
  refine np_aload_n (pc := 4) hG d_Sc_init_4 rfl ?_
  refine np_bipush (pc := 5) hG d_Sc_init_5 (by decide) ?_
  refine np_newA (pc := 7) (N := 96) (j := 3) (C := "TreeDiffer$Step") hG (Or.inr ⟨rfl, rfl⟩) m_186 rfl (by decide) (Nat.le_of_ble_eq_true rfl) (Nat.le_of_ble_eq_true rfl) d_Sc_init_7 (fun a1 => ?_)
  refine np_put (pc := 10) (k := 3) (ty := qt3 0) hG rfl qi3 qt3 qto3 qn3 0 (by decide) rfl m_266 (qto3 0 (by decide)) rfl rfl (Nat.le_of_ble_eq_true rfl) d_Sc_init_10 ?_
  refine np_aload_n (pc := 13) hG d_Sc_init_13 rfl ?_
  refine np_iconst (pc := 14) hG d_Sc_init_14 ?_
  refine np_put (pc := 15) (k := 3) (ty := qt3 1) hG rfl qi3 qt3 qto3 qn3 1 (by decide) rfl m_268 (qto3 1 (by decide)) rfl rfl (Nat.le_of_ble_eq_true rfl) d_Sc_init_15 ?_
  refine np_aload_n (pc := 18) hG d_Sc_init_18 rfl ?_
  refine np_make (pc := 19) hG n_Wt rfl qi8 qt8 qto8 rw8 m_188 m_189 m_7 m_192 m_191 (Or.inr (fun _ h => h.2.2.2.1)) (by decide +kernel) ⟨by decide, by decide⟩ (Nat.le_of_ble_eq_true rfl) (Nat.le_of_ble_eq_true rfl) (Nat.le_of_ble_eq_true rfl) d_Sc_init_19 d_Sc_init_22 d_Sc_init_23 LyA_E (fun q1 L1 M1 f1 g1 j1 => ?_)
  refine np_put (pc := 26) (k := 3) (ty := qt3 2) hG rfl qi3 qt3 qto3 qn3 2 (by decide) rfl m_270 (qto3 2 (by decide)) rfl rfl (Nat.le_of_ble_eq_true rfl) d_Sc_init_26 ?_
  refine np_aload_n (pc := 29) hG d_Sc_init_29 rfl ?_
  refine np_bipush (pc := 30) hG d_Sc_init_30 (by decide) ?_
  refine np_newI (pc := 32) (N := 24) hG rfl (by decide) (Nat.le_of_ble_eq_true rfl) (Nat.le_of_ble_eq_true rfl) d_Sc_init_32 (fun a2 => ?_)
  refine np_put (pc := 34) (k := 3) (ty := qt3 3) hG rfl qi3 qt3 qto3 qn3 3 (by decide) rfl m_271 (qto3 3 (by decide)) rfl rfl (Nat.le_of_ble_eq_true rfl) d_Sc_init_34 ?_
  refine np_aload_n (pc := 37) hG d_Sc_init_37 rfl ?_
  refine np_bipush (pc := 38) hG d_Sc_init_38 (by decide) ?_
  refine np_newZ (pc := 40) (N := 24) hG rfl (by decide) (Nat.le_of_ble_eq_true rfl) (Nat.le_of_ble_eq_true rfl) d_Sc_init_40 (fun a3 => ?_)
  refine np_put (pc := 42) (k := 3) (ty := qt3 4) hG rfl qi3 qt3 qto3 qn3 4 (by decide) rfl m_272 (qto3 4 (by decide)) rfl rfl (Nat.le_of_ble_eq_true rfl) d_Sc_init_42 ?_
  refine np_aload_n (pc := 45) hG d_Sc_init_45 rfl ?_
  refine np_bipush (pc := 46) hG d_Sc_init_46 (by decide) ?_
  refine np_newI (pc := 48) (N := 24) hG rfl (by decide) (Nat.le_of_ble_eq_true rfl) (Nat.le_of_ble_eq_true rfl) d_Sc_init_48 (fun a4 => ?_)
  refine np_put (pc := 50) (k := 3) (ty := qt3 5) hG rfl qi3 qt3 qto3 qn3 5 (by decide) rfl m_273 (qto3 5 (by decide)) rfl rfl (Nat.le_of_ble_eq_true rfl) d_Sc_init_50 ?_
  refine np_aload_n (pc := 53) hG d_Sc_init_53 rfl ?_
  refine np_bipush (pc := 54) hG d_Sc_init_54 (by decide) ?_
  refine np_newI (pc := 56) (N := 24) hG rfl (by decide) (Nat.le_of_ble_eq_true rfl) (Nat.le_of_ble_eq_true rfl) d_Sc_init_56 (fun a5 => ?_)
  refine np_put (pc := 58) (k := 3) (ty := qt3 6) hG rfl qi3 qt3 qto3 qn3 6 (by decide) rfl m_274 (qto3 6 (by decide)) rfl rfl (Nat.le_of_ble_eq_true rfl) d_Sc_init_58 ?_
  refine np_iconst (pc := 61) hG d_Sc_init_61 ?_
  refine np_istore_n (pc := 62) (lv' := [(0, .ref h0), (1, vI 0)]) hG d_Sc_init_62 (by decide) rfl ?_
  have key : ∀ (n i : Nat) (fr : Nat → Option Nat) (sj : Nat → Nat) (Λ : QLay) (S : QMem), i + n = 96 → LyA Λ → LyR Λ Λ → okQ Λ Λ S → qob Λ 8 q1 → (∀ j, j < i → fr j = some (sj j) ∧ qob Λ 5 (sj j)) → (∀ j j', j < i → j' < i → sj j = sj j' → j = j') → G (10 + i) (392 + 9 * i) 63 [(0, .ref h0), (1, vI (i : Int))] [] ((h0, .inr (3, [.ref a1, vI 0, .ref q1, .ref a2, .ref a3, .ref a4, .ref a5])) :: (a1, .inl (Δ.2 3, 96, .inr (.inr (.inr (.inr fr))))) :: [(a2, .inl (Δ.2 0, 24, .inl (fun _ => Int32.ofInt 0))), (a3, .inl (Δ.2 1, 24, .inl (fun _ => Int32.ofInt 0))), (a4, .inl (Δ.2 0, 24, .inl (fun _ => Int32.ofInt 0))), (a5, .inl (Δ.2 0, 24, .inl (fun _ => Int32.ofInt 0)))]) Λ S := by
    intro n
    induction n with
    | zero =>
      intro i fr sj Λ S hi hL hR hO hw hf hj
      have hi : i = 96 := by omega
      subst hi
      refine np_iload_n (pc := 63) hG d_Sc_init_63 rfl ?_
      refine np_bipush (pc := 64) hG d_Sc_init_64 (by decide) ?_
      refine np_icmp_ge (pc := 66) (tgt := 88) hG d_Sc_init_66 (by decide) (by unfold inR; omega) (by unfold inR; omega) (fun _ => ?_) (fun h => absurd (by decide) h)
      refine np_refs hG 1 (fun j => some (if (0 : Nat) = 0 then sj ((j : Int)).toNat else q1)) rfl (fun j hj' => by rw [(hf j hj').1]; rfl) ?_
      refine np_obj (k := 3) (h0 := h0) (as := [(0, a1, 14, 96), (3, a2, 11, 24), (4, a3, 12, 24), (5, a4, 11, 24), (6, a5, 11, 24)]) (rf := fun f i => if f = 0 then sj i.toNat else q1) (S0 := meE) hG (k2_of [(0, 14, 96), (3, 11, 24), (4, 12, 24), (5, 11, 24), (6, 11, 24)] rfl (by decide)) rfl (lyA_ob [(0, 14, 96), (3, 11, 24), (4, 12, 24), (5, 11, 24), (6, 11, 24)] rfl (by decide) (by decide) (k2_of [(0, 14, 96), (3, 11, 24), (4, 12, 24), (5, 11, 24), (6, 11, 24)] rfl (by decide)) (c1_of [(0, 14, 96), (3, 11, 24), (4, 12, 24), (5, 11, 24), (6, 11, 24)] rfl (by decide)) (c2_no (by decide))) hL (fun hn hd hLo => ?_)
      have hF := nF_ob (S0 := meE) (rf := fun f i => if f = 0 then sj i.toNat else q1) hn hd (k2_of [(0, 14, 96), (3, 11, 24), (4, 12, 24), (5, 11, 24), (6, 11, 24)] rfl (by decide)) hR hO (fun f i h i0 i1 => match f, h, i1 with | 0, _, i1 => (hf i.toNat (by have : i < 96 := i1; omega)).2 | 1, h, _ => absurd rfl h | 2, _, _ => hw | _ + 3, h, _ => absurd rfl h) (fun h => absurd h (by decide))
      refine ret 88 _ _ _ _ _ d_Sc_init_88 ⟨hF, fun i j i0 i1 j0 j1 e => ?_⟩ (LyA_M hd hLo hL) (Nat.le_of_ble_eq_true rfl) (Nat.le_of_ble_eq_true rfl)
      rw [ob_R, ob_R] at e
      have e : sj i.toNat = sj j.toNat := e
      have := hj i.toNat j.toNat (by omega) (by omega) e
      omega
    | succ n ih =>
      intro i fr sj Λ S hi hL hR hO hw hf hj
      refine np_iload_n (pc := 63) hG d_Sc_init_63 rfl ?_
      refine np_bipush (pc := 64) hG d_Sc_init_64 (by decide) ?_
      refine np_icmp_ge (pc := 66) (tgt := 88) hG d_Sc_init_66 (by decide) (by unfold inR; omega) (by unfold inR; omega) (fun h => absurd h (by omega)) (fun _ => ?_)
      refine np_aload_n (pc := 69) hG d_Sc_init_69 rfl ?_
      refine np_get (pc := 70) (k := 3) hG rfl qi3 0 (by decide) m_266 rfl d_Sc_init_70 ?_
      refine np_iload_n (pc := 73) hG d_Sc_init_73 rfl ?_
      refine np_make (pc := 74) hG n_Sp rfl qi5 qt5 qto5 rw5 m_186 m_217 m_8 m_220 m_219 (Or.inr (fun _ h => h.2.2.2.2.1)) (by decide +kernel) ⟨by decide, by decide⟩ (Nat.le_of_ble_eq_true rfl) (by show 10 + i + 1 + 0 ≤ 106; omega) (by show 392 + 9 * i + 9 + 0 ≤ 1256; omega) d_Sc_init_74 d_Sc_init_77 d_Sc_init_78 hL (fun q2 L2 M2 f2 g2 j2 => ?_)
      have c2 := acc_M j2 hR hO f2.1 f2.2.1
      refine np_aast (pc := 81) (q0 := 1) (j := 3) (kv := 5) hG (Or.inr ⟨rfl, rfl⟩) rfl (qob_2 j2 f2.2.2) ⟨by omega, by omega⟩ (by decide) d_Sc_init_81 ?_
      refine np_iinc (pc := 82) (lv' := [(0, .ref h0), (1, vI ((i : Int) + 1))]) hG d_Sc_init_82 rfl (by decide) rfl ?_
      refine np_goto (pc := 85) (tgt := 63) hG d_Sc_init_85 (by decide) ?_
      have hf' : ∀ j, j < i + 1 → va_up fr ((i : Int)).toNat (some q2) j = some (if j = i then q2 else sj j) ∧ qob (lyM Λ L2) 5 (if j = i then q2 else sj j) := fun j hj' => by
        by_cases z : j = i
        · rw [if_pos z]
          refine ⟨?_, qob_2 j2 f2.2.2⟩
          show (if j = ((i : Int)).toNat then some q2 else fr j) = some q2
          rw [if_pos (by omega)]
        · obtain ⟨z1, z2⟩ := hf j (by omega)
          rw [if_neg z]
          refine ⟨?_, qob_1 z2⟩
          show (if j = ((i : Int)).toNat then some q2 else fr j) = some (sj j)
          rw [if_neg (by omega)]
          exact z1
      have hj' : ∀ j j', j < i + 1 → j' < i + 1 → (if j = i then q2 else sj j) = (if j' = i then q2 else sj j') → j = j' := fun j j' hj1 hj2 e => by
        by_cases z : j = i
        · by_cases z' : j' = i
          · omega
          · rw [if_pos z, if_neg z'] at e
            exact (j2 q2 (by rw [e]; exact (hf j' (by omega)).2.1) f2.2.2.1).elim
        · by_cases z' : j' = i
          · rw [if_neg z, if_pos z'] at e
            exact (j2 q2 (by rw [← e]; exact (hf j (by omega)).2.1) f2.2.2.1).elim
          · rw [if_neg z, if_neg z'] at e
            exact hj j j' (by omega) (by omega) e
      have nx := ih (i + 1) (va_up fr ((i : Int)).toNat (some q2)) (fun j => if j = i then q2 else sj j) (lyM Λ L2) (meM Λ S M2) (by omega) (LyA_M j2 hL g2) c2.1 c2.2 (qob_1 hw) hf' hj'
      exact nx
  have c1 := acc_M j1 LyR_E (okQ_E (S := meE)) f1.1 f1.2.1
  exact key 96 0 _ (fun _ => 0) _ _ rfl (LyA_M j1 LyA_E g1) c1.1 c1.2 (qob_2 j1 f1.2.2) (fun j h => absurd h (by omega)) (fun j j' h => absurd h (by omega))
