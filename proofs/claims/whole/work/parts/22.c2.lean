theorem k_Sc_putChildrenInOrder : QVf y_Sc_putChildrenInOrder c_Sc_putChildrenInOrder 5 none "TreeDiffer$Script" 2 := ⟨m_570, m_p18, m_6, m_571, by decide +kernel⟩
theorem b_Sc_putChildrenInOrder_20 {Λ : QLay} {G : Nat → List (Nat × Value) → List Value → QMem → Prop} {Q : QMem → Prop} (hG : QAct c_Sc_putChildrenInOrder "TreeDiffer$Script" 5 { frames := 3, cells := 0, slots := 0, locals := 69 } Λ G) (hR : RtV c_Sc_putChildrenInOrder G Q) : ∀ (n : Nat) (v0 : Nat) (v1 : Nat) (v3 : Int) (v4 : Int) (S : QMem), qob Λ 3 v0 → qob Λ 7 v1 → w_Sc_putChildrenInOrder_20 Λ Q n v0 v1 v3 v4 S → G 20 [(0, .ref v0), (1, .ref v1), (3, vI v3), (4, vI v4)] [] S := by
  have hΛ := hG.lay
  intro n
  induction n with
  | zero => intro v0 v1 v3 v4 S o_v0 o_v1 h; exact h.elim
  | succ n ih =>
    intro v0 v1 v3 v4 S o_v0 o_v1 h
    rw [w_Sc_putChildrenInOrder_20] at h
    refine pw_iload (pc := 20) hG d_Sc_putChildrenInOrder_20 rfl ?_
    refine pw_iload_n (pc := 22) hG d_Sc_putChildrenInOrder_22 rfl ?_
    obtain ⟨hrx23, hry23, ha23, hb23⟩ := h
    refine pw_icmp_ge (tgt := 59) (pc := 23) hG d_Sc_putChildrenInOrder_23 (by decide) hrx23 hry23 (fun hc23 => ?_) (fun hc23 => ?_)
    · replace h := ha23 hc23
      exact hR 59 _ _ d_Sc_putChildrenInOrder_59 h
    · replace h := hb23 hc23
      refine pw_aload_n (pc := 26) hG d_Sc_putChildrenInOrder_26 rfl ?_
      refine g3_4 (pc := 27) hG m_272 d_Sc_putChildrenInOrder_27 o_v0 ?_
      refine pw_aload_n (pc := 30) hG d_Sc_putChildrenInOrder_30 rfl ?_
      refine g3_5 (pc := 31) hG m_273 d_Sc_putChildrenInOrder_31 o_v0 ?_
      refine pw_iload (pc := 34) hG d_Sc_putChildrenInOrder_34 rfl ?_
      obtain ⟨hi36, h⟩ := h
      refine pw_aI (pc := 36) hG (q_arr hΛ o_v0 rfl (by decide)) hi36 d_Sc_putChildrenInOrder_36 ?_
      obtain ⟨hi37, h⟩ := h
      refine pw_aZ (pc := 37) hG (q_arr hΛ o_v0 rfl (by decide)) hi37 d_Sc_putChildrenInOrder_37 ?_
      obtain ⟨hrx38, ha38, hb38⟩ := h
      refine pw_if_ne (tgt := 53) (pc := 38) hG d_Sc_putChildrenInOrder_38 (by decide) hrx38 (fun hc38 => ?_) (fun hc38 => ?_)
      · replace h := ha38 hc38
        refine pw_iinc0 (pc := 53) hG d_Sc_putChildrenInOrder_53 rfl (by decide) rfl ?_
        refine pw_goto (tgt := 20) (pc := 56) hG d_Sc_putChildrenInOrder_56 (by decide) ?_
        exact pw_sub hG [0, 1, 3, 4] rfl (ih v0 v1 v3 (v4 + 1) S o_v0 o_v1 h)
      · replace h := hb38 hc38
        refine pw_aload_n (pc := 41) hG d_Sc_putChildrenInOrder_41 rfl ?_
        refine pw_aload_n (pc := 42) hG d_Sc_putChildrenInOrder_42 rfl ?_
        refine pw_aload_n (pc := 43) hG d_Sc_putChildrenInOrder_43 rfl ?_
        refine g3_5 (pc := 44) hG m_273 d_Sc_putChildrenInOrder_44 o_v0 ?_
        refine pw_iload (pc := 47) hG d_Sc_putChildrenInOrder_47 rfl ?_
        obtain ⟨hi49, h⟩ := h
        refine pw_aI (pc := 49) hG (q_arr hΛ o_v0 rfl (by decide)) hi49 d_Sc_putChildrenInOrder_49 ?_
        refine pw_callv (pc := 50) hG (fun l Δ => ct_Sc_move l Δ hΛ o_v0 o_v1 h) o_v0 rfl (by decide) m_598 k_Sc_move rfl ⟨by decide, by decide⟩ (Nat.le_of_ble_eq_true rfl) d_Sc_putChildrenInOrder_50 rfl (fun S50 h => ?_)
        refine pw_iinc0 (pc := 53) hG d_Sc_putChildrenInOrder_53 rfl (by decide) rfl ?_
        refine pw_goto (tgt := 20) (pc := 56) hG d_Sc_putChildrenInOrder_56 (by decide) ?_
        exact pw_sub hG [0, 1, 3, 4] rfl (ih v0 v1 v3 (v4 + 1) S50 o_v0 o_v1 h)
theorem b_Sc_putChildrenInOrder_0 {Λ : QLay} {G : Nat → List (Nat × Value) → List Value → QMem → Prop} {Q : QMem → Prop} (hG : QAct c_Sc_putChildrenInOrder "TreeDiffer$Script" 5 { frames := 3, cells := 0, slots := 0, locals := 69 } Λ G) (hR : RtV c_Sc_putChildrenInOrder G Q) (v0 : Nat) (v1 : Nat) (v2 : Int) (S : QMem) (o0 : qob Λ 3 v0) (o1 : qob Λ 7 v1) (h : w_Sc_putChildrenInOrder Λ v0 v1 v2 S Q) : G 0 [(0, .ref v0), (1, .ref v1), (2, vI v2)] [] S := by
  have hΛ := hG.lay
  unfold w_Sc_putChildrenInOrder at h
  refine pw_aload_n (pc := 0) hG d_Sc_putChildrenInOrder_0 rfl ?_
  refine pw_aload_n (pc := 1) hG d_Sc_putChildrenInOrder_1 rfl ?_
  refine pw_iload_n (pc := 2) hG d_Sc_putChildrenInOrder_2 rfl ?_
  refine pw_calli (pc := 3) hG (fun l Δ => ct_Sc_gatherChildren l Δ hΛ o0 o1 h) o0 rfl (by decide) m_572 k_Sc_gatherChildren rfl ⟨by decide, by decide⟩ (Nat.le_of_ble_eq_true rfl) d_Sc_putChildrenInOrder_3 rfl (fun r3 S3 h => ?_)
  refine pw_ist_n (pc := 6) hG d_Sc_putChildrenInOrder_6 (by decide) rfl ?_
  refine pw_aload_n (pc := 7) hG d_Sc_putChildrenInOrder_7 rfl ?_
  refine pw_iload_n (pc := 8) hG d_Sc_putChildrenInOrder_8 rfl ?_
  refine pw_aload_n (pc := 9) hG d_Sc_putChildrenInOrder_9 rfl ?_
  refine pw_iload_n (pc := 10) hG d_Sc_putChildrenInOrder_10 rfl ?_
  refine pw_calli (pc := 11) hG (fun l Δ => ct_Sc_measureSequences l Δ hΛ o0 h) o0 rfl (by decide) m_585 k_Sc_measureSequences rfl ⟨by decide, by decide⟩ (Nat.le_of_ble_eq_true rfl) d_Sc_putChildrenInOrder_11 rfl (fun r11 S11 h => ?_)
  refine pw_callv (pc := 14) hG (fun l Δ => ct_Sc_markLongest l Δ hΛ o0 h) o0 rfl (by decide) m_594 k_Sc_markLongest rfl ⟨by decide, by decide⟩ (Nat.le_of_ble_eq_true rfl) d_Sc_putChildrenInOrder_14 rfl (fun S14 h => ?_)
  refine pw_iconst (pc := 17) hG d_Sc_putChildrenInOrder_17 ?_
  refine pw_ist (pc := 18) hG d_Sc_putChildrenInOrder_18 (by decide) rfl ?_
  obtain ⟨n18, h⟩ := h
  exact pw_sub hG [0, 1, 3, 4] rfl (b_Sc_putChildrenInOrder_20 hG hR n18 v0 v1 r3 0 S14 o0 o1 h)
theorem ct_Sc_putChildrenInOrder (l : Launch) (Δ : QDl) {Λ : QLay} (hΛ : LayOk Λ) {v0 : Nat} {v1 : Nat} {v2 : Int} {S : QMem} {Q : QMem → Prop} (o0 : qob Λ 3 v0) (o1 : qob Λ 7 v1) (h : w_Sc_putChildrenInOrder Λ v0 v1 v2 S Q) : QCt l y_Sc_putChildrenInOrder c_Sc_putChildrenInOrder 5 none 3 69 Δ Λ [.ref v0, .ref v1, vI v2] S (qV Q) :=
  QCt.mk (own := "TreeDiffer$Script") hΛ (by decide) rfl rfl (Nat.le_of_ble_eq_true rfl) (fun G hG ri rz rv rj ra => b_Sc_putChildrenInOrder_0 hG (fun pc lv S d hq => rv pc lv S rfl d ⟨rfl, hq⟩) v0 v1 v2 S o0 o1 h)
theorem k_TD_roomOfInserted : QSf y_TD_roomOfInserted c_TD_roomOfInserted 1 (some .int) "TreeDiffer" 1 := ⟨m_632, m_1, m_633, by decide +kernel⟩
theorem b_TD_roomOfInserted_0 {Λ : QLay} {G : Nat → List (Nat × Value) → List Value → QMem → Prop} {Q : Int → QMem → Prop} (hG : QAct c_TD_roomOfInserted "TreeDiffer" 1 { frames := 0, cells := 0, slots := 0, locals := 0 } Λ G) (hR : RtI c_TD_roomOfInserted G Q) (v0 : Int) (S : QMem) (h : w_TD_roomOfInserted Λ v0 S Q) : G 0 [(0, vI v0)] [] S := by
  have hΛ := hG.lay
  unfold w_TD_roomOfInserted at h
  refine pw_bipush (pc := 0) hG d_TD_roomOfInserted_0 (by decide) ?_
  refine pw_iload_n (pc := 2) hG d_TD_roomOfInserted_2 rfl ?_
  refine pw_iadd (pc := 3) hG d_TD_roomOfInserted_3 ?_
  exact hR 4 _ _ _ d_TD_roomOfInserted_4 h
theorem ct_TD_roomOfInserted (l : Launch) (Δ : QDl) {Λ : QLay} (hΛ : LayOk Λ) {v0 : Int} {S : QMem} {Q : Int → QMem → Prop} (h : w_TD_roomOfInserted Λ v0 S Q) : QCt l y_TD_roomOfInserted c_TD_roomOfInserted 1 (some .int) 0 0 Δ Λ [vI v0] S (qI Q) :=
  QCt.mk (own := "TreeDiffer") hΛ (by decide) rfl rfl (Nat.le_of_ble_eq_true rfl) (fun G hG ri rz rv rj ra => b_TD_roomOfInserted_0 hG (fun pc lv x S d hq => ri pc lv x S rfl d ⟨x, rfl, hq⟩) v0 S  h)
theorem k_Wt_carryOut : QVf y_Wt_carryOut c_Wt_carryOut 2 none "TreeDiffer$WorkTree" 1 := ⟨m_635, m_636, m_7, m_637, by decide +kernel⟩
theorem b_Wt_carryOut_0 {Λ : QLay} {G : Nat → List (Nat × Value) → List Value → QMem → Prop} {Q : QMem → Prop} (hG : QAct c_Wt_carryOut "TreeDiffer$WorkTree" 2 { frames := 2, cells := 0, slots := 0, locals := 44 } Λ G) (hR : RtV c_Wt_carryOut G Q) (v0 : Nat) (v1 : Nat) (S : QMem) (o0 : qob Λ 8 v0) (o1 : qob Λ 5 v1) (h : w_Wt_carryOut Λ v0 v1 S Q) : G 0 [(0, .ref v0), (1, .ref v1)] [] S := by
  have hΛ := hG.lay
  unfold w_Wt_carryOut at h
  refine pw_aload_n (pc := 0) hG d_Wt_carryOut_0 rfl ?_
  refine g5_0 (pc := 1) hG m_224 d_Wt_carryOut_1 o1 ?_
  obtain ⟨hr4, hz4_0, hz4_1, hz4_2, hzd4⟩ := h
  by_cases hc4_0 : (S.1 v1 0 0) = 0
  · refine pw_table (tgt := 32) (pc := 4) hG d_Wt_carryOut_4 hr4 (by omega) (by omega) (off := 28) (by rw [hc4_0]; rfl) (by decide) ?_
    replace h := hz4_0 hc4_0
    refine pw_aload_n (pc := 32) hG d_Wt_carryOut_32 rfl ?_
    refine g8_1 (pc := 33) hG m_197 d_Wt_carryOut_33 o0 ?_
    refine pw_aload_n (pc := 36) hG d_Wt_carryOut_36 rfl ?_
    refine g5_1 (pc := 37) hG m_228 d_Wt_carryOut_37 o1 ?_
    refine pw_aload_n (pc := 40) hG d_Wt_carryOut_40 rfl ?_
    refine g5_5 (pc := 41) hG m_240 d_Wt_carryOut_41 o1 ?_
    obtain ⟨hi44, h⟩ := h
    refine pw_sI (pc := 44) hG (q_arr hΛ o0 rfl (by decide)) hi44 d_Wt_carryOut_44 (fun S44 eS44 => ?_)
    replace h := h S44 eS44
    refine pw_goto (tgt := 128) (pc := 45) hG d_Wt_carryOut_45 (by decide) ?_
    exact hR 128 _ _ d_Wt_carryOut_128 h
  by_cases hc4_1 : (S.1 v1 0 0) = 1
  · refine pw_table (tgt := 48) (pc := 4) hG d_Wt_carryOut_4 hr4 (by omega) (by omega) (off := 44) (by rw [hc4_1]; rfl) (by decide) ?_
    replace h := hz4_1 hc4_1
    refine pw_aload_n (pc := 48) hG d_Wt_carryOut_48 rfl ?_
    refine g8_0 (pc := 49) hG m_194 d_Wt_carryOut_49 o0 ?_
    refine pw_aload_n (pc := 52) hG d_Wt_carryOut_52 rfl ?_
    refine g5_1 (pc := 53) hG m_228 d_Wt_carryOut_53 o1 ?_
    refine pw_aload_n (pc := 56) hG d_Wt_carryOut_56 rfl ?_
    refine g5_4 (pc := 57) hG m_237 d_Wt_carryOut_57 o1 ?_
    obtain ⟨hi60, h⟩ := h
    refine pw_sI (pc := 60) hG (q_arr hΛ o0 rfl (by decide)) hi60 d_Wt_carryOut_60 (fun S60 eS60 => ?_)
    replace h := h S60 eS60
    refine pw_aload_n (pc := 61) hG d_Wt_carryOut_61 rfl ?_
    refine g8_1 (pc := 62) hG m_197 d_Wt_carryOut_62 o0 ?_
    refine pw_aload_n (pc := 65) hG d_Wt_carryOut_65 rfl ?_
    refine g5_1 (pc := 66) hG m_228 d_Wt_carryOut_66 o1 ?_
    refine pw_aload_n (pc := 69) hG d_Wt_carryOut_69 rfl ?_
    refine g5_5 (pc := 70) hG m_240 d_Wt_carryOut_70 o1 ?_
    obtain ⟨hi73, h⟩ := h
    refine pw_sI (pc := 73) hG (q_arr hΛ o0 rfl (by decide)) hi73 d_Wt_carryOut_73 (fun S73 eS73 => ?_)
    replace h := h S73 eS73
    refine pw_aload_n (pc := 74) hG d_Wt_carryOut_74 rfl ?_
    refine pw_aload_n (pc := 75) hG d_Wt_carryOut_75 rfl ?_
    refine g5_1 (pc := 76) hG m_228 d_Wt_carryOut_76 o1 ?_
    refine pw_aload_n (pc := 79) hG d_Wt_carryOut_79 rfl ?_
    refine g5_2 (pc := 80) hG m_231 d_Wt_carryOut_80 o1 ?_
    refine pw_aload_n (pc := 83) hG d_Wt_carryOut_83 rfl ?_
    refine g5_3 (pc := 84) hG m_234 d_Wt_carryOut_84 o1 ?_
    refine pw_callv (pc := 87) hG (fun l Δ => ct_Wt_putIn l Δ hΛ o0 h) o0 rfl (by decide) m_638 k_Wt_putIn rfl ⟨by decide, by decide⟩ (Nat.le_of_ble_eq_true rfl) d_Wt_carryOut_87 rfl (fun S87 h => ?_)
    refine pw_goto (tgt := 128) (pc := 90) hG d_Wt_carryOut_90 (by decide) ?_
    exact hR 128 _ _ d_Wt_carryOut_128 h
  by_cases hc4_2 : (S.1 v1 0 0) = 2
  · refine pw_table (tgt := 93) (pc := 4) hG d_Wt_carryOut_4 hr4 (by omega) (by omega) (off := 89) (by rw [hc4_2]; rfl) (by decide) ?_
    replace h := hz4_2 hc4_2
    refine pw_aload_n (pc := 93) hG d_Wt_carryOut_93 rfl ?_
    refine pw_aload_n (pc := 94) hG d_Wt_carryOut_94 rfl ?_
    refine g5_1 (pc := 95) hG m_228 d_Wt_carryOut_95 o1 ?_
    refine pw_callv (pc := 98) hG (fun l Δ => ct_Wt_takeOut l Δ hΛ o0 h) o0 rfl (by decide) m_639 k_Wt_takeOut rfl ⟨by decide, by decide⟩ (Nat.le_of_ble_eq_true rfl) d_Wt_carryOut_98 rfl (fun S98 h => ?_)
    refine pw_aload_n (pc := 101) hG d_Wt_carryOut_101 rfl ?_
    refine pw_aload_n (pc := 102) hG d_Wt_carryOut_102 rfl ?_
    refine g5_1 (pc := 103) hG m_228 d_Wt_carryOut_103 o1 ?_
    refine pw_aload_n (pc := 106) hG d_Wt_carryOut_106 rfl ?_
    refine g5_2 (pc := 107) hG m_231 d_Wt_carryOut_107 o1 ?_
    refine pw_aload_n (pc := 110) hG d_Wt_carryOut_110 rfl ?_
    refine g5_3 (pc := 111) hG m_234 d_Wt_carryOut_111 o1 ?_
    refine pw_callv (pc := 114) hG (fun l Δ => ct_Wt_putIn l Δ hΛ o0 h) o0 rfl (by decide) m_638 k_Wt_putIn rfl ⟨by decide, by decide⟩ (Nat.le_of_ble_eq_true rfl) d_Wt_carryOut_114 rfl (fun S114 h => ?_)
    refine pw_goto (tgt := 128) (pc := 117) hG d_Wt_carryOut_117 (by decide) ?_
    exact hR 128 _ _ d_Wt_carryOut_128 h
  have hcd4 : (S.1 v1 0 0) < 0 ∨ 2 < (S.1 v1 0 0) := by omega
  refine pw_tableD (tgt := 120) (pc := 4) hG d_Wt_carryOut_4 hr4 hcd4 (by decide) ?_
  replace h := hzd4 hcd4
  refine pw_aload_n (pc := 120) hG d_Wt_carryOut_120 rfl ?_
  refine pw_aload_n (pc := 121) hG d_Wt_carryOut_121 rfl ?_
  refine g5_1 (pc := 122) hG m_228 d_Wt_carryOut_122 o1 ?_
  refine pw_callv (pc := 125) hG (fun l Δ => ct_Wt_takeOut l Δ hΛ o0 h) o0 rfl (by decide) m_639 k_Wt_takeOut rfl ⟨by decide, by decide⟩ (Nat.le_of_ble_eq_true rfl) d_Wt_carryOut_125 rfl (fun S125 h => ?_)
  exact hR 128 _ _ d_Wt_carryOut_128 h
theorem ct_Wt_carryOut (l : Launch) (Δ : QDl) {Λ : QLay} (hΛ : LayOk Λ) {v0 : Nat} {v1 : Nat} {S : QMem} {Q : QMem → Prop} (o0 : qob Λ 8 v0) (o1 : qob Λ 5 v1) (h : w_Wt_carryOut Λ v0 v1 S Q) : QCt l y_Wt_carryOut c_Wt_carryOut 2 none 2 44 Δ Λ [.ref v0, .ref v1] S (qV Q) :=
  QCt.mk (own := "TreeDiffer$WorkTree") hΛ (by decide) rfl rfl (Nat.le_of_ble_eq_true rfl) (fun G hG ri rz rv rj ra => b_Wt_carryOut_0 hG (fun pc lv S d hq => rv pc lv S rfl d ⟨rfl, hq⟩) v0 v1 S o0 o1 h)
theorem k_Sc_insert : QVf y_Sc_insert c_Sc_insert 4 none "TreeDiffer$Script" 2 := ⟨m_629, m_p29, m_6, m_630, by decide +kernel⟩
theorem b_Sc_insert_0 {Λ : QLay} {G : Nat → List (Nat × Value) → List Value → QMem → Prop} {Q : QMem → Prop} (hG : QAct c_Sc_insert "TreeDiffer$Script" 4 { frames := 3, cells := 0, slots := 0, locals := 65 } Λ G) (hR : RtV c_Sc_insert G Q) (v0 : Nat) (v1 : Nat) (v2 : Int) (S : QMem) (o0 : qob Λ 3 v0) (o1 : qob Λ 7 v1) (h : w_Sc_insert Λ v0 v1 v2 S Q) : G 0 [(0, .ref v0), (1, .ref v1), (2, vI v2)] [] S := by
  have hΛ := hG.lay
  unfold w_Sc_insert at h
  refine pw_aload_n (pc := 0) hG d_Sc_insert_0 rfl ?_
  refine pw_iconst (pc := 1) hG d_Sc_insert_1 ?_
  refine pw_iload_n (pc := 2) hG d_Sc_insert_2 rfl ?_
  refine pw_scallin (pc := 3) hG (fun l Δ => ct_TD_roomOfInserted l Δ hΛ  h) (fun _ hn => hn.1) k_TD_roomOfInserted rfl ⟨by decide, by decide⟩ (Nat.le_of_ble_eq_true rfl) d_Sc_insert_3 rfl (fun r3 S3 h => ?_)
  refine pw_callr (pc := 6) hG (fun l Δ => ct_Sc_addStep l Δ hΛ o0 h) o0 rfl (by decide) m_602 k_Sc_addStep rfl ⟨by decide, by decide⟩ (Nat.le_of_ble_eq_true rfl) d_Sc_insert_6 rfl (fun r6 or6 S6 h => ?_)
  refine pw_astore_n (pc := 9) hG d_Sc_insert_9 (by decide) rfl ?_
  refine pw_aload_n (pc := 10) hG d_Sc_insert_10 rfl ?_
  refine pw_aload_n (pc := 11) hG d_Sc_insert_11 rfl ?_
  refine pw_aload_n (pc := 12) hG d_Sc_insert_12 rfl ?_
  refine g7_3 (pc := 13) hG m_54 d_Sc_insert_13 o1 ?_
  refine pw_iload_n (pc := 16) hG d_Sc_insert_16 rfl ?_
  obtain ⟨hi17, h⟩ := h
  refine pw_aI (pc := 17) hG (q_arr hΛ o1 rfl (by decide)) hi17 d_Sc_insert_17 ?_
  refine pw_calli (pc := 18) hG (fun l Δ => ct_Sc_partnerOf l Δ hΛ o0 h) o0 rfl (by decide) m_577 k_Sc_partnerOf rfl ⟨by decide, by decide⟩ (Nat.le_of_ble_eq_true rfl) d_Sc_insert_18 rfl (fun r18 S18 h => ?_)
  refine p5_2 (pc := 21) hG m_230 d_Sc_insert_21 or6 (fun S21 eS21 => ?_)
  replace h := h S21 eS21
  refine pw_aload_n (pc := 24) hG d_Sc_insert_24 rfl ?_
  refine pw_aload_n (pc := 25) hG d_Sc_insert_25 rfl ?_
  refine pw_aload_n (pc := 26) hG d_Sc_insert_26 rfl ?_
  refine pw_iload_n (pc := 27) hG d_Sc_insert_27 rfl ?_
  refine pw_calli (pc := 28) hG (fun l Δ => ct_Sc_placeFor l Δ hΛ o0 o1 h) o0 rfl (by decide) m_615 k_Sc_placeFor rfl ⟨by decide, by decide⟩ (Nat.le_of_ble_eq_true rfl) d_Sc_insert_28 rfl (fun r28 S28 h => ?_)
  refine p5_3 (pc := 31) hG m_233 d_Sc_insert_31 or6 (fun S31 eS31 => ?_)
  replace h := h S31 eS31
  refine pw_aload_n (pc := 34) hG d_Sc_insert_34 rfl ?_
  refine pw_aload_n (pc := 35) hG d_Sc_insert_35 rfl ?_
  refine g7_1 (pc := 36) hG m_43 d_Sc_insert_36 o1 ?_
  refine pw_iload_n (pc := 39) hG d_Sc_insert_39 rfl ?_
  obtain ⟨hi40, h⟩ := h
  refine pw_aI (pc := 40) hG (q_arr hΛ o1 rfl (by decide)) hi40 d_Sc_insert_40 ?_
  refine p5_4 (pc := 41) hG m_236 d_Sc_insert_41 or6 (fun S41 eS41 => ?_)
  replace h := h S41 eS41
  refine pw_aload_n (pc := 44) hG d_Sc_insert_44 rfl ?_
  refine pw_aload_n (pc := 45) hG d_Sc_insert_45 rfl ?_
  refine g7_2 (pc := 46) hG m_47 d_Sc_insert_46 o1 ?_
  refine pw_iload_n (pc := 49) hG d_Sc_insert_49 rfl ?_
  obtain ⟨hi50, h⟩ := h
  refine pw_aI (pc := 50) hG (q_arr hΛ o1 rfl (by decide)) hi50 d_Sc_insert_50 ?_
  refine p5_5 (pc := 51) hG m_239 d_Sc_insert_51 or6 (fun S51 eS51 => ?_)
  replace h := h S51 eS51
  refine pw_aload_n (pc := 54) hG d_Sc_insert_54 rfl ?_
  refine g3_2 (pc := 55) hG m_270 d_Sc_insert_55 o0 ?_
  refine pw_aload_n (pc := 58) hG d_Sc_insert_58 rfl ?_
  refine pw_callv (pc := 59) hG (fun l Δ => ct_Wt_carryOut l Δ hΛ (q_rf hΛ o0 rfl (by decide)) or6 h) (q_rf hΛ o0 rfl (by decide)) rfl (by decide) m_634 k_Wt_carryOut rfl ⟨by decide, by decide⟩ (Nat.le_of_ble_eq_true rfl) d_Sc_insert_59 rfl (fun S59 h => ?_)
  refine pw_aload_n (pc := 62) hG d_Sc_insert_62 rfl ?_
  refine g3_3 (pc := 63) hG m_271 d_Sc_insert_63 o0 ?_
  refine pw_iload_n (pc := 66) hG d_Sc_insert_66 rfl ?_
  refine pw_aload_n (pc := 67) hG d_Sc_insert_67 rfl ?_
  refine g5_1 (pc := 68) hG m_227 d_Sc_insert_68 or6 ?_
  obtain ⟨hi71, h⟩ := h
  refine pw_sI (pc := 71) hG (q_arr hΛ o0 rfl (by decide)) hi71 d_Sc_insert_71 (fun S71 eS71 => ?_)
  replace h := h S71 eS71
  refine pw_aload_n (pc := 72) hG d_Sc_insert_72 rfl ?_
  refine g3_4 (pc := 73) hG m_272 d_Sc_insert_73 o0 ?_
  refine pw_iload_n (pc := 76) hG d_Sc_insert_76 rfl ?_
  refine pw_iconst (pc := 77) hG d_Sc_insert_77 ?_
  obtain ⟨hi78, h⟩ := h
  refine pw_sZ (pc := 78) hG (q_arr hΛ o0 rfl (by decide)) hi78 (Or.inr rfl) d_Sc_insert_78 (fun S78 eS78 => ?_)
  replace h := h S78 eS78
  exact hR 79 _ _ d_Sc_insert_79 h
theorem ct_Sc_insert (l : Launch) (Δ : QDl) {Λ : QLay} (hΛ : LayOk Λ) {v0 : Nat} {v1 : Nat} {v2 : Int} {S : QMem} {Q : QMem → Prop} (o0 : qob Λ 3 v0) (o1 : qob Λ 7 v1) (h : w_Sc_insert Λ v0 v1 v2 S Q) : QCt l y_Sc_insert c_Sc_insert 4 none 3 65 Δ Λ [.ref v0, .ref v1, vI v2] S (qV Q) :=
  QCt.mk (own := "TreeDiffer$Script") hΛ (by decide) rfl rfl (Nat.le_of_ble_eq_true rfl) (fun G hG ri rz rv rj ra => b_Sc_insert_0 hG (fun pc lv S d hq => rv pc lv S rfl d ⟨rfl, hq⟩) v0 v1 v2 S o0 o1 h)
theorem k_Sc_update : QVf y_Sc_update c_Sc_update 4 none "TreeDiffer$Script" 2 := ⟨m_642, m_p30, m_6, m_643, by decide +kernel⟩
theorem b_Sc_update_0 {Λ : QLay} {G : Nat → List (Nat × Value) → List Value → QMem → Prop} {Q : QMem → Prop} (hG : QAct c_Sc_update "TreeDiffer$Script" 4 { frames := 3, cells := 0, slots := 0, locals := 65 } Λ G) (hR : RtV c_Sc_update G Q) (v0 : Nat) (v1 : Int) (v2 : Int) (S : QMem) (o0 : qob Λ 3 v0) (h : w_Sc_update Λ v0 v1 v2 S Q) : G 0 [(0, .ref v0), (1, vI v1), (2, vI v2)] [] S := by
  have hΛ := hG.lay
  unfold w_Sc_update at h
  refine pw_aload_n (pc := 0) hG d_Sc_update_0 rfl ?_
  refine pw_iconst (pc := 1) hG d_Sc_update_1 ?_
  refine pw_iload_n (pc := 2) hG d_Sc_update_2 rfl ?_
  refine pw_callr (pc := 3) hG (fun l Δ => ct_Sc_addStep l Δ hΛ o0 h) o0 rfl (by decide) m_602 k_Sc_addStep rfl ⟨by decide, by decide⟩ (Nat.le_of_ble_eq_true rfl) d_Sc_update_3 rfl (fun r3 or3 S3 h => ?_)
  refine pw_astore_n (pc := 6) hG d_Sc_update_6 (by decide) rfl ?_
  refine pw_aload_n (pc := 7) hG d_Sc_update_7 rfl ?_
  refine pw_iload_n (pc := 8) hG d_Sc_update_8 rfl ?_
  refine p5_5 (pc := 9) hG m_239 d_Sc_update_9 or3 (fun S9 eS9 => ?_)
  replace h := h S9 eS9
  refine pw_aload_n (pc := 12) hG d_Sc_update_12 rfl ?_
  refine pw_aload_n (pc := 13) hG d_Sc_update_13 rfl ?_
  refine g3_2 (pc := 14) hG m_270 d_Sc_update_14 o0 ?_
  refine g8_1 (pc := 17) hG m_199 d_Sc_update_17 (q_rf hΛ o0 rfl (by decide)) ?_
  refine pw_iload_n (pc := 20) hG d_Sc_update_20 rfl ?_
  obtain ⟨hi21, h⟩ := h
  refine pw_aI (pc := 21) hG (q_arr hΛ (q_rf hΛ o0 rfl (by decide)) rfl (by decide)) hi21 d_Sc_update_21 ?_
  refine p5_8 (pc := 22) hG m_245 d_Sc_update_22 or3 (fun S22 eS22 => ?_)
  replace h := h S22 eS22
  refine pw_aload_n (pc := 25) hG d_Sc_update_25 rfl ?_
  refine g3_2 (pc := 26) hG m_270 d_Sc_update_26 o0 ?_
  refine pw_aload_n (pc := 29) hG d_Sc_update_29 rfl ?_
  refine pw_callv (pc := 30) hG (fun l Δ => ct_Wt_carryOut l Δ hΛ (q_rf hΛ o0 rfl (by decide)) or3 h) (q_rf hΛ o0 rfl (by decide)) rfl (by decide) m_634 k_Wt_carryOut rfl ⟨by decide, by decide⟩ (Nat.le_of_ble_eq_true rfl) d_Sc_update_30 rfl (fun S30 h => ?_)
  exact hR 33 _ _ d_Sc_update_33 h
theorem ct_Sc_update (l : Launch) (Δ : QDl) {Λ : QLay} (hΛ : LayOk Λ) {v0 : Nat} {v1 : Int} {v2 : Int} {S : QMem} {Q : QMem → Prop} (o0 : qob Λ 3 v0) (h : w_Sc_update Λ v0 v1 v2 S Q) : QCt l y_Sc_update c_Sc_update 4 none 3 65 Δ Λ [.ref v0, vI v1, vI v2] S (qV Q) :=
  QCt.mk (own := "TreeDiffer$Script") hΛ (by decide) rfl rfl (Nat.le_of_ble_eq_true rfl) (fun G hG ri rz rv rj ra => b_Sc_update_0 hG (fun pc lv S d hq => rv pc lv S rfl d ⟨rfl, hq⟩) v0 v1 v2 S o0 h)
theorem k_Sc_bringIntoLine : QVf y_Sc_bringIntoLine c_Sc_bringIntoLine 4 none "TreeDiffer$Script" 2 := ⟨m_625, m_p28, m_6, m_626, by decide +kernel⟩
theorem b_Sc_bringIntoLine_83 {Λ : QLay} {G : Nat → List (Nat × Value) → List Value → QMem → Prop} {Q : QMem → Prop} (hG : QAct c_Sc_bringIntoLine "TreeDiffer$Script" 4 { frames := 4, cells := 0, slots := 0, locals := 93 } Λ G) (hR : RtV c_Sc_bringIntoLine G Q) (v0 : Nat) (v1 : Nat) (v2 : Int) (S : QMem) (o_v0 : qob Λ 3 v0) (o_v1 : qob Λ 7 v1) (h : w_Sc_bringIntoLine_83 Λ Q v0 v1 v2 S) : G 83 [(0, .ref v0), (1, .ref v1), (2, vI v2)] [] S := by
  have hΛ := hG.lay
  unfold w_Sc_bringIntoLine_83 at h
  refine pw_aload_n (pc := 83) hG d_Sc_bringIntoLine_83 rfl ?_
  refine pw_aload_n (pc := 84) hG d_Sc_bringIntoLine_84 rfl ?_
  refine pw_iload_n (pc := 85) hG d_Sc_bringIntoLine_85 rfl ?_
  refine pw_callv (pc := 86) hG (fun l Δ => ct_Sc_putChildrenInOrder l Δ hΛ o_v0 o_v1 h) o_v0 rfl (by decide) m_568 k_Sc_putChildrenInOrder rfl ⟨by decide, by decide⟩ (Nat.le_of_ble_eq_true rfl) d_Sc_bringIntoLine_86 rfl (fun S86 h => ?_)
  exact hR 89 _ _ d_Sc_bringIntoLine_89 h
theorem b_Sc_bringIntoLine_55 {Λ : QLay} {G : Nat → List (Nat × Value) → List Value → QMem → Prop} {Q : QMem → Prop} (hG : QAct c_Sc_bringIntoLine "TreeDiffer$Script" 4 { frames := 4, cells := 0, slots := 0, locals := 93 } Λ G) (hR : RtV c_Sc_bringIntoLine G Q) (v0 : Nat) (v1 : Nat) (v2 : Int) (v3 : Int) (S : QMem) (o_v0 : qob Λ 3 v0) (o_v1 : qob Λ 7 v1) (h : w_Sc_bringIntoLine_55 Λ Q v0 v1 v2 v3 S) : G 55 [(0, .ref v0), (1, .ref v1), (2, vI v2), (3, vI v3)] [] S := by
  have hΛ := hG.lay
  unfold w_Sc_bringIntoLine_55 at h
  refine pw_aload_n (pc := 55) hG d_Sc_bringIntoLine_55 rfl ?_
  refine g3_2 (pc := 56) hG m_270 d_Sc_bringIntoLine_56 o_v0 ?_
  refine g8_2 (pc := 59) hG m_203 d_Sc_bringIntoLine_59 (q_rf hΛ o_v0 rfl (by decide)) ?_
  refine pw_iload_n (pc := 62) hG d_Sc_bringIntoLine_62 rfl ?_
  obtain ⟨hi63, h⟩ := h
  refine pw_aI (pc := 63) hG (q_arr hΛ (q_rf hΛ o_v0 rfl (by decide)) rfl (by decide)) hi63 d_Sc_bringIntoLine_63 ?_
  refine pw_aload_n (pc := 64) hG d_Sc_bringIntoLine_64 rfl ?_
  refine pw_aload_n (pc := 65) hG d_Sc_bringIntoLine_65 rfl ?_
  refine g7_3 (pc := 66) hG m_54 d_Sc_bringIntoLine_66 o_v1 ?_
  refine pw_iload_n (pc := 69) hG d_Sc_bringIntoLine_69 rfl ?_
  obtain ⟨hi70, h⟩ := h
  refine pw_aI (pc := 70) hG (q_arr hΛ o_v1 rfl (by decide)) hi70 d_Sc_bringIntoLine_70 ?_
  refine pw_calli (pc := 71) hG (fun l Δ => ct_Sc_partnerOf l Δ hΛ o_v0 h) o_v0 rfl (by decide) m_577 k_Sc_partnerOf rfl ⟨by decide, by decide⟩ (Nat.le_of_ble_eq_true rfl) d_Sc_bringIntoLine_71 rfl (fun r71 S71 h => ?_)
  obtain ⟨hrx74, hry74, ha74, hb74⟩ := h
  refine pw_icmp_eq (tgt := 83) (pc := 74) hG d_Sc_bringIntoLine_74 (by decide) hrx74 hry74 (fun hc74 => ?_) (fun hc74 => ?_)
  · replace h := ha74 hc74
    exact pw_sub hG [0, 1, 2] rfl (b_Sc_bringIntoLine_83 hG hR v0 v1 v2 S71 o_v0 o_v1 h)
  · replace h := hb74 hc74
    refine pw_aload_n (pc := 77) hG d_Sc_bringIntoLine_77 rfl ?_
    refine pw_aload_n (pc := 78) hG d_Sc_bringIntoLine_78 rfl ?_
    refine pw_iload_n (pc := 79) hG d_Sc_bringIntoLine_79 rfl ?_
    refine pw_callv (pc := 80) hG (fun l Δ => ct_Sc_move l Δ hΛ o_v0 o_v1 h) o_v0 rfl (by decide) m_598 k_Sc_move rfl ⟨by decide, by decide⟩ (Nat.le_of_ble_eq_true rfl) d_Sc_bringIntoLine_80 rfl (fun S80 h => ?_)
    exact pw_sub hG [0, 1, 2] rfl (b_Sc_bringIntoLine_83 hG hR v0 v1 v2 S80 o_v0 o_v1 h)
theorem b_Sc_bringIntoLine_0 {Λ : QLay} {G : Nat → List (Nat × Value) → List Value → QMem → Prop} {Q : QMem → Prop} (hG : QAct c_Sc_bringIntoLine "TreeDiffer$Script" 4 { frames := 4, cells := 0, slots := 0, locals := 93 } Λ G) (hR : RtV c_Sc_bringIntoLine G Q) (v0 : Nat) (v1 : Nat) (v2 : Int) (S : QMem) (o0 : qob Λ 3 v0) (o1 : qob Λ 7 v1) (h : w_Sc_bringIntoLine Λ v0 v1 v2 S Q) : G 0 [(0, .ref v0), (1, .ref v1), (2, vI v2)] [] S := by
  have hΛ := hG.lay
  unfold w_Sc_bringIntoLine at h
  refine pw_aload_n (pc := 0) hG d_Sc_bringIntoLine_0 rfl ?_
  refine g3_3 (pc := 1) hG m_271 d_Sc_bringIntoLine_1 o0 ?_
  refine pw_iload_n (pc := 4) hG d_Sc_bringIntoLine_4 rfl ?_
  obtain ⟨hi5, h⟩ := h
  refine pw_aI (pc := 5) hG (q_arr hΛ o0 rfl (by decide)) hi5 d_Sc_bringIntoLine_5 ?_
  refine pw_iconst (pc := 6) hG d_Sc_bringIntoLine_6 ?_
  obtain ⟨hrx7, ha7, hb7⟩ := h
  refine pw_icmp_ne (tgt := 19) (pc := 7) hG d_Sc_bringIntoLine_7 (by decide) hrx7 (q_lit rfl) (fun hc7 => ?_) (fun hc7 => ?_)
  · replace h := ha7 hc7
    refine pw_aload_n (pc := 19) hG d_Sc_bringIntoLine_19 rfl ?_
    refine g3_3 (pc := 20) hG m_271 d_Sc_bringIntoLine_20 o0 ?_
    refine pw_iload_n (pc := 23) hG d_Sc_bringIntoLine_23 rfl ?_
    obtain ⟨hi24, h⟩ := h
    refine pw_aI (pc := 24) hG (q_arr hΛ o0 rfl (by decide)) hi24 d_Sc_bringIntoLine_24 ?_
    refine pw_istore_n (pc := 25) hG d_Sc_bringIntoLine_25 (by decide) (fun x25 ex25 => ⟨_, rfl, ?_⟩)
    replace h := h x25 ex25
    refine pw_aload_n (pc := 26) hG d_Sc_bringIntoLine_26 rfl ?_
    refine g3_2 (pc := 27) hG m_270 d_Sc_bringIntoLine_27 o0 ?_
    refine g8_1 (pc := 30) hG m_199 d_Sc_bringIntoLine_30 (q_rf hΛ o0 rfl (by decide)) ?_
    refine pw_iload_n (pc := 33) hG d_Sc_bringIntoLine_33 rfl ?_
    obtain ⟨hi34, h⟩ := h
    refine pw_aI (pc := 34) hG (q_arr hΛ (q_rf hΛ o0 rfl (by decide)) rfl (by decide)) hi34 d_Sc_bringIntoLine_34 ?_
    refine pw_aload_n (pc := 35) hG d_Sc_bringIntoLine_35 rfl ?_
    refine g7_2 (pc := 36) hG m_47 d_Sc_bringIntoLine_36 o1 ?_
    refine pw_iload_n (pc := 39) hG d_Sc_bringIntoLine_39 rfl ?_
    obtain ⟨hi40, h⟩ := h
    refine pw_aI (pc := 40) hG (q_arr hΛ o1 rfl (by decide)) hi40 d_Sc_bringIntoLine_40 ?_
    obtain ⟨hrx41, hry41, ha41, hb41⟩ := h
    refine pw_icmp_eq (tgt := 55) (pc := 41) hG d_Sc_bringIntoLine_41 (by decide) hrx41 hry41 (fun hc41 => ?_) (fun hc41 => ?_)
    · replace h := ha41 hc41
      exact pw_sub hG [0, 1, 2, 3] rfl (b_Sc_bringIntoLine_55 hG hR v0 v1 v2 x25 S o0 o1 h)
    · replace h := hb41 hc41
      refine pw_aload_n (pc := 44) hG d_Sc_bringIntoLine_44 rfl ?_
      refine pw_iload_n (pc := 45) hG d_Sc_bringIntoLine_45 rfl ?_
      refine pw_aload_n (pc := 46) hG d_Sc_bringIntoLine_46 rfl ?_
      refine g7_2 (pc := 47) hG m_47 d_Sc_bringIntoLine_47 o1 ?_
      refine pw_iload_n (pc := 50) hG d_Sc_bringIntoLine_50 rfl ?_
      obtain ⟨hi51, h⟩ := h
      refine pw_aI (pc := 51) hG (q_arr hΛ o1 rfl (by decide)) hi51 d_Sc_bringIntoLine_51 ?_
      refine pw_callv (pc := 52) hG (fun l Δ => ct_Sc_update l Δ hΛ o0 h) o0 rfl (by decide) m_640 k_Sc_update rfl ⟨by decide, by decide⟩ (Nat.le_of_ble_eq_true rfl) d_Sc_bringIntoLine_52 rfl (fun S52 h => ?_)
      exact pw_sub hG [0, 1, 2, 3] rfl (b_Sc_bringIntoLine_55 hG hR v0 v1 v2 x25 S52 o0 o1 h)
  · replace h := hb7 hc7
    refine pw_aload_n (pc := 10) hG d_Sc_bringIntoLine_10 rfl ?_
    refine pw_aload_n (pc := 11) hG d_Sc_bringIntoLine_11 rfl ?_
    refine pw_iload_n (pc := 12) hG d_Sc_bringIntoLine_12 rfl ?_
    refine pw_callv (pc := 13) hG (fun l Δ => ct_Sc_insert l Δ hΛ o0 o1 h) o0 rfl (by decide) m_627 k_Sc_insert rfl ⟨by decide, by decide⟩ (Nat.le_of_ble_eq_true rfl) d_Sc_bringIntoLine_13 rfl (fun S13 h => ?_)
    refine pw_goto (tgt := 83) (pc := 16) hG d_Sc_bringIntoLine_16 (by decide) ?_
    exact pw_sub hG [0, 1, 2] rfl (b_Sc_bringIntoLine_83 hG hR v0 v1 v2 S13 o0 o1 h)
theorem ct_Sc_bringIntoLine (l : Launch) (Δ : QDl) {Λ : QLay} (hΛ : LayOk Λ) {v0 : Nat} {v1 : Nat} {v2 : Int} {S : QMem} {Q : QMem → Prop} (o0 : qob Λ 3 v0) (o1 : qob Λ 7 v1) (h : w_Sc_bringIntoLine Λ v0 v1 v2 S Q) : QCt l y_Sc_bringIntoLine c_Sc_bringIntoLine 4 none 4 93 Δ Λ [.ref v0, .ref v1, vI v2] S (qV Q) :=
  QCt.mk (own := "TreeDiffer$Script") hΛ (by decide) rfl rfl (Nat.le_of_ble_eq_true rfl) (fun G hG ri rz rv rj ra => b_Sc_bringIntoLine_0 hG (fun pc lv S d hq => rv pc lv S rfl d ⟨rfl, hq⟩) v0 v1 v2 S o0 o1 h)
theorem k_Sc_deleteRest : QVf y_Sc_deleteRest c_Sc_deleteRest 6 none "TreeDiffer$Script" 2 := ⟨m_646, m_p31, m_6, m_647, by decide +kernel⟩
theorem b_Sc_deleteRest_2 {Λ : QLay} {G : Nat → List (Nat × Value) → List Value → QMem → Prop} {Q : QMem → Prop} (hG : QAct c_Sc_deleteRest "TreeDiffer$Script" 6 { frames := 3, cells := 0, slots := 0, locals := 65 } Λ G) (hR : RtV c_Sc_deleteRest G Q) : ∀ (n : Nat) (v0 : Nat) (v1 : Nat) (v2 : Nat) (v3 : Int) (S : QMem), qob Λ 3 v0 → qob Λ 7 v1 → qob Λ 1 v2 → w_Sc_deleteRest_2 Λ Q n v0 v1 v2 v3 S → G 2 [(0, .ref v0), (1, .ref v1), (2, .ref v2), (3, vI v3)] [] S := by
  have hΛ := hG.lay
  intro n
  induction n with
  | zero => intro v0 v1 v2 v3 S o_v0 o_v1 o_v2 h; exact h.elim
  | succ n ih =>
    intro v0 v1 v2 v3 S o_v0 o_v1 o_v2 h
    rw [w_Sc_deleteRest_2] at h
    refine pw_iload_n (pc := 2) hG d_Sc_deleteRest_2 rfl ?_
    refine pw_aload_n (pc := 3) hG d_Sc_deleteRest_3 rfl ?_
    refine g7_0 (pc := 4) hG m_36 d_Sc_deleteRest_4 o_v1 ?_
    obtain ⟨hrx7, hry7, ha7, hb7⟩ := h
    refine pw_icmp_ge (tgt := 83) (pc := 7) hG d_Sc_deleteRest_7 (by decide) hrx7 hry7 (fun hc7 => ?_) (fun hc7 => ?_)
    · replace h := ha7 hc7
      exact hR 83 _ _ d_Sc_deleteRest_83 h
    · replace h := hb7 hc7
      refine pw_aload_n (pc := 10) hG d_Sc_deleteRest_10 rfl ?_
      refine g7_9 (pc := 11) hG m_75 d_Sc_deleteRest_11 o_v1 ?_
      refine pw_iload_n (pc := 14) hG d_Sc_deleteRest_14 rfl ?_
      obtain ⟨hi15, h⟩ := h
      refine pw_aI (pc := 15) hG (q_arr hΛ o_v1 rfl (by decide)) hi15 d_Sc_deleteRest_15 ?_
      refine pw_istore (pc := 16) hG d_Sc_deleteRest_16 (by decide) (fun x16 ex16 => ⟨_, rfl, ?_⟩)
      replace h := h x16 ex16
      refine pw_aload_n (pc := 18) hG d_Sc_deleteRest_18 rfl ?_
      refine g1_1 (pc := 19) hG m_164 d_Sc_deleteRest_19 o_v2 ?_
      refine pw_iload (pc := 22) hG d_Sc_deleteRest_22 rfl ?_
      obtain ⟨hi24, h⟩ := h
      refine pw_aI (pc := 24) hG (q_arr hΛ o_v2 rfl (by decide)) hi24 d_Sc_deleteRest_24 ?_
      refine pw_iconst (pc := 25) hG d_Sc_deleteRest_25 ?_
      obtain ⟨hrx26, ha26, hb26⟩ := h
      refine pw_icmp_ne (tgt := 77) (pc := 26) hG d_Sc_deleteRest_26 (by decide) hrx26 (q_lit rfl) (fun hc26 => ?_) (fun hc26 => ?_)
      · replace h := ha26 hc26
        refine pw_iinc0 (pc := 77) hG d_Sc_deleteRest_77 rfl (by decide) rfl ?_
        refine pw_goto (tgt := 2) (pc := 80) hG d_Sc_deleteRest_80 (by decide) ?_
        exact pw_sub hG [0, 1, 2, 3] rfl (ih v0 v1 v2 (v3 + 1) S o_v0 o_v1 o_v2 h)
      · replace h := hb26 hc26
        refine pw_aload_n (pc := 29) hG d_Sc_deleteRest_29 rfl ?_
        refine pw_iconst (pc := 30) hG d_Sc_deleteRest_30 ?_
        refine pw_iload (pc := 31) hG d_Sc_deleteRest_31 rfl ?_
        refine pw_callr (pc := 33) hG (fun l Δ => ct_Sc_addStep l Δ hΛ o_v0 h) o_v0 rfl (by decide) m_602 k_Sc_addStep rfl ⟨by decide, by decide⟩ (Nat.le_of_ble_eq_true rfl) d_Sc_deleteRest_33 rfl (fun r33 or33 S33 h => ?_)
        refine pw_astore (pc := 36) hG d_Sc_deleteRest_36 (by decide) rfl ?_
        refine pw_aload (pc := 38) hG d_Sc_deleteRest_38 rfl ?_
        refine pw_aload_n (pc := 40) hG d_Sc_deleteRest_40 rfl ?_
        refine g3_2 (pc := 41) hG m_270 d_Sc_deleteRest_41 o_v0 ?_
        refine g8_2 (pc := 44) hG m_203 d_Sc_deleteRest_44 (q_rf hΛ o_v0 rfl (by decide)) ?_
        refine pw_iload (pc := 47) hG d_Sc_deleteRest_47 rfl ?_
        obtain ⟨hi49, h⟩ := h
        refine pw_aI (pc := 49) hG (q_arr hΛ (q_rf hΛ o_v0 rfl (by decide)) rfl (by decide)) hi49 d_Sc_deleteRest_49 ?_
        refine p5_6 (pc := 50) hG m_241 d_Sc_deleteRest_50 or33 (fun S50 eS50 => ?_)
        replace h := h S50 eS50
        refine pw_aload (pc := 53) hG d_Sc_deleteRest_53 rfl ?_
        refine pw_aload_n (pc := 55) hG d_Sc_deleteRest_55 rfl ?_
        refine g3_2 (pc := 56) hG m_270 d_Sc_deleteRest_56 o_v0 ?_
        refine g8_3 (pc := 59) hG m_207 d_Sc_deleteRest_59 (q_rf hΛ o_v0 rfl (by decide)) ?_
        refine pw_iload (pc := 62) hG d_Sc_deleteRest_62 rfl ?_
        obtain ⟨hi64, h⟩ := h
        refine pw_aI (pc := 64) hG (q_arr hΛ (q_rf hΛ o_v0 rfl (by decide)) rfl (by decide)) hi64 d_Sc_deleteRest_64 ?_
        refine p5_7 (pc := 65) hG m_243 d_Sc_deleteRest_65 or33 (fun S65 eS65 => ?_)
        replace h := h S65 eS65
        refine pw_aload_n (pc := 68) hG d_Sc_deleteRest_68 rfl ?_
        refine g3_2 (pc := 69) hG m_270 d_Sc_deleteRest_69 o_v0 ?_
        refine pw_aload (pc := 72) hG d_Sc_deleteRest_72 rfl ?_
        refine pw_callv (pc := 74) hG (fun l Δ => ct_Wt_carryOut l Δ hΛ (q_rf hΛ o_v0 rfl (by decide)) or33 h) (q_rf hΛ o_v0 rfl (by decide)) rfl (by decide) m_634 k_Wt_carryOut rfl ⟨by decide, by decide⟩ (Nat.le_of_ble_eq_true rfl) d_Sc_deleteRest_74 rfl (fun S74 h => ?_)
        refine pw_iinc0 (pc := 77) hG d_Sc_deleteRest_77 rfl (by decide) rfl ?_
        refine pw_goto (tgt := 2) (pc := 80) hG d_Sc_deleteRest_80 (by decide) ?_
        exact pw_sub hG [0, 1, 2, 3] rfl (ih v0 v1 v2 (v3 + 1) S74 o_v0 o_v1 o_v2 h)
theorem b_Sc_deleteRest_0 {Λ : QLay} {G : Nat → List (Nat × Value) → List Value → QMem → Prop} {Q : QMem → Prop} (hG : QAct c_Sc_deleteRest "TreeDiffer$Script" 6 { frames := 3, cells := 0, slots := 0, locals := 65 } Λ G) (hR : RtV c_Sc_deleteRest G Q) (v0 : Nat) (v1 : Nat) (v2 : Nat) (S : QMem) (o0 : qob Λ 3 v0) (o1 : qob Λ 7 v1) (o2 : qob Λ 1 v2) (h : w_Sc_deleteRest Λ v0 v1 v2 S Q) : G 0 [(0, .ref v0), (1, .ref v1), (2, .ref v2)] [] S := by
  have hΛ := hG.lay
  unfold w_Sc_deleteRest at h
  refine pw_iconst (pc := 0) hG d_Sc_deleteRest_0 ?_
  refine pw_ist_n (pc := 1) hG d_Sc_deleteRest_1 (by decide) rfl ?_
  obtain ⟨n1, h⟩ := h
  exact pw_sub hG [0, 1, 2, 3] rfl (b_Sc_deleteRest_2 hG hR n1 v0 v1 v2 0 S o0 o1 o2 h)
theorem ct_Sc_deleteRest (l : Launch) (Δ : QDl) {Λ : QLay} (hΛ : LayOk Λ) {v0 : Nat} {v1 : Nat} {v2 : Nat} {S : QMem} {Q : QMem → Prop} (o0 : qob Λ 3 v0) (o1 : qob Λ 7 v1) (o2 : qob Λ 1 v2) (h : w_Sc_deleteRest Λ v0 v1 v2 S Q) : QCt l y_Sc_deleteRest c_Sc_deleteRest 6 none 3 65 Δ Λ [.ref v0, .ref v1, .ref v2] S (qV Q) :=
  QCt.mk (own := "TreeDiffer$Script") hΛ (by decide) rfl rfl (Nat.le_of_ble_eq_true rfl) (fun G hG ri rz rv rj ra => b_Sc_deleteRest_0 hG (fun pc lv S d hq => rv pc lv S rfl d ⟨rfl, hq⟩) v0 v1 v2 S o0 o1 o2 h)
theorem k_Sc_make : QVf y_Sc_make c_Sc_make 6 none "TreeDiffer$Script" 2 := ⟨m_564, m_565, m_6, m_566, by decide +kernel⟩
theorem b_Sc_make_77 {Λ : QLay} {G : Nat → List (Nat × Value) → List Value → QMem → Prop} {Q : QMem → Prop} (hG : QAct c_Sc_make "TreeDiffer$Script" 6 { frames := 5, cells := 0, slots := 0, locals := 116 } Λ G) (hR : RtV c_Sc_make G Q) {K63 : Nat → Nat → Nat → Nat → Int → QMem → Prop} (hK63 : ∀ (v0 : Nat) (v1 : Nat) (v2 : Nat) (v3 : Nat) (v4 : Int) (S : QMem), qob Λ 3 v0 → qob Λ 4 v1 → qob Λ 1 v2 → qob Λ 7 v3 → K63 v0 v1 v2 v3 v4 S → G 63 [(0, .ref v0), (1, .ref v1), (2, .ref v2), (3, .ref v3), (4, vI v4)] [] S) : ∀ (n : Nat) (v0 : Nat) (v1 : Nat) (v2 : Nat) (v3 : Nat) (v4 : Int) (v5 : Int) (S : QMem), qob Λ 3 v0 → qob Λ 4 v1 → qob Λ 1 v2 → qob Λ 7 v3 → w_Sc_make_77 Λ K63 Q n v0 v1 v2 v3 v4 v5 S → G 77 [(0, .ref v0), (1, .ref v1), (2, .ref v2), (3, .ref v3), (4, vI v4), (5, vI v5)] [] S := by
  have hΛ := hG.lay
  intro n
  induction n with
  | zero => intro v0 v1 v2 v3 v4 v5 S o_v0 o_v1 o_v2 o_v3 h; exact h.elim
  | succ n ih =>
    intro v0 v1 v2 v3 v4 v5 S o_v0 o_v1 o_v2 o_v3 h
    rw [w_Sc_make_77] at h
    refine pw_iload (pc := 77) hG d_Sc_make_77 rfl ?_
    refine pw_aload_n (pc := 79) hG d_Sc_make_79 rfl ?_
    refine g7_0 (pc := 80) hG m_36 d_Sc_make_80 o_v3 ?_
    obtain ⟨hrx83, hry83, ha83, hb83⟩ := h
    refine pw_icmp_ge (tgt := 111) (pc := 83) hG d_Sc_make_83 (by decide) hrx83 hry83 (fun hc83 => ?_) (fun hc83 => ?_)
    · replace h := ha83 hc83
      refine pw_iinc0 (pc := 111) hG d_Sc_make_111 rfl (by decide) rfl ?_
      refine pw_goto (tgt := 63) (pc := 114) hG d_Sc_make_114 (by decide) ?_
      exact pw_sub hG [0, 1, 2, 3, 4] rfl (hK63 v0 v1 v2 v3 (v4 + 1) S o_v0 o_v1 o_v2 o_v3 h)
    · replace h := hb83 hc83
      refine pw_aload_n (pc := 86) hG d_Sc_make_86 rfl ?_
      refine g7_5 (pc := 87) hG m_62 d_Sc_make_87 o_v3 ?_
      refine pw_iload (pc := 90) hG d_Sc_make_90 rfl ?_
      obtain ⟨hi92, h⟩ := h
      refine pw_aI (pc := 92) hG (q_arr hΛ o_v3 rfl (by decide)) hi92 d_Sc_make_92 ?_
      refine pw_iload (pc := 93) hG d_Sc_make_93 rfl ?_
      obtain ⟨hrx95, hry95, ha95, hb95⟩ := h
      refine pw_icmp_ne (tgt := 105) (pc := 95) hG d_Sc_make_95 (by decide) hrx95 hry95 (fun hc95 => ?_) (fun hc95 => ?_)
      · replace h := ha95 hc95
        refine pw_iinc0 (pc := 105) hG d_Sc_make_105 rfl (by decide) rfl ?_
        refine pw_goto (tgt := 77) (pc := 108) hG d_Sc_make_108 (by decide) ?_
        exact pw_sub hG [0, 1, 2, 3, 4, 5] rfl (ih v0 v1 v2 v3 v4 (v5 + 1) S o_v0 o_v1 o_v2 o_v3 h)
      · replace h := hb95 hc95
        refine pw_aload_n (pc := 98) hG d_Sc_make_98 rfl ?_
        refine pw_aload_n (pc := 99) hG d_Sc_make_99 rfl ?_
        refine pw_iload (pc := 100) hG d_Sc_make_100 rfl ?_
        refine pw_callv (pc := 102) hG (fun l Δ => ct_Sc_bringIntoLine l Δ hΛ o_v0 o_v3 h) o_v0 rfl (by decide) m_623 k_Sc_bringIntoLine rfl ⟨by decide, by decide⟩ (Nat.le_of_ble_eq_true rfl) d_Sc_make_102 rfl (fun S102 h => ?_)
        refine pw_iinc0 (pc := 105) hG d_Sc_make_105 rfl (by decide) rfl ?_
        refine pw_goto (tgt := 77) (pc := 108) hG d_Sc_make_108 (by decide) ?_
        exact pw_sub hG [0, 1, 2, 3, 4, 5] rfl (ih v0 v1 v2 v3 v4 (v5 + 1) S102 o_v0 o_v1 o_v2 o_v3 h)
theorem b_Sc_make_63 {Λ : QLay} {G : Nat → List (Nat × Value) → List Value → QMem → Prop} {Q : QMem → Prop} (hG : QAct c_Sc_make "TreeDiffer$Script" 6 { frames := 5, cells := 0, slots := 0, locals := 116 } Λ G) (hR : RtV c_Sc_make G Q) : ∀ (n : Nat) (v0 : Nat) (v1 : Nat) (v2 : Nat) (v3 : Nat) (v4 : Int) (S : QMem), qob Λ 3 v0 → qob Λ 4 v1 → qob Λ 1 v2 → qob Λ 7 v3 → w_Sc_make_63 Λ Q n v0 v1 v2 v3 v4 S → G 63 [(0, .ref v0), (1, .ref v1), (2, .ref v2), (3, .ref v3), (4, vI v4)] [] S := by
  have hΛ := hG.lay
  intro n
  induction n with
  | zero => intro v0 v1 v2 v3 v4 S o_v0 o_v1 o_v2 o_v3 h; exact h.elim
  | succ n ih =>
    intro v0 v1 v2 v3 v4 S o_v0 o_v1 o_v2 o_v3 h
    rw [w_Sc_make_63] at h
    refine pw_iload (pc := 63) hG d_Sc_make_63 rfl ?_
    refine pw_aload_n (pc := 65) hG d_Sc_make_65 rfl ?_
    refine g7_8 (pc := 66) hG m_70 d_Sc_make_66 o_v3 ?_
    refine pw_iconst (pc := 69) hG d_Sc_make_69 ?_
    refine pw_aI (pc := 70) hG (q_arr hΛ o_v3 rfl (by decide)) (by decide) d_Sc_make_70 ?_
    obtain ⟨hrx71, hry71, ha71, hb71⟩ := h
    refine pw_icmp_ge (tgt := 117) (pc := 71) hG d_Sc_make_71 (by decide) hrx71 hry71 (fun hc71 => ?_) (fun hc71 => ?_)
    · replace h := ha71 hc71
      refine pw_aload_n (pc := 117) hG d_Sc_make_117 rfl ?_
      refine pw_aload_n (pc := 118) hG d_Sc_make_118 rfl ?_
      refine pw_getP (pc := 119) hG o_v1 0 (Or.inl rfl) m_131 d_Sc_make_119 (fun t119 et119 ot119 => ?_)
      replace h := h t119 et119
      refine pw_aload_n (pc := 122) hG d_Sc_make_122 rfl ?_
      refine pw_callv (pc := 123) hG (fun l Δ => ct_Sc_deleteRest l Δ hΛ o_v0 ot119 o_v2 h) o_v0 rfl (by decide) m_644 k_Sc_deleteRest rfl ⟨by decide, by decide⟩ (Nat.le_of_ble_eq_true rfl) d_Sc_make_123 rfl (fun S123 h => ?_)
      exact hR 126 _ _ d_Sc_make_126 h
    · replace h := hb71 hc71
      refine pw_iconst (pc := 74) hG d_Sc_make_74 ?_
      refine pw_ist (pc := 75) hG d_Sc_make_75 (by decide) rfl ?_
      obtain ⟨n75, h⟩ := h
      exact pw_sub hG [0, 1, 2, 3, 4, 5] rfl (b_Sc_make_77 hG hR ih n75 v0 v1 v2 v3 v4 0 S o_v0 o_v1 o_v2 o_v3 h)
theorem b_Sc_make_18 {Λ : QLay} {G : Nat → List (Nat × Value) → List Value → QMem → Prop} {Q : QMem → Prop} (hG : QAct c_Sc_make "TreeDiffer$Script" 6 { frames := 5, cells := 0, slots := 0, locals := 116 } Λ G) (hR : RtV c_Sc_make G Q) : ∀ (n : Nat) (v0 : Nat) (v1 : Nat) (v2 : Nat) (v3 : Int) (S : QMem), qob Λ 3 v0 → qob Λ 4 v1 → qob Λ 1 v2 → w_Sc_make_18 Λ Q n v0 v1 v2 v3 S → G 18 [(0, .ref v0), (1, .ref v1), (2, .ref v2), (3, vI v3)] [] S := by
  have hΛ := hG.lay
  intro n
  induction n with
  | zero => intro v0 v1 v2 v3 S o_v0 o_v1 o_v2 h; exact h.elim
  | succ n ih =>
    intro v0 v1 v2 v3 S o_v0 o_v1 o_v2 h
    rw [w_Sc_make_18] at h
    refine pw_iload_n (pc := 18) hG d_Sc_make_18 rfl ?_
    refine pw_bipush (pc := 19) hG d_Sc_make_19 (by decide) ?_
    obtain ⟨hrx21, ha21, hb21⟩ := h
    refine pw_icmp_ge (tgt := 49) (pc := 21) hG d_Sc_make_21 (by decide) hrx21 (q_lit rfl) (fun hc21 => ?_) (fun hc21 => ?_)
    · replace h := ha21 hc21
      refine pw_aload_n (pc := 49) hG d_Sc_make_49 rfl ?_
      refine pw_getP (pc := 50) hG o_v1 1 (Or.inr rfl) m_135 d_Sc_make_50 (fun t50 et50 ot50 => ?_)
      replace h := h t50 et50
      refine pw_astore_n (pc := 53) hG d_Sc_make_53 (by decide) rfl ?_
      refine pw_aload_n (pc := 54) hG d_Sc_make_54 rfl ?_
      refine pw_aload_n (pc := 55) hG d_Sc_make_55 rfl ?_
      refine pw_iconst (pc := 56) hG d_Sc_make_56 ?_
      refine pw_callv (pc := 57) hG (fun l Δ => ct_Sc_putChildrenInOrder l Δ hΛ o_v0 ot50 h) o_v0 rfl (by decide) m_568 k_Sc_putChildrenInOrder rfl ⟨by decide, by decide⟩ (Nat.le_of_ble_eq_true rfl) d_Sc_make_57 rfl (fun S57 h => ?_)
      refine pw_iconst (pc := 60) hG d_Sc_make_60 ?_
      refine pw_ist (pc := 61) hG d_Sc_make_61 (by decide) rfl ?_
      obtain ⟨n61, h⟩ := h
      exact pw_sub hG [0, 1, 2, 3, 4] rfl (b_Sc_make_63 hG hR n61 v0 v1 v2 t50 0 S57 o_v0 o_v1 o_v2 ot50 h)
    · replace h := hb21 hc21
      refine pw_aload_n (pc := 24) hG d_Sc_make_24 rfl ?_
      refine g3_3 (pc := 25) hG m_271 d_Sc_make_25 o_v0 ?_
      refine pw_iload_n (pc := 28) hG d_Sc_make_28 rfl ?_
      refine pw_aload_n (pc := 29) hG d_Sc_make_29 rfl ?_
      refine g1_2 (pc := 30) hG m_166 d_Sc_make_30 o_v2 ?_
      refine pw_iload_n (pc := 33) hG d_Sc_make_33 rfl ?_
      obtain ⟨hi34, h⟩ := h
      refine pw_aI (pc := 34) hG (q_arr hΛ o_v2 rfl (by decide)) hi34 d_Sc_make_34 ?_
      obtain ⟨hi35, h⟩ := h
      refine pw_sI (pc := 35) hG (q_arr hΛ o_v0 rfl (by decide)) hi35 d_Sc_make_35 (fun S35 eS35 => ?_)
      replace h := h S35 eS35
      refine pw_aload_n (pc := 36) hG d_Sc_make_36 rfl ?_
      refine g3_4 (pc := 37) hG m_272 d_Sc_make_37 o_v0 ?_
      refine pw_iload_n (pc := 40) hG d_Sc_make_40 rfl ?_
      refine pw_iconst (pc := 41) hG d_Sc_make_41 ?_
      obtain ⟨hi42, h⟩ := h
      refine pw_sZ (pc := 42) hG (q_arr hΛ o_v0 rfl (by decide)) hi42 (Or.inl rfl) d_Sc_make_42 (fun S42 eS42 => ?_)
      replace h := h S42 eS42
      refine pw_iinc0 (pc := 43) hG d_Sc_make_43 rfl (by decide) rfl ?_
      refine pw_goto (tgt := 18) (pc := 46) hG d_Sc_make_46 (by decide) ?_
      exact pw_sub hG [0, 1, 2, 3] rfl (ih v0 v1 v2 (v3 + 1) S42 o_v0 o_v1 o_v2 h)
theorem b_Sc_make_0 {Λ : QLay} {G : Nat → List (Nat × Value) → List Value → QMem → Prop} {Q : QMem → Prop} (hG : QAct c_Sc_make "TreeDiffer$Script" 6 { frames := 5, cells := 0, slots := 0, locals := 116 } Λ G) (hR : RtV c_Sc_make G Q) (v0 : Nat) (v1 : Nat) (v2 : Nat) (S : QMem) (o0 : qob Λ 3 v0) (o1 : qob Λ 4 v1) (o2 : qob Λ 1 v2) (h : w_Sc_make Λ v0 v1 v2 S Q) : G 0 [(0, .ref v0), (1, .ref v1), (2, .ref v2)] [] S := by
  have hΛ := hG.lay
  unfold w_Sc_make at h
  refine pw_aload_n (pc := 0) hG d_Sc_make_0 rfl ?_
  refine pw_iconst (pc := 1) hG d_Sc_make_1 ?_
  refine p3_1 (pc := 2) hG m_268 d_Sc_make_2 o0 (fun S2 eS2 => ?_)
  replace h := h S2 eS2
  refine pw_aload_n (pc := 5) hG d_Sc_make_5 rfl ?_
  refine g3_2 (pc := 6) hG m_270 d_Sc_make_6 o0 ?_
  refine pw_aload_n (pc := 9) hG d_Sc_make_9 rfl ?_
  refine pw_getP (pc := 10) hG o1 0 (Or.inl rfl) m_131 d_Sc_make_10 (fun t10 et10 ot10 => ?_)
  replace h := h t10 et10
  refine pw_callv (pc := 13) hG (fun l Δ => ct_Wt_load l Δ hΛ (q_rf hΛ o0 rfl (by decide)) ot10 h) (q_rf hΛ o0 rfl (by decide)) rfl (by decide) m_567 k_Wt_load rfl ⟨by decide, by decide⟩ (Nat.le_of_ble_eq_true rfl) d_Sc_make_13 rfl (fun S13 h => ?_)
  refine pw_iconst (pc := 16) hG d_Sc_make_16 ?_
  refine pw_ist_n (pc := 17) hG d_Sc_make_17 (by decide) rfl ?_
  obtain ⟨n17, h⟩ := h
  exact pw_sub hG [0, 1, 2, 3] rfl (b_Sc_make_18 hG hR n17 v0 v1 v2 0 S13 o0 o1 o2 h)
theorem ct_Sc_make (l : Launch) (Δ : QDl) {Λ : QLay} (hΛ : LayOk Λ) {v0 : Nat} {v1 : Nat} {v2 : Nat} {S : QMem} {Q : QMem → Prop} (o0 : qob Λ 3 v0) (o1 : qob Λ 4 v1) (o2 : qob Λ 1 v2) (h : w_Sc_make Λ v0 v1 v2 S Q) : QCt l y_Sc_make c_Sc_make 6 none 5 116 Δ Λ [.ref v0, .ref v1, .ref v2] S (qV Q) :=
  QCt.mk (own := "TreeDiffer$Script") hΛ (by decide) rfl rfl (Nat.le_of_ble_eq_true rfl) (fun G hG ri rz rv rj ra => b_Sc_make_0 hG (fun pc lv S d hq => rv pc lv S rfl d ⟨rfl, hq⟩) v0 v1 v2 S o0 o1 o2 h)
theorem k_Se_treeOf : QVf y_Se_treeOf c_Se_treeOf 2 (some (.object "TreeDiffer$Tree")) "TreeDiffer$Setup" 1 := ⟨m_429, m_430, m_4, m_431, by decide +kernel⟩
theorem b_Se_treeOf_0 {Λ : QLay} {G : Nat → List (Nat × Value) → List Value → QMem → Prop} {Q : Nat → QMem → Prop} (hG : QAct c_Se_treeOf "TreeDiffer$Setup" 2 { frames := 0, cells := 0, slots := 0, locals := 0 } Λ G) (hR : RtA c_Se_treeOf Λ 7 G Q) (v0 : Nat) (v1 : Int) (S : QMem) (o0 : qob Λ 4 v0) (h : w_Se_treeOf Λ v0 v1 S Q) : G 0 [(0, .ref v0), (1, vI v1)] [] S := by
  have hΛ := hG.lay
  unfold w_Se_treeOf at h
  refine pw_iload_n (pc := 0) hG d_Se_treeOf_0 rfl ?_
  obtain ⟨hrx1, ha1, hb1⟩ := h
  refine pw_if_ne (tgt := 11) (pc := 1) hG d_Se_treeOf_1 (by decide) hrx1 (fun hc1 => ?_) (fun hc1 => ?_)
  · replace h := ha1 hc1
    refine pw_aload_n (pc := 11) hG d_Se_treeOf_11 rfl ?_
    refine pw_getP (pc := 12) hG o0 1 (Or.inr rfl) m_133 d_Se_treeOf_12 (fun t12 et12 ot12 => ?_)
    replace h := h t12 et12
    exact hR 15 _ _ _ d_Se_treeOf_15 ot12 h
  · replace h := hb1 hc1
    refine pw_aload_n (pc := 4) hG d_Se_treeOf_4 rfl ?_
    refine pw_getP (pc := 5) hG o0 0 (Or.inl rfl) m_128 d_Se_treeOf_5 (fun t5 et5 ot5 => ?_)
    replace h := h t5 et5
    refine pw_goto (tgt := 15) (pc := 8) hG d_Se_treeOf_8 (by decide) ?_
    exact hR 15 _ _ _ d_Se_treeOf_15 ot5 h
theorem ct_Se_treeOf (l : Launch) (Δ : QDl) {Λ : QLay} (hΛ : LayOk Λ) {v0 : Nat} {v1 : Int} {S : QMem} {Q : Nat → QMem → Prop} (o0 : qob Λ 4 v0) (h : w_Se_treeOf Λ v0 v1 S Q) : QCt l y_Se_treeOf c_Se_treeOf 2 (some (.object "TreeDiffer$Tree")) 0 0 Δ Λ [.ref v0, vI v1] S (qA Λ 7 Q) :=
  QCt.mk (own := "TreeDiffer$Setup") hΛ (by decide) rfl rfl (Nat.le_of_ble_eq_true rfl) (fun G hG ri rz rv rj ra => b_Se_treeOf_0 hG (fun pc lv x S d ho hq => ra pc lv x _ S rfl d ⟨x, rfl, ho, hq⟩) v0 v1 S o0 h)
theorem k_Tr_copy : QVf y_Tr_copy c_Tr_copy 3 none "TreeDiffer$Tree" 1 := ⟨m_433, m_434, m_3, m_435, by decide +kernel⟩
theorem b_Tr_copy_10 {Λ : QLay} {G : Nat → List (Nat × Value) → List Value → QMem → Prop} {Q : QMem → Prop} (hG : QAct c_Tr_copy "TreeDiffer$Tree" 3 { frames := 0, cells := 0, slots := 0, locals := 0 } Λ G) (hR : RtV c_Tr_copy G Q) : ∀ (n : Nat) (v0 : Nat) (v1 : Nat) (v2 : Int) (S : QMem), qob Λ 7 v0 → qob Λ 7 v1 → w_Tr_copy_10 Λ Q n v0 v1 v2 S → G 10 [(0, .ref v0), (1, .ref v1), (2, vI v2)] [] S := by
  have hΛ := hG.lay
  intro n
  induction n with
  | zero => intro v0 v1 v2 S o_v0 o_v1 h; exact h.elim
  | succ n ih =>
    intro v0 v1 v2 S o_v0 o_v1 h
    rw [w_Tr_copy_10] at h
    refine pw_iload_n (pc := 10) hG d_Tr_copy_10 rfl ?_
    refine pw_bipush (pc := 11) hG d_Tr_copy_11 (by decide) ?_
    obtain ⟨hrx13, ha13, hb13⟩ := h
    refine pw_icmp_ge (tgt := 130) (pc := 13) hG d_Tr_copy_13 (by decide) hrx13 (q_lit rfl) (fun hc13 => ?_) (fun hc13 => ?_)
    · replace h := ha13 hc13
      exact hR 130 _ _ d_Tr_copy_130 h
    · replace h := hb13 hc13
      refine pw_aload_n (pc := 16) hG d_Tr_copy_16 rfl ?_
      refine g7_1 (pc := 17) hG m_40 d_Tr_copy_17 o_v0 ?_
      refine pw_iload_n (pc := 20) hG d_Tr_copy_20 rfl ?_
      refine pw_aload_n (pc := 21) hG d_Tr_copy_21 rfl ?_
      refine g7_1 (pc := 22) hG m_40 d_Tr_copy_22 o_v1 ?_
      refine pw_iload_n (pc := 25) hG d_Tr_copy_25 rfl ?_
      obtain ⟨hi26, h⟩ := h
      refine pw_aI (pc := 26) hG (q_arr hΛ o_v1 rfl (by decide)) hi26 d_Tr_copy_26 ?_
      obtain ⟨hi27, h⟩ := h
      refine pw_sI (pc := 27) hG (q_arr hΛ o_v0 rfl (by decide)) hi27 d_Tr_copy_27 (fun S27 eS27 => ?_)
      replace h := h S27 eS27
      refine pw_aload_n (pc := 28) hG d_Tr_copy_28 rfl ?_
      refine g7_2 (pc := 29) hG m_45 d_Tr_copy_29 o_v0 ?_
      refine pw_iload_n (pc := 32) hG d_Tr_copy_32 rfl ?_
      refine pw_aload_n (pc := 33) hG d_Tr_copy_33 rfl ?_
      refine g7_2 (pc := 34) hG m_45 d_Tr_copy_34 o_v1 ?_
      refine pw_iload_n (pc := 37) hG d_Tr_copy_37 rfl ?_
      obtain ⟨hi38, h⟩ := h
      refine pw_aI (pc := 38) hG (q_arr hΛ o_v1 rfl (by decide)) hi38 d_Tr_copy_38 ?_
      obtain ⟨hi39, h⟩ := h
      refine pw_sI (pc := 39) hG (q_arr hΛ o_v0 rfl (by decide)) hi39 d_Tr_copy_39 (fun S39 eS39 => ?_)
      replace h := h S39 eS39
      refine pw_aload_n (pc := 40) hG d_Tr_copy_40 rfl ?_
      refine g7_3 (pc := 41) hG m_51 d_Tr_copy_41 o_v0 ?_
      refine pw_iload_n (pc := 44) hG d_Tr_copy_44 rfl ?_
      refine pw_aload_n (pc := 45) hG d_Tr_copy_45 rfl ?_
      refine g7_3 (pc := 46) hG m_51 d_Tr_copy_46 o_v1 ?_
      refine pw_iload_n (pc := 49) hG d_Tr_copy_49 rfl ?_
      obtain ⟨hi50, h⟩ := h
      refine pw_aI (pc := 50) hG (q_arr hΛ o_v1 rfl (by decide)) hi50 d_Tr_copy_50 ?_
      obtain ⟨hi51, h⟩ := h
      refine pw_sI (pc := 51) hG (q_arr hΛ o_v0 rfl (by decide)) hi51 d_Tr_copy_51 (fun S51 eS51 => ?_)
      replace h := h S51 eS51
      refine pw_aload_n (pc := 52) hG d_Tr_copy_52 rfl ?_
      refine g7_4 (pc := 53) hG m_58 d_Tr_copy_53 o_v0 ?_
      refine pw_iload_n (pc := 56) hG d_Tr_copy_56 rfl ?_
      refine pw_aload_n (pc := 57) hG d_Tr_copy_57 rfl ?_
      refine g7_4 (pc := 58) hG m_58 d_Tr_copy_58 o_v1 ?_
      refine pw_iload_n (pc := 61) hG d_Tr_copy_61 rfl ?_
      obtain ⟨hi62, h⟩ := h
      refine pw_aI (pc := 62) hG (q_arr hΛ o_v1 rfl (by decide)) hi62 d_Tr_copy_62 ?_
      obtain ⟨hi63, h⟩ := h
      refine pw_sI (pc := 63) hG (q_arr hΛ o_v0 rfl (by decide)) hi63 d_Tr_copy_63 (fun S63 eS63 => ?_)
      replace h := h S63 eS63
      refine pw_aload_n (pc := 64) hG d_Tr_copy_64 rfl ?_
      refine g7_5 (pc := 65) hG m_61 d_Tr_copy_65 o_v0 ?_
      refine pw_iload_n (pc := 68) hG d_Tr_copy_68 rfl ?_
      refine pw_aload_n (pc := 69) hG d_Tr_copy_69 rfl ?_
      refine g7_5 (pc := 70) hG m_61 d_Tr_copy_70 o_v1 ?_
      refine pw_iload_n (pc := 73) hG d_Tr_copy_73 rfl ?_
      obtain ⟨hi74, h⟩ := h
      refine pw_aI (pc := 74) hG (q_arr hΛ o_v1 rfl (by decide)) hi74 d_Tr_copy_74 ?_
      obtain ⟨hi75, h⟩ := h
      refine pw_sI (pc := 75) hG (q_arr hΛ o_v0 rfl (by decide)) hi75 d_Tr_copy_75 (fun S75 eS75 => ?_)
      replace h := h S75 eS75
      refine pw_aload_n (pc := 76) hG d_Tr_copy_76 rfl ?_
      refine g7_6 (pc := 77) hG m_63 d_Tr_copy_77 o_v0 ?_
      refine pw_iload_n (pc := 80) hG d_Tr_copy_80 rfl ?_
      refine pw_aload_n (pc := 81) hG d_Tr_copy_81 rfl ?_
      refine g7_6 (pc := 82) hG m_63 d_Tr_copy_82 o_v1 ?_
      refine pw_iload_n (pc := 85) hG d_Tr_copy_85 rfl ?_
      obtain ⟨hi86, h⟩ := h
      refine pw_aI (pc := 86) hG (q_arr hΛ o_v1 rfl (by decide)) hi86 d_Tr_copy_86 ?_
      obtain ⟨hi87, h⟩ := h
      refine pw_sI (pc := 87) hG (q_arr hΛ o_v0 rfl (by decide)) hi87 d_Tr_copy_87 (fun S87 eS87 => ?_)
      replace h := h S87 eS87
      refine pw_aload_n (pc := 88) hG d_Tr_copy_88 rfl ?_
      refine g7_7 (pc := 89) hG m_65 d_Tr_copy_89 o_v0 ?_
      refine pw_iload_n (pc := 92) hG d_Tr_copy_92 rfl ?_
      refine pw_aload_n (pc := 93) hG d_Tr_copy_93 rfl ?_
      refine g7_7 (pc := 94) hG m_65 d_Tr_copy_94 o_v1 ?_
      refine pw_iload_n (pc := 97) hG d_Tr_copy_97 rfl ?_
      obtain ⟨hi98, h⟩ := h
      refine pw_aI (pc := 98) hG (q_arr hΛ o_v1 rfl (by decide)) hi98 d_Tr_copy_98 ?_
      obtain ⟨hi99, h⟩ := h
      refine pw_sI (pc := 99) hG (q_arr hΛ o_v0 rfl (by decide)) hi99 d_Tr_copy_99 (fun S99 eS99 => ?_)
      replace h := h S99 eS99
      refine pw_aload_n (pc := 100) hG d_Tr_copy_100 rfl ?_
      refine g7_8 (pc := 101) hG m_69 d_Tr_copy_101 o_v0 ?_
      refine pw_iload_n (pc := 104) hG d_Tr_copy_104 rfl ?_
      refine pw_aload_n (pc := 105) hG d_Tr_copy_105 rfl ?_
      refine g7_8 (pc := 106) hG m_69 d_Tr_copy_106 o_v1 ?_
      refine pw_iload_n (pc := 109) hG d_Tr_copy_109 rfl ?_
      obtain ⟨hi110, h⟩ := h
      refine pw_aI (pc := 110) hG (q_arr hΛ o_v1 rfl (by decide)) hi110 d_Tr_copy_110 ?_
      obtain ⟨hi111, h⟩ := h
      refine pw_sI (pc := 111) hG (q_arr hΛ o_v0 rfl (by decide)) hi111 d_Tr_copy_111 (fun S111 eS111 => ?_)
      replace h := h S111 eS111
      refine pw_aload_n (pc := 112) hG d_Tr_copy_112 rfl ?_
      refine g7_9 (pc := 113) hG m_73 d_Tr_copy_113 o_v0 ?_
      refine pw_iload_n (pc := 116) hG d_Tr_copy_116 rfl ?_
      refine pw_aload_n (pc := 117) hG d_Tr_copy_117 rfl ?_
      refine g7_9 (pc := 118) hG m_73 d_Tr_copy_118 o_v1 ?_
      refine pw_iload_n (pc := 121) hG d_Tr_copy_121 rfl ?_
      obtain ⟨hi122, h⟩ := h
      refine pw_aI (pc := 122) hG (q_arr hΛ o_v1 rfl (by decide)) hi122 d_Tr_copy_122 ?_
      obtain ⟨hi123, h⟩ := h
      refine pw_sI (pc := 123) hG (q_arr hΛ o_v0 rfl (by decide)) hi123 d_Tr_copy_123 (fun S123 eS123 => ?_)
      replace h := h S123 eS123
      refine pw_iinc0 (pc := 124) hG d_Tr_copy_124 rfl (by decide) rfl ?_
      refine pw_goto (tgt := 10) (pc := 127) hG d_Tr_copy_127 (by decide) ?_
      exact pw_sub hG [0, 1, 2] rfl (ih v0 v1 (v2 + 1) S123 o_v0 o_v1 h)
theorem b_Tr_copy_0 {Λ : QLay} {G : Nat → List (Nat × Value) → List Value → QMem → Prop} {Q : QMem → Prop} (hG : QAct c_Tr_copy "TreeDiffer$Tree" 3 { frames := 0, cells := 0, slots := 0, locals := 0 } Λ G) (hR : RtV c_Tr_copy G Q) (v0 : Nat) (v1 : Nat) (S : QMem) (o0 : qob Λ 7 v0) (o1 : qob Λ 7 v1) (h : w_Tr_copy Λ v0 v1 S Q) : G 0 [(0, .ref v0), (1, .ref v1)] [] S := by
  have hΛ := hG.lay
  unfold w_Tr_copy at h
  refine pw_aload_n (pc := 0) hG d_Tr_copy_0 rfl ?_
  refine pw_aload_n (pc := 1) hG d_Tr_copy_1 rfl ?_
  refine g7_0 (pc := 2) hG m_33 d_Tr_copy_2 o1 ?_
  refine p7_0 (pc := 5) hG m_33 d_Tr_copy_5 o0 (fun S5 eS5 => ?_)
  replace h := h S5 eS5
  refine pw_iconst (pc := 8) hG d_Tr_copy_8 ?_
  refine pw_ist_n (pc := 9) hG d_Tr_copy_9 (by decide) rfl ?_
  obtain ⟨n9, h⟩ := h
  exact pw_sub hG [0, 1, 2] rfl (b_Tr_copy_10 hG hR n9 v0 v1 0 S5 o0 o1 h)
theorem ct_Tr_copy (l : Launch) (Δ : QDl) {Λ : QLay} (hΛ : LayOk Λ) {v0 : Nat} {v1 : Nat} {S : QMem} {Q : QMem → Prop} (o0 : qob Λ 7 v0) (o1 : qob Λ 7 v1) (h : w_Tr_copy Λ v0 v1 S Q) : QCt l y_Tr_copy c_Tr_copy 3 none 0 0 Δ Λ [.ref v0, .ref v1] S (qV Q) :=
  QCt.mk (own := "TreeDiffer$Tree") hΛ (by decide) rfl rfl (Nat.le_of_ble_eq_true rfl) (fun G hG ri rz rv rj ra => b_Tr_copy_0 hG (fun pc lv S d hq => rv pc lv S rfl d ⟨rfl, hq⟩) v0 v1 S o0 o1 h)
theorem k_Se_copy : QVf y_Se_copy c_Se_copy 2 none "TreeDiffer$Setup" 1 := ⟨m_770, m_771, m_4, m_772, by decide +kernel⟩
theorem b_Se_copy_0 {Λ : QLay} {G : Nat → List (Nat × Value) → List Value → QMem → Prop} {Q : QMem → Prop} (hG : QAct c_Se_copy "TreeDiffer$Setup" 2 { frames := 1, cells := 0, slots := 0, locals := 22 } Λ G) (hR : RtV c_Se_copy G Q) (v0 : Nat) (v1 : Nat) (S : QMem) (o0 : qob Λ 4 v0) (o1 : qob Λ 4 v1) (h : w_Se_copy Λ v0 v1 S Q) : G 0 [(0, .ref v0), (1, .ref v1)] [] S := by
  have hΛ := hG.lay
  unfold w_Se_copy at h
  refine pw_aload_n (pc := 0) hG d_Se_copy_0 rfl ?_
  refine pw_getP (pc := 1) hG o0 0 (Or.inl rfl) m_128 d_Se_copy_1 (fun t1 et1 ot1 => ?_)
  replace h := h t1 et1
  refine pw_aload_n (pc := 4) hG d_Se_copy_4 rfl ?_
  refine pw_getP (pc := 5) hG o1 0 (Or.inl rfl) m_128 d_Se_copy_5 (fun t5 et5 ot5 => ?_)
  replace h := h t5 et5
  refine pw_callv (pc := 8) hG (fun l Δ => ct_Tr_copy l Δ hΛ ot1 ot5 h) ot1 rfl (by decide) m_773 k_Tr_copy rfl ⟨by decide, by decide⟩ (Nat.le_of_ble_eq_true rfl) d_Se_copy_8 rfl (fun S8 h => ?_)
  refine pw_aload_n (pc := 11) hG d_Se_copy_11 rfl ?_
  refine pw_getP (pc := 12) hG o0 1 (Or.inr rfl) m_133 d_Se_copy_12 (fun t12 et12 ot12 => ?_)
  replace h := h t12 et12
  refine pw_aload_n (pc := 15) hG d_Se_copy_15 rfl ?_
  refine pw_getP (pc := 16) hG o1 1 (Or.inr rfl) m_133 d_Se_copy_16 (fun t16 et16 ot16 => ?_)
  replace h := h t16 et16
  refine pw_callv (pc := 19) hG (fun l Δ => ct_Tr_copy l Δ hΛ ot12 ot16 h) ot12 rfl (by decide) m_773 k_Tr_copy rfl ⟨by decide, by decide⟩ (Nat.le_of_ble_eq_true rfl) d_Se_copy_19 rfl (fun S19 h => ?_)
  refine pw_aload_n (pc := 22) hG d_Se_copy_22 rfl ?_
  refine pw_aload_n (pc := 23) hG d_Se_copy_23 rfl ?_
  refine g4_2 (pc := 24) hG m_138 d_Se_copy_24 o1 ?_
  refine p4_2 (pc := 27) hG m_138 d_Se_copy_27 o0 (fun S27 eS27 => ?_)
  replace h := h S27 eS27
  refine pw_aload_n (pc := 30) hG d_Se_copy_30 rfl ?_
  refine pw_aload_n (pc := 31) hG d_Se_copy_31 rfl ?_
  refine g4_3 (pc := 32) hG m_141 d_Se_copy_32 o1 ?_
  refine p4_3 (pc := 35) hG m_141 d_Se_copy_35 o0 (fun S35 eS35 => ?_)
  replace h := h S35 eS35
  exact hR 38 _ _ d_Se_copy_38 h
theorem ct_Se_copy (l : Launch) (Δ : QDl) {Λ : QLay} (hΛ : LayOk Λ) {v0 : Nat} {v1 : Nat} {S : QMem} {Q : QMem → Prop} (o0 : qob Λ 4 v0) (o1 : qob Λ 4 v1) (h : w_Se_copy Λ v0 v1 S Q) : QCt l y_Se_copy c_Se_copy 2 none 1 22 Δ Λ [.ref v0, .ref v1] S (qV Q) :=
  QCt.mk (own := "TreeDiffer$Setup") hΛ (by decide) rfl rfl (Nat.le_of_ble_eq_true rfl) (fun G hG ri rz rv rj ra => b_Se_copy_0 hG (fun pc lv S d hq => rv pc lv S rfl d ⟨rfl, hq⟩) v0 v1 S o0 o1 h)
theorem k_Se_swapTrees : QVf y_Se_swapTrees c_Se_swapTrees 2 none "TreeDiffer$Setup" 0 := ⟨m_460, m_461, m_4, m_462, by decide +kernel⟩
theorem b_Se_swapTrees_0 {Λ : QLay} {G : Nat → List (Nat × Value) → List Value → QMem → Prop} {Q : QMem → Prop} (hG : QAct c_Se_swapTrees "TreeDiffer$Setup" 2 { frames := 0, cells := 0, slots := 0, locals := 0 } Λ G) (hR : RtV c_Se_swapTrees G Q) (v0 : Nat) (S : QMem) (o0 : qob Λ 4 v0) (h : w_Se_swapTrees Λ v0 S Q) : G 0 [(0, .ref v0)] [] S := by
  have hΛ := hG.lay
  unfold w_Se_swapTrees at h
  refine pw_aload_n (pc := 0) hG d_Se_swapTrees_0 rfl ?_
  refine pw_getP (pc := 1) hG o0 0 (Or.inl rfl) m_128 d_Se_swapTrees_1 (fun t1 et1 ot1 => ?_)
  replace h := h t1 et1
  refine pw_astore_n (pc := 4) hG d_Se_swapTrees_4 (by decide) rfl ?_
  refine pw_aload_n (pc := 5) hG d_Se_swapTrees_5 rfl ?_
  refine pw_aload_n (pc := 6) hG d_Se_swapTrees_6 rfl ?_
  refine pw_getP (pc := 7) hG o0 1 (Or.inr rfl) m_133 d_Se_swapTrees_7 (fun t7 et7 ot7 => ?_)
  replace h := h t7 et7
  refine pw_putP (pc := 10) hG o0 ot7 0 (Or.inl rfl) m_128 d_Se_swapTrees_10 (fun S10 eS10 => ?_)
  replace h := h S10 eS10
  refine pw_aload_n (pc := 13) hG d_Se_swapTrees_13 rfl ?_
  refine pw_aload_n (pc := 14) hG d_Se_swapTrees_14 rfl ?_
  refine pw_putP (pc := 15) hG o0 ot1 1 (Or.inr rfl) m_133 d_Se_swapTrees_15 (fun S15 eS15 => ?_)
  replace h := h S15 eS15
  exact hR 18 _ _ d_Se_swapTrees_18 h
theorem ct_Se_swapTrees (l : Launch) (Δ : QDl) {Λ : QLay} (hΛ : LayOk Λ) {v0 : Nat} {S : QMem} {Q : QMem → Prop} (o0 : qob Λ 4 v0) (h : w_Se_swapTrees Λ v0 S Q) : QCt l y_Se_swapTrees c_Se_swapTrees 2 none 0 0 Δ Λ [.ref v0] S (qV Q) :=
  QCt.mk (own := "TreeDiffer$Setup") hΛ (by decide) rfl rfl (Nat.le_of_ble_eq_true rfl) (fun G hG ri rz rv rj ra => b_Se_swapTrees_0 hG (fun pc lv S d hq => rv pc lv S rfl d ⟨rfl, hq⟩) v0 S o0 h)
theorem k_TD_numberOf : QSf y_TD_numberOf c_TD_numberOf 1 (some .int) "TreeDiffer" 1 := ⟨m_677, m_1, m_678, by decide +kernel⟩
theorem b_TD_numberOf_0 {Λ : QLay} {G : Nat → List (Nat × Value) → List Value → QMem → Prop} {Q : Int → QMem → Prop} (hG : QAct c_TD_numberOf "TreeDiffer" 1 { frames := 0, cells := 0, slots := 0, locals := 0 } Λ G) (hR : RtI c_TD_numberOf G Q) (v0 : Int) (S : QMem) (h : w_TD_numberOf Λ v0 S Q) : G 0 [(0, vI v0)] [] S := by
  have hΛ := hG.lay
  unfold w_TD_numberOf at h
  refine pw_iload_n (pc := 0) hG d_TD_numberOf_0 rfl ?_
  refine pw_bipush (pc := 1) hG d_TD_numberOf_1 (by decide) ?_
  obtain ⟨hrx3, ha3, hb3⟩ := h
  refine pw_icmp_ne (tgt := 8) (pc := 3) hG d_TD_numberOf_3 (by decide) hrx3 (q_lit rfl) (fun hc3 => ?_) (fun hc3 => ?_)
  · replace h := ha3 hc3
    refine pw_iload_n (pc := 8) hG d_TD_numberOf_8 rfl ?_
    refine pw_bipush (pc := 9) hG d_TD_numberOf_9 (by decide) ?_
    obtain ⟨hrx11, ha11, hb11⟩ := h
    refine pw_icmp_ge (tgt := 18) (pc := 11) hG d_TD_numberOf_11 (by decide) hrx11 (q_lit rfl) (fun hc11 => ?_) (fun hc11 => ?_)
    · replace h := ha11 hc11
      refine pw_bipush (pc := 18) hG d_TD_numberOf_18 (by decide) ?_
      refine pw_iload_n (pc := 20) hG d_TD_numberOf_20 rfl ?_
      refine pw_iadd (pc := 21) hG d_TD_numberOf_21 ?_
      refine pw_bipush (pc := 22) hG d_TD_numberOf_22 (by decide) ?_
      refine pw_isub (pc := 24) hG d_TD_numberOf_24 ?_
      exact hR 25 _ _ _ d_TD_numberOf_25 h
    · replace h := hb11 hc11
      refine pw_iload_n (pc := 14) hG d_TD_numberOf_14 rfl ?_
      refine pw_goto (tgt := 25) (pc := 15) hG d_TD_numberOf_15 (by decide) ?_
      exact hR 25 _ _ _ d_TD_numberOf_25 h
  · replace h := hb3 hc3
    refine pw_iconst (pc := 6) hG d_TD_numberOf_6 ?_
    exact hR 7 _ _ _ d_TD_numberOf_7 h
theorem ct_TD_numberOf (l : Launch) (Δ : QDl) {Λ : QLay} (hΛ : LayOk Λ) {v0 : Int} {S : QMem} {Q : Int → QMem → Prop} (h : w_TD_numberOf Λ v0 S Q) : QCt l y_TD_numberOf c_TD_numberOf 1 (some .int) 0 0 Δ Λ [vI v0] S (qI Q) :=
  QCt.mk (own := "TreeDiffer") hΛ (by decide) rfl rfl (Nat.le_of_ble_eq_true rfl) (fun G hG ri rz rv rj ra => b_TD_numberOf_0 hG (fun pc lv x S d hq => ri pc lv x S rfl d ⟨x, rfl, hq⟩) v0 S  h)
theorem k_Sp_tell : QVf y_Sp_tell c_Sp_tell 3 (some .int) "TreeDiffer$Step" 1 := ⟨m_673, m_674, m_8, m_675, by decide +kernel⟩
theorem b_Sp_tell_21 {Λ : QLay} {G : Nat → List (Nat × Value) → List Value → QMem → Prop} {Q : Int → QMem → Prop} (hG : QAct c_Sp_tell "TreeDiffer$Step" 3 { frames := 1, cells := 0, slots := 0, locals := 20 } Λ G) (hR : RtI c_Sp_tell G Q) (v0 : Nat) (v1 : Int) (s0 : Int) (S : QMem) (o_v0 : qob Λ 5 v0) (h : w_Sp_tell_21 Λ Q v0 v1 s0 S) : G 21 [(0, .ref v0), (1, vI v1)] [vI s0] S := by
  have hΛ := hG.lay
  unfold w_Sp_tell_21 at h
  refine pw_ist_n (pc := 21) hG d_Sp_tell_21 (by decide) rfl ?_
  refine pw_iload_n (pc := 22) hG d_Sp_tell_22 rfl ?_
  obtain ⟨hr23, hz23_0, hz23_1, hz23_2, hz23_3, hz23_4, hz23_5, hzd23⟩ := h
  by_cases hc23_0 : v1 = 0
  · refine pw_table (tgt := 60) (pc := 23) hG d_Sp_tell_23 hr23 (by omega) (by omega) (off := 37) (by rw [hc23_0]; rfl) (by decide) ?_
    replace h := hz23_0 hc23_0
    refine pw_aload_n (pc := 60) hG d_Sp_tell_60 rfl ?_
    refine g5_0 (pc := 61) hG m_222 d_Sp_tell_61 o_v0 ?_
    exact hR 64 _ _ _ d_Sp_tell_64 h
  by_cases hc23_1 : v1 = 1
  · refine pw_table (tgt := 65) (pc := 23) hG d_Sp_tell_23 hr23 (by omega) (by omega) (off := 42) (by rw [hc23_1]; rfl) (by decide) ?_
    replace h := hz23_1 hc23_1
    refine pw_aload_n (pc := 65) hG d_Sp_tell_65 rfl ?_
    refine g5_1 (pc := 66) hG m_226 d_Sp_tell_66 o_v0 ?_
    refine pw_scallin (pc := 69) hG (fun l Δ => ct_TD_numberOf l Δ hΛ  h) (fun _ hn => hn.2) k_TD_numberOf rfl ⟨by decide, by decide⟩ (Nat.le_of_ble_eq_true rfl) d_Sp_tell_69 rfl (fun r69 S69 h => ?_)
    exact hR 72 _ _ _ d_Sp_tell_72 h
  by_cases hc23_2 : v1 = 2
  · refine pw_table (tgt := 73) (pc := 23) hG d_Sp_tell_23 hr23 (by omega) (by omega) (off := 50) (by rw [hc23_2]; rfl) (by decide) ?_
    replace h := hz23_2 hc23_2
    refine pw_iload_n (pc := 73) hG d_Sp_tell_73 rfl ?_
    obtain ⟨hrx74, ha74, hb74⟩ := h
    refine pw_if_eq (tgt := 87) (pc := 74) hG d_Sp_tell_74 (by decide) hrx74 (fun hc74 => ?_) (fun hc74 => ?_)
    · replace h := ha74 hc74
      refine pw_bipush (pc := 87) hG d_Sp_tell_87 (by decide) ?_
      exact hR 89 _ _ _ d_Sp_tell_89 h
    · replace h := hb74 hc74
      refine pw_aload_n (pc := 77) hG d_Sp_tell_77 rfl ?_
      refine g5_2 (pc := 78) hG m_229 d_Sp_tell_78 o_v0 ?_
      refine pw_scallin (pc := 81) hG (fun l Δ => ct_TD_numberOf l Δ hΛ  h) (fun _ hn => hn.2) k_TD_numberOf rfl ⟨by decide, by decide⟩ (Nat.le_of_ble_eq_true rfl) d_Sp_tell_81 rfl (fun r81 S81 h => ?_)
      refine pw_goto (tgt := 89) (pc := 84) hG d_Sp_tell_84 (by decide) ?_
      exact hR 89 _ _ _ d_Sp_tell_89 h
  by_cases hc23_3 : v1 = 3
  · refine pw_table (tgt := 90) (pc := 23) hG d_Sp_tell_23 hr23 (by omega) (by omega) (off := 67) (by rw [hc23_3]; rfl) (by decide) ?_
    replace h := hz23_3 hc23_3
    refine pw_iload_n (pc := 90) hG d_Sp_tell_90 rfl ?_
    obtain ⟨hrx91, ha91, hb91⟩ := h
    refine pw_if_eq (tgt := 101) (pc := 91) hG d_Sp_tell_91 (by decide) hrx91 (fun hc91 => ?_) (fun hc91 => ?_)
    · replace h := ha91 hc91
      refine pw_bipush (pc := 101) hG d_Sp_tell_101 (by decide) ?_
      exact hR 103 _ _ _ d_Sp_tell_103 h
    · replace h := hb91 hc91
      refine pw_aload_n (pc := 94) hG d_Sp_tell_94 rfl ?_
      refine g5_3 (pc := 95) hG m_232 d_Sp_tell_95 o_v0 ?_
      refine pw_goto (tgt := 103) (pc := 98) hG d_Sp_tell_98 (by decide) ?_
      exact hR 103 _ _ _ d_Sp_tell_103 h
  by_cases hc23_4 : v1 = 4
  · refine pw_table (tgt := 104) (pc := 23) hG d_Sp_tell_23 hr23 (by omega) (by omega) (off := 81) (by rw [hc23_4]; rfl) (by decide) ?_
    replace h := hz23_4 hc23_4
    refine pw_aload_n (pc := 104) hG d_Sp_tell_104 rfl ?_
    refine g5_0 (pc := 105) hG m_222 d_Sp_tell_105 o_v0 ?_
    refine pw_iconst (pc := 108) hG d_Sp_tell_108 ?_
    obtain ⟨hrx109, ha109, hb109⟩ := h
    refine pw_icmp_ne (tgt := 119) (pc := 109) hG d_Sp_tell_109 (by decide) hrx109 (q_lit rfl) (fun hc109 => ?_) (fun hc109 => ?_)
    · replace h := ha109 hc109
      refine pw_bipush (pc := 119) hG d_Sp_tell_119 (by decide) ?_
      exact hR 121 _ _ _ d_Sp_tell_121 h
    · replace h := hb109 hc109
      refine pw_aload_n (pc := 112) hG d_Sp_tell_112 rfl ?_
      refine g5_4 (pc := 113) hG m_235 d_Sp_tell_113 o_v0 ?_
      refine pw_goto (tgt := 121) (pc := 116) hG d_Sp_tell_116 (by decide) ?_
      exact hR 121 _ _ _ d_Sp_tell_121 h
  by_cases hc23_5 : v1 = 5
  · refine pw_table (tgt := 122) (pc := 23) hG d_Sp_tell_23 hr23 (by omega) (by omega) (off := 99) (by rw [hc23_5]; rfl) (by decide) ?_
    replace h := hz23_5 hc23_5
    refine pw_aload_n (pc := 122) hG d_Sp_tell_122 rfl ?_
    refine g5_0 (pc := 123) hG m_222 d_Sp_tell_123 o_v0 ?_
    refine pw_iconst (pc := 126) hG d_Sp_tell_126 ?_
    obtain ⟨hrx127, ha127, hb127⟩ := h
    refine pw_icmp_eq (tgt := 137) (pc := 127) hG d_Sp_tell_127 (by decide) hrx127 (q_lit rfl) (fun hc127 => ?_) (fun hc127 => ?_)
    · replace h := ha127 hc127
      refine pw_aload_n (pc := 137) hG d_Sp_tell_137 rfl ?_
      refine g5_5 (pc := 138) hG m_238 d_Sp_tell_138 o_v0 ?_
      refine pw_goto (tgt := 146) (pc := 141) hG d_Sp_tell_141 (by decide) ?_
      exact hR 146 _ _ _ d_Sp_tell_146 h
    · replace h := hb127 hc127
      refine pw_aload_n (pc := 130) hG d_Sp_tell_130 rfl ?_
      refine g5_0 (pc := 131) hG m_222 d_Sp_tell_131 o_v0 ?_
      obtain ⟨hrx134, ha134, hb134⟩ := h
      refine pw_if_ne (tgt := 144) (pc := 134) hG d_Sp_tell_134 (by decide) hrx134 (fun hc134 => ?_) (fun hc134 => ?_)
      · replace h := ha134 hc134
        refine pw_bipush (pc := 144) hG d_Sp_tell_144 (by decide) ?_
        exact hR 146 _ _ _ d_Sp_tell_146 h
      · replace h := hb134 hc134
        refine pw_aload_n (pc := 137) hG d_Sp_tell_137 rfl ?_
        refine g5_5 (pc := 138) hG m_238 d_Sp_tell_138 o_v0 ?_
        refine pw_goto (tgt := 146) (pc := 141) hG d_Sp_tell_141 (by decide) ?_
        exact hR 146 _ _ _ d_Sp_tell_146 h
  have hcd23 : v1 < 0 ∨ 5 < v1 := by omega
  refine pw_tableD (tgt := 147) (pc := 23) hG d_Sp_tell_23 hr23 hcd23 (by decide) ?_
  replace h := hzd23 hcd23
  refine pw_bipush (pc := 147) hG d_Sp_tell_147 (by decide) ?_
  exact hR 149 _ _ _ d_Sp_tell_149 h
theorem b_Sp_tell_16 {Λ : QLay} {G : Nat → List (Nat × Value) → List Value → QMem → Prop} {Q : Int → QMem → Prop} (hG : QAct c_Sp_tell "TreeDiffer$Step" 3 { frames := 1, cells := 0, slots := 0, locals := 20 } Λ G) (hR : RtI c_Sp_tell G Q) (v0 : Nat) (v1 : Int) (S : QMem) (o_v0 : qob Λ 5 v0) (h : w_Sp_tell_16 Λ Q v0 v1 S) : G 16 [(0, .ref v0), (1, vI v1)] [] S := by
  have hΛ := hG.lay
  unfold w_Sp_tell_16 at h
  refine pw_iconst (pc := 16) hG d_Sp_tell_16 ?_
  refine pw_goto (tgt := 21) (pc := 17) hG d_Sp_tell_17 (by decide) ?_
  exact pw_sub hG [0, 1] rfl (b_Sp_tell_21 hG hR v0 v1 1 S o_v0 h)
theorem b_Sp_tell_0 {Λ : QLay} {G : Nat → List (Nat × Value) → List Value → QMem → Prop} {Q : Int → QMem → Prop} (hG : QAct c_Sp_tell "TreeDiffer$Step" 3 { frames := 1, cells := 0, slots := 0, locals := 20 } Λ G) (hR : RtI c_Sp_tell G Q) (v0 : Nat) (v1 : Int) (S : QMem) (o0 : qob Λ 5 v0) (h : w_Sp_tell Λ v0 v1 S Q) : G 0 [(0, .ref v0), (1, vI v1)] [] S := by
  have hΛ := hG.lay
  unfold w_Sp_tell at h
  refine pw_aload_n (pc := 0) hG d_Sp_tell_0 rfl ?_
  refine g5_0 (pc := 1) hG m_222 d_Sp_tell_1 o0 ?_
  refine pw_iconst (pc := 4) hG d_Sp_tell_4 ?_
  obtain ⟨hrx5, ha5, hb5⟩ := h
  refine pw_icmp_eq (tgt := 16) (pc := 5) hG d_Sp_tell_5 (by decide) hrx5 (q_lit rfl) (fun hc5 => ?_) (fun hc5 => ?_)
  · replace h := ha5 hc5
    exact pw_sub hG [0, 1] rfl (b_Sp_tell_16 hG hR v0 v1 S o0 h)
  · replace h := hb5 hc5
    refine pw_aload_n (pc := 8) hG d_Sp_tell_8 rfl ?_
    refine g5_0 (pc := 9) hG m_222 d_Sp_tell_9 o0 ?_
    refine pw_iconst (pc := 12) hG d_Sp_tell_12 ?_
    obtain ⟨hrx13, ha13, hb13⟩ := h
    refine pw_icmp_ne (tgt := 20) (pc := 13) hG d_Sp_tell_13 (by decide) hrx13 (q_lit rfl) (fun hc13 => ?_) (fun hc13 => ?_)
    · replace h := ha13 hc13
      refine pw_iconst (pc := 20) hG d_Sp_tell_20 ?_
      exact pw_sub hG [0, 1] rfl (b_Sp_tell_21 hG hR v0 v1 0 S o0 h)
    · replace h := hb13 hc13
      exact pw_sub hG [0, 1] rfl (b_Sp_tell_16 hG hR v0 v1 S o0 h)
theorem ct_Sp_tell (l : Launch) (Δ : QDl) {Λ : QLay} (hΛ : LayOk Λ) {v0 : Nat} {v1 : Int} {S : QMem} {Q : Int → QMem → Prop} (o0 : qob Λ 5 v0) (h : w_Sp_tell Λ v0 v1 S Q) : QCt l y_Sp_tell c_Sp_tell 3 (some .int) 1 20 Δ Λ [.ref v0, vI v1] S (qI Q) :=
  QCt.mk (own := "TreeDiffer$Step") hΛ (by decide) rfl rfl (Nat.le_of_ble_eq_true rfl) (fun G hG ri rz rv rj ra => b_Sp_tell_0 hG (fun pc lv x S d hq => ri pc lv x S rfl d ⟨x, rfl, hq⟩) v0 v1 S o0 h)
theorem k_Tx_add : QVf y_Tx_add c_Tx_add 2 (some .boolean) "TreeDiffer$Text" 1 := ⟨m_374, m_375, m_2, m_376, by decide +kernel⟩
theorem b_Tx_add_0 {Λ : QLay} {G : Nat → List (Nat × Value) → List Value → QMem → Prop} {Q : Int → QMem → Prop} (hG : QAct c_Tx_add "TreeDiffer$Text" 2 { frames := 0, cells := 0, slots := 0, locals := 0 } Λ G) (hR : RtZ c_Tx_add G Q) (v0 : Nat) (v1 : Int) (S : QMem) (o0 : qob Λ 6 v0) (h : w_Tx_add Λ v0 v1 S Q) : G 0 [(0, .ref v0), (1, vI v1)] [] S := by
  have hΛ := hG.lay
  unfold w_Tx_add at h
  refine pw_aload_n (pc := 0) hG d_Tx_add_0 rfl ?_
  refine g6_1 (pc := 1) hG m_99 d_Tx_add_1 o0 ?_
  refine pw_bipush (pc := 4) hG d_Tx_add_4 (by decide) ?_
  obtain ⟨hrx6, ha6, hb6⟩ := h
  refine pw_icmp_lt (tgt := 11) (pc := 6) hG d_Tx_add_6 (by decide) hrx6 (q_lit rfl) (fun hc6 => ?_) (fun hc6 => ?_)
  · replace h := ha6 hc6
    refine pw_aload_n (pc := 11) hG d_Tx_add_11 rfl ?_
    refine g6_0 (pc := 12) hG m_98 d_Tx_add_12 o0 ?_
    refine pw_aload_n (pc := 15) hG d_Tx_add_15 rfl ?_
    refine g6_1 (pc := 16) hG m_99 d_Tx_add_16 o0 ?_
    refine pw_iload_n (pc := 19) hG d_Tx_add_19 rfl ?_
    obtain ⟨hi20, h⟩ := h
    refine pw_sI (pc := 20) hG (q_arr hΛ o0 rfl (by decide)) hi20 d_Tx_add_20 (fun S20 eS20 => ?_)
    replace h := h S20 eS20
    refine pw_aload_n (pc := 21) hG d_Tx_add_21 rfl ?_
    refine pw_dup (pc := 22) hG d_Tx_add_22 rfl ?_
    refine g6_1 (pc := 23) hG m_99 d_Tx_add_23 o0 ?_
    refine pw_iconst (pc := 26) hG d_Tx_add_26 ?_
    refine pw_iadd (pc := 27) hG d_Tx_add_27 ?_
    refine p6_1 (pc := 28) hG m_99 d_Tx_add_28 o0 (fun S28 eS28 => ?_)
    replace h := h S28 eS28
    refine pw_iconst (pc := 31) hG d_Tx_add_31 ?_
    exact hR 32 _ _ _ d_Tx_add_32 (Or.inr rfl) h
  · replace h := hb6 hc6
    refine pw_iconst (pc := 9) hG d_Tx_add_9 ?_
    exact hR 10 _ _ _ d_Tx_add_10 (Or.inl rfl) h
theorem ct_Tx_add (l : Launch) (Δ : QDl) {Λ : QLay} (hΛ : LayOk Λ) {v0 : Nat} {v1 : Int} {S : QMem} {Q : Int → QMem → Prop} (o0 : qob Λ 6 v0) (h : w_Tx_add Λ v0 v1 S Q) : QCt l y_Tx_add c_Tx_add 2 (some .boolean) 0 0 Δ Λ [.ref v0, vI v1] S (qI Q) :=
  QCt.mk (own := "TreeDiffer$Text") hΛ (by decide) rfl rfl (Nat.le_of_ble_eq_true rfl) (fun G hG ri rz rv rj ra => b_Tx_add_0 hG (fun pc lv x S d hb hq => rz pc lv x S rfl d hb ⟨x, rfl, hq⟩) v0 v1 S o0 h)
theorem k_Tr_add : QVf y_Tr_add c_Tr_add 3 (some .boolean) "TreeDiffer$Tree" 2 := ⟨m_398, m_399, m_3, m_400, by decide +kernel⟩
theorem b_Tr_add_0 {Λ : QLay} {G : Nat → List (Nat × Value) → List Value → QMem → Prop} {Q : Int → QMem → Prop} (hG : QAct c_Tr_add "TreeDiffer$Tree" 3 { frames := 0, cells := 0, slots := 0, locals := 0 } Λ G) (hR : RtZ c_Tr_add G Q) (v0 : Nat) (v1 : Int) (v2 : Int) (S : QMem) (o0 : qob Λ 7 v0) (h : w_Tr_add Λ v0 v1 v2 S Q) : G 0 [(0, .ref v0), (1, vI v1), (2, vI v2)] [] S := by
  have hΛ := hG.lay
  unfold w_Tr_add at h
  refine pw_aload_n (pc := 0) hG d_Tr_add_0 rfl ?_
  refine g7_0 (pc := 1) hG m_33 d_Tr_add_1 o0 ?_
  refine pw_bipush (pc := 4) hG d_Tr_add_4 (by decide) ?_
  obtain ⟨hrx6, ha6, hb6⟩ := h
  refine pw_icmp_lt (tgt := 11) (pc := 6) hG d_Tr_add_6 (by decide) hrx6 (q_lit rfl) (fun hc6 => ?_) (fun hc6 => ?_)
  · replace h := ha6 hc6
    refine pw_aload_n (pc := 11) hG d_Tr_add_11 rfl ?_
    refine g7_1 (pc := 12) hG m_40 d_Tr_add_12 o0 ?_
    refine pw_aload_n (pc := 15) hG d_Tr_add_15 rfl ?_
    refine g7_0 (pc := 16) hG m_33 d_Tr_add_16 o0 ?_
    refine pw_iload_n (pc := 19) hG d_Tr_add_19 rfl ?_
    obtain ⟨hi20, h⟩ := h
    refine pw_sI (pc := 20) hG (q_arr hΛ o0 rfl (by decide)) hi20 d_Tr_add_20 (fun S20 eS20 => ?_)
    replace h := h S20 eS20
    refine pw_aload_n (pc := 21) hG d_Tr_add_21 rfl ?_
    refine g7_2 (pc := 22) hG m_45 d_Tr_add_22 o0 ?_
    refine pw_aload_n (pc := 25) hG d_Tr_add_25 rfl ?_
    refine g7_0 (pc := 26) hG m_33 d_Tr_add_26 o0 ?_
    refine pw_iconst (pc := 29) hG d_Tr_add_29 ?_
    obtain ⟨hi30, h⟩ := h
    refine pw_sI (pc := 30) hG (q_arr hΛ o0 rfl (by decide)) hi30 d_Tr_add_30 (fun S30 eS30 => ?_)
    replace h := h S30 eS30
    refine pw_aload_n (pc := 31) hG d_Tr_add_31 rfl ?_
    refine g7_3 (pc := 32) hG m_51 d_Tr_add_32 o0 ?_
    refine pw_aload_n (pc := 35) hG d_Tr_add_35 rfl ?_
    refine g7_0 (pc := 36) hG m_33 d_Tr_add_36 o0 ?_
    refine pw_iload_n (pc := 39) hG d_Tr_add_39 rfl ?_
    obtain ⟨hi40, h⟩ := h
    refine pw_sI (pc := 40) hG (q_arr hΛ o0 rfl (by decide)) hi40 d_Tr_add_40 (fun S40 eS40 => ?_)
    replace h := h S40 eS40
    refine pw_aload_n (pc := 41) hG d_Tr_add_41 rfl ?_
    refine pw_dup (pc := 42) hG d_Tr_add_42 rfl ?_
    refine g7_0 (pc := 43) hG m_33 d_Tr_add_43 o0 ?_
    refine pw_iconst (pc := 46) hG d_Tr_add_46 ?_
    refine pw_iadd (pc := 47) hG d_Tr_add_47 ?_
    refine p7_0 (pc := 48) hG m_33 d_Tr_add_48 o0 (fun S48 eS48 => ?_)
    replace h := h S48 eS48
    refine pw_iconst (pc := 51) hG d_Tr_add_51 ?_
    exact hR 52 _ _ _ d_Tr_add_52 (Or.inr rfl) h
  · replace h := hb6 hc6
    refine pw_iconst (pc := 9) hG d_Tr_add_9 ?_
    exact hR 10 _ _ _ d_Tr_add_10 (Or.inl rfl) h
theorem ct_Tr_add (l : Launch) (Δ : QDl) {Λ : QLay} (hΛ : LayOk Λ) {v0 : Nat} {v1 : Int} {v2 : Int} {S : QMem} {Q : Int → QMem → Prop} (o0 : qob Λ 7 v0) (h : w_Tr_add Λ v0 v1 v2 S Q) : QCt l y_Tr_add c_Tr_add 3 (some .boolean) 0 0 Δ Λ [.ref v0, vI v1, vI v2] S (qI Q) :=
  QCt.mk (own := "TreeDiffer$Tree") hΛ (by decide) rfl rfl (Nat.le_of_ble_eq_true rfl) (fun G hG ri rz rv rj ra => b_Tr_add_0 hG (fun pc lv x S d hb hq => rz pc lv x S rfl d hb ⟨x, rfl, hq⟩) v0 v1 v2 S o0 h)
theorem k_Tx_takesLabel : QVf y_Tx_takesLabel c_Tx_takesLabel 2 (some .boolean) "TreeDiffer$Text" 1 := ⟨m_395, m_p1, m_2, m_396, by decide +kernel⟩
theorem b_Tx_takesLabel_0 {Λ : QLay} {G : Nat → List (Nat × Value) → List Value → QMem → Prop} {Q : Int → QMem → Prop} (hG : QAct c_Tx_takesLabel "TreeDiffer$Text" 2 { frames := 1, cells := 0, slots := 0, locals := 22 } Λ G) (hR : RtZ c_Tx_takesLabel G Q) (v0 : Nat) (v1 : Int) (S : QMem) (o0 : qob Λ 6 v0) (h : w_Tx_takesLabel Λ v0 v1 S Q) : G 0 [(0, .ref v0), (1, vI v1)] [] S := by
  have hΛ := hG.lay
  unfold w_Tx_takesLabel at h
  refine pw_iload_n (pc := 0) hG d_Tx_takesLabel_0 rfl ?_
  refine pw_bipush (pc := 1) hG d_Tx_takesLabel_1 (by decide) ?_
  obtain ⟨hrx3, ha3, hb3⟩ := h
  refine pw_icmp_lt (tgt := 30) (pc := 3) hG d_Tx_takesLabel_3 (by decide) hrx3 (q_lit rfl) (fun hc3 => ?_) (fun hc3 => ?_)
  · replace h := ha3 hc3
    refine pw_iconst (pc := 30) hG d_Tx_takesLabel_30 ?_
    exact hR 31 _ _ _ d_Tx_takesLabel_31 (Or.inl rfl) h
  · replace h := hb3 hc3
    refine pw_iload_n (pc := 6) hG d_Tx_takesLabel_6 rfl ?_
    refine pw_bipush (pc := 7) hG d_Tx_takesLabel_7 (by decide) ?_
    obtain ⟨hrx9, ha9, hb9⟩ := h
    refine pw_icmp_gt (tgt := 30) (pc := 9) hG d_Tx_takesLabel_9 (by decide) hrx9 (q_lit rfl) (fun hc9 => ?_) (fun hc9 => ?_)
    · replace h := ha9 hc9
      refine pw_iconst (pc := 30) hG d_Tx_takesLabel_30 ?_
      exact hR 31 _ _ _ d_Tx_takesLabel_31 (Or.inl rfl) h
    · replace h := hb9 hc9
      refine pw_aload_n (pc := 12) hG d_Tx_takesLabel_12 rfl ?_
      refine g6_2 (pc := 13) hG m_101 d_Tx_takesLabel_13 o0 ?_
      refine pw_iload_n (pc := 16) hG d_Tx_takesLabel_16 rfl ?_
      refine pw_bipush (pc := 17) hG d_Tx_takesLabel_17 (by decide) ?_
      refine pw_isub (pc := 19) hG d_Tx_takesLabel_19 ?_
      refine pw_aload_n (pc := 20) hG d_Tx_takesLabel_20 rfl ?_
      refine g6_5 (pc := 21) hG m_106 d_Tx_takesLabel_21 o0 ?_
      refine pw_calli (pc := 24) hG (fun l Δ => ct_Tr_add l Δ hΛ (q_rf hΛ o0 rfl (by decide)) h) (q_rf hΛ o0 rfl (by decide)) rfl (by decide) m_397 k_Tr_add rfl ⟨by decide, by decide⟩ (Nat.le_of_ble_eq_true rfl) d_Tx_takesLabel_24 rfl (fun r24 S24 h => ?_)
      obtain ⟨hrx27, ha27, hb27⟩ := h
      refine pw_if_ne (tgt := 32) (pc := 27) hG d_Tx_takesLabel_27 (by decide) hrx27 (fun hc27 => ?_) (fun hc27 => ?_)
      · replace h := ha27 hc27
        refine pw_aload_n (pc := 32) hG d_Tx_takesLabel_32 rfl ?_
        refine pw_iconst (pc := 33) hG d_Tx_takesLabel_33 ?_
        refine p6_4 (pc := 34) hG m_105 d_Tx_takesLabel_34 o0 (fun S34 eS34 => ?_)
        replace h := h S34 eS34
        refine pw_iconst (pc := 37) hG d_Tx_takesLabel_37 ?_
        exact hR 38 _ _ _ d_Tx_takesLabel_38 (Or.inr rfl) h
      · replace h := hb27 hc27
        refine pw_iconst (pc := 30) hG d_Tx_takesLabel_30 ?_
        exact hR 31 _ _ _ d_Tx_takesLabel_31 (Or.inl rfl) h
theorem ct_Tx_takesLabel (l : Launch) (Δ : QDl) {Λ : QLay} (hΛ : LayOk Λ) {v0 : Nat} {v1 : Int} {S : QMem} {Q : Int → QMem → Prop} (o0 : qob Λ 6 v0) (h : w_Tx_takesLabel Λ v0 v1 S Q) : QCt l y_Tx_takesLabel c_Tx_takesLabel 2 (some .boolean) 1 22 Δ Λ [.ref v0, vI v1] S (qI Q) :=
  QCt.mk (own := "TreeDiffer$Text") hΛ (by decide) rfl rfl (Nat.le_of_ble_eq_true rfl) (fun G hG ri rz rv rj ra => b_Tx_takesLabel_0 hG (fun pc lv x S d hb hq => rz pc lv x S rfl d hb ⟨x, rfl, hq⟩) v0 v1 S o0 h)
theorem k_Tx_takesOpening : QVf y_Tx_takesOpening c_Tx_takesOpening 1 (some .boolean) "TreeDiffer$Text" 0 := ⟨m_403, m_p2, m_2, m_404, by decide +kernel⟩
theorem b_Tx_takesOpening_0 {Λ : QLay} {G : Nat → List (Nat × Value) → List Value → QMem → Prop} {Q : Int → QMem → Prop} (hG : QAct c_Tx_takesOpening "TreeDiffer$Text" 1 { frames := 0, cells := 0, slots := 0, locals := 0 } Λ G) (hR : RtZ c_Tx_takesOpening G Q) (v0 : Nat) (S : QMem) (o0 : qob Λ 6 v0) (h : w_Tx_takesOpening Λ v0 S Q) : G 0 [(0, .ref v0)] [] S := by
  have hΛ := hG.lay
  unfold w_Tx_takesOpening at h
  refine pw_aload_n (pc := 0) hG d_Tx_takesOpening_0 rfl ?_
  refine g6_4 (pc := 1) hG m_105 d_Tx_takesOpening_1 o0 ?_
  refine pw_iconst (pc := 4) hG d_Tx_takesOpening_4 ?_
  obtain ⟨hrx5, ha5, hb5⟩ := h
  refine pw_icmp_ne (tgt := 10) (pc := 5) hG d_Tx_takesOpening_5 (by decide) hrx5 (q_lit rfl) (fun hc5 => ?_) (fun hc5 => ?_)
  · replace h := ha5 hc5
    refine pw_aload_n (pc := 10) hG d_Tx_takesOpening_10 rfl ?_
    refine pw_dup (pc := 11) hG d_Tx_takesOpening_11 rfl ?_
    refine g6_3 (pc := 12) hG m_103 d_Tx_takesOpening_12 o0 ?_
    refine pw_iconst (pc := 15) hG d_Tx_takesOpening_15 ?_
    refine pw_iadd (pc := 16) hG d_Tx_takesOpening_16 ?_
    refine p6_3 (pc := 17) hG m_103 d_Tx_takesOpening_17 o0 (fun S17 eS17 => ?_)
    replace h := h S17 eS17
    refine pw_aload_n (pc := 20) hG d_Tx_takesOpening_20 rfl ?_
    refine pw_aload_n (pc := 21) hG d_Tx_takesOpening_21 rfl ?_
    refine g6_2 (pc := 22) hG m_101 d_Tx_takesOpening_22 o0 ?_
    refine g7_0 (pc := 25) hG m_37 d_Tx_takesOpening_25 (q_rf hΛ o0 rfl (by decide)) ?_
    refine pw_iconst (pc := 28) hG d_Tx_takesOpening_28 ?_
    refine pw_isub (pc := 29) hG d_Tx_takesOpening_29 ?_
    refine p6_5 (pc := 30) hG m_106 d_Tx_takesOpening_30 o0 (fun S30 eS30 => ?_)
    replace h := h S30 eS30
    refine pw_aload_n (pc := 33) hG d_Tx_takesOpening_33 rfl ?_
    refine pw_iconst (pc := 34) hG d_Tx_takesOpening_34 ?_
    refine p6_4 (pc := 35) hG m_105 d_Tx_takesOpening_35 o0 (fun S35 eS35 => ?_)
    replace h := h S35 eS35
    refine pw_iconst (pc := 38) hG d_Tx_takesOpening_38 ?_
    exact hR 39 _ _ _ d_Tx_takesOpening_39 (Or.inr rfl) h
  · replace h := hb5 hc5
    refine pw_iconst (pc := 8) hG d_Tx_takesOpening_8 ?_
    exact hR 9 _ _ _ d_Tx_takesOpening_9 (Or.inl rfl) h
theorem ct_Tx_takesOpening (l : Launch) (Δ : QDl) {Λ : QLay} (hΛ : LayOk Λ) {v0 : Nat} {S : QMem} {Q : Int → QMem → Prop} (o0 : qob Λ 6 v0) (h : w_Tx_takesOpening Λ v0 S Q) : QCt l y_Tx_takesOpening c_Tx_takesOpening 1 (some .boolean) 0 0 Δ Λ [.ref v0] S (qI Q) :=
  QCt.mk (own := "TreeDiffer$Text") hΛ (by decide) rfl rfl (Nat.le_of_ble_eq_true rfl) (fun G hG ri rz rv rj ra => b_Tx_takesOpening_0 hG (fun pc lv x S d hb hq => rz pc lv x S rfl d hb ⟨x, rfl, hq⟩) v0 S o0 h)
theorem k_Tx_takesSpace : QVf y_Tx_takesSpace c_Tx_takesSpace 1 (some .boolean) "TreeDiffer$Text" 0 := ⟨m_407, m_p3, m_2, m_408, by decide +kernel⟩
theorem b_Tx_takesSpace_0 {Λ : QLay} {G : Nat → List (Nat × Value) → List Value → QMem → Prop} {Q : Int → QMem → Prop} (hG : QAct c_Tx_takesSpace "TreeDiffer$Text" 1 { frames := 0, cells := 0, slots := 0, locals := 0 } Λ G) (hR : RtZ c_Tx_takesSpace G Q) (v0 : Nat) (S : QMem) (o0 : qob Λ 6 v0) (h : w_Tx_takesSpace Λ v0 S Q) : G 0 [(0, .ref v0)] [] S := by
  have hΛ := hG.lay
  unfold w_Tx_takesSpace at h
  refine pw_aload_n (pc := 0) hG d_Tx_takesSpace_0 rfl ?_
  refine g6_3 (pc := 1) hG m_103 d_Tx_takesSpace_1 o0 ?_
  obtain ⟨hrx4, ha4, hb4⟩ := h
  refine pw_if_ne (tgt := 9) (pc := 4) hG d_Tx_takesSpace_4 (by decide) hrx4 (fun hc4 => ?_) (fun hc4 => ?_)
  · replace h := ha4 hc4
    refine pw_aload_n (pc := 9) hG d_Tx_takesSpace_9 rfl ?_
    refine pw_iconst (pc := 10) hG d_Tx_takesSpace_10 ?_
    refine p6_4 (pc := 11) hG m_105 d_Tx_takesSpace_11 o0 (fun S11 eS11 => ?_)
    replace h := h S11 eS11
    refine pw_iconst (pc := 14) hG d_Tx_takesSpace_14 ?_
    exact hR 15 _ _ _ d_Tx_takesSpace_15 (Or.inr rfl) h
  · replace h := hb4 hc4
    refine pw_iconst (pc := 7) hG d_Tx_takesSpace_7 ?_
    exact hR 8 _ _ _ d_Tx_takesSpace_8 (Or.inl rfl) h
theorem ct_Tx_takesSpace (l : Launch) (Δ : QDl) {Λ : QLay} (hΛ : LayOk Λ) {v0 : Nat} {S : QMem} {Q : Int → QMem → Prop} (o0 : qob Λ 6 v0) (h : w_Tx_takesSpace Λ v0 S Q) : QCt l y_Tx_takesSpace c_Tx_takesSpace 1 (some .boolean) 0 0 Δ Λ [.ref v0] S (qI Q) :=
  QCt.mk (own := "TreeDiffer$Text") hΛ (by decide) rfl rfl (Nat.le_of_ble_eq_true rfl) (fun G hG ri rz rv rj ra => b_Tx_takesSpace_0 hG (fun pc lv x S d hb hq => rz pc lv x S rfl d hb ⟨x, rfl, hq⟩) v0 S o0 h)
theorem k_Tx_takesClosing : QVf y_Tx_takesClosing c_Tx_takesClosing 1 (some .boolean) "TreeDiffer$Text" 0 := ⟨m_411, m_p4, m_2, m_412, by decide +kernel⟩
theorem b_Tx_takesClosing_0 {Λ : QLay} {G : Nat → List (Nat × Value) → List Value → QMem → Prop} {Q : Int → QMem → Prop} (hG : QAct c_Tx_takesClosing "TreeDiffer$Text" 1 { frames := 0, cells := 0, slots := 0, locals := 0 } Λ G) (hR : RtZ c_Tx_takesClosing G Q) (v0 : Nat) (S : QMem) (o0 : qob Λ 6 v0) (h : w_Tx_takesClosing Λ v0 S Q) : G 0 [(0, .ref v0)] [] S := by
  have hΛ := hG.lay
  unfold w_Tx_takesClosing at h
  refine pw_aload_n (pc := 0) hG d_Tx_takesClosing_0 rfl ?_
  refine g6_3 (pc := 1) hG m_103 d_Tx_takesClosing_1 o0 ?_
  obtain ⟨hrx4, ha4, hb4⟩ := h
  refine pw_if_eq (tgt := 14) (pc := 4) hG d_Tx_takesClosing_4 (by decide) hrx4 (fun hc4 => ?_) (fun hc4 => ?_)
  · replace h := ha4 hc4
    refine pw_iconst (pc := 14) hG d_Tx_takesClosing_14 ?_
    exact hR 15 _ _ _ d_Tx_takesClosing_15 (Or.inl rfl) h
  · replace h := hb4 hc4
    refine pw_aload_n (pc := 7) hG d_Tx_takesClosing_7 rfl ?_
    refine g6_5 (pc := 8) hG m_106 d_Tx_takesClosing_8 o0 ?_
    obtain ⟨hrx11, ha11, hb11⟩ := h
    refine pw_if_ge (tgt := 16) (pc := 11) hG d_Tx_takesClosing_11 (by decide) hrx11 (fun hc11 => ?_) (fun hc11 => ?_)
    · replace h := ha11 hc11
      refine pw_aload_n (pc := 16) hG d_Tx_takesClosing_16 rfl ?_
      refine pw_dup (pc := 17) hG d_Tx_takesClosing_17 rfl ?_
      refine g6_3 (pc := 18) hG m_103 d_Tx_takesClosing_18 o0 ?_
      refine pw_iconst (pc := 21) hG d_Tx_takesClosing_21 ?_
      refine pw_isub (pc := 22) hG d_Tx_takesClosing_22 ?_
      refine p6_3 (pc := 23) hG m_103 d_Tx_takesClosing_23 o0 (fun S23 eS23 => ?_)
      replace h := h S23 eS23
      refine pw_aload_n (pc := 26) hG d_Tx_takesClosing_26 rfl ?_
      refine pw_aload_n (pc := 27) hG d_Tx_takesClosing_27 rfl ?_
      refine g6_2 (pc := 28) hG m_101 d_Tx_takesClosing_28 o0 ?_
      refine g7_3 (pc := 31) hG m_56 d_Tx_takesClosing_31 (q_rf hΛ o0 rfl (by decide)) ?_
      refine pw_aload_n (pc := 34) hG d_Tx_takesClosing_34 rfl ?_
      refine g6_5 (pc := 35) hG m_106 d_Tx_takesClosing_35 o0 ?_
      obtain ⟨hi38, h⟩ := h
      refine pw_aI (pc := 38) hG (q_arr hΛ (q_rf hΛ o0 rfl (by decide)) rfl (by decide)) hi38 d_Tx_takesClosing_38 ?_
      refine p6_5 (pc := 39) hG m_106 d_Tx_takesClosing_39 o0 (fun S39 eS39 => ?_)
      replace h := h S39 eS39
      refine pw_aload_n (pc := 42) hG d_Tx_takesClosing_42 rfl ?_
      refine pw_iconst (pc := 43) hG d_Tx_takesClosing_43 ?_
      refine p6_4 (pc := 44) hG m_105 d_Tx_takesClosing_44 o0 (fun S44 eS44 => ?_)
      replace h := h S44 eS44
      refine pw_iconst (pc := 47) hG d_Tx_takesClosing_47 ?_
      exact hR 48 _ _ _ d_Tx_takesClosing_48 (Or.inr rfl) h
    · replace h := hb11 hc11
      refine pw_iconst (pc := 14) hG d_Tx_takesClosing_14 ?_
      exact hR 15 _ _ _ d_Tx_takesClosing_15 (Or.inl rfl) h
theorem ct_Tx_takesClosing (l : Launch) (Δ : QDl) {Λ : QLay} (hΛ : LayOk Λ) {v0 : Nat} {S : QMem} {Q : Int → QMem → Prop} (o0 : qob Λ 6 v0) (h : w_Tx_takesClosing Λ v0 S Q) : QCt l y_Tx_takesClosing c_Tx_takesClosing 1 (some .boolean) 0 0 Δ Λ [.ref v0] S (qI Q) :=
  QCt.mk (own := "TreeDiffer$Text") hΛ (by decide) rfl rfl (Nat.le_of_ble_eq_true rfl) (fun G hG ri rz rv rj ra => b_Tx_takesClosing_0 hG (fun pc lv x S d hb hq => rz pc lv x S rfl d hb ⟨x, rfl, hq⟩) v0 S o0 h)
