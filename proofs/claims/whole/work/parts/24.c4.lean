theorem k_TD_likeness : QVf y_TD_likeness c_TD_likeness 4 (some .int) "TreeDiffer" 2 := ⟨m_660, m_661, m_1, m_662, by decide +kernel⟩
theorem b_TD_likeness_0 {Λ : QLay} {G : Nat → List (Nat × Value) → List Value → QMem → Prop} {Q : Int → QMem → Prop} (hG : QAct c_TD_likeness "TreeDiffer" 4 { frames := 7, cells := 0, slots := 0, locals := 161 } Λ G) (hR : RtI c_TD_likeness G Q) (v0 : Nat) (v1 : Int) (v2 : Int) (S : QMem) (o0 : qob Λ 9 v0) (h : w_TD_likeness Λ v0 v1 v2 S Q) : G 0 [(0, .ref v0), (1, vI v1), (2, vI v2)] [] S := by
  have hΛ := hG.lay
  unfold w_TD_likeness at h
  refine pw_aload_n (pc := 0) hG d_TD_likeness_0 rfl ?_
  refine pw_iconst (pc := 1) hG d_TD_likeness_1 ?_
  refine pw_iload_n (pc := 2) hG d_TD_likeness_2 rfl ?_
  refine pw_calli (pc := 3) hG (fun l Δ => ct_TD_isNode l Δ hΛ o0 h) o0 rfl (by decide) m_471 k_TD_isNode rfl ⟨by decide, by decide⟩ (Nat.le_of_ble_eq_true rfl) d_TD_likeness_3 rfl (fun r3 S3 h => ?_)
  obtain ⟨hrx6, ha6, hb6⟩ := h
  refine pw_if_eq (tgt := 18) (pc := 6) hG d_TD_likeness_6 (by decide) hrx6 (fun hc6 => ?_) (fun hc6 => ?_)
  · replace h := ha6 hc6
    refine pw_bipush (pc := 18) hG d_TD_likeness_18 (by decide) ?_
    exact hR 20 _ _ _ d_TD_likeness_20 h
  · replace h := hb6 hc6
    refine pw_aload_n (pc := 9) hG d_TD_likeness_9 rfl ?_
    refine pw_iconst (pc := 10) hG d_TD_likeness_10 ?_
    refine pw_iload_n (pc := 11) hG d_TD_likeness_11 rfl ?_
    refine pw_calli (pc := 12) hG (fun l Δ => ct_TD_isNode l Δ hΛ o0 h) o0 rfl (by decide) m_471 k_TD_isNode rfl ⟨by decide, by decide⟩ (Nat.le_of_ble_eq_true rfl) d_TD_likeness_12 rfl (fun r12 S12 h => ?_)
    obtain ⟨hrx15, ha15, hb15⟩ := h
    refine pw_if_ne (tgt := 21) (pc := 15) hG d_TD_likeness_15 (by decide) hrx15 (fun hc15 => ?_) (fun hc15 => ?_)
    · replace h := ha15 hc15
      refine pw_aload_n (pc := 21) hG d_TD_likeness_21 rfl ?_
      refine pw_callv (pc := 22) hG (fun l Δ => ct_TD_compare l Δ hΛ o0 h) o0 rfl (by decide) m_507 k_TD_compare rfl ⟨by decide, by decide⟩ (Nat.le_of_ble_eq_true rfl) d_TD_likeness_22 rfl (fun S22 h => ?_)
      refine pw_aload_n (pc := 25) hG d_TD_likeness_25 rfl ?_
      refine g9_1 (pc := 26) hG m_327 d_TD_likeness_26 o0 ?_
      refine pw_getP (pc := 29) hG (q_rf hΛ o0 rfl (by decide)) 0 (Or.inl rfl) m_129 d_TD_likeness_29 (fun t29 et29 ot29 => ?_)
      replace h := h t29 et29
      refine g7_7 (pc := 32) hG m_68 d_TD_likeness_32 ot29 ?_
      refine pw_iload_n (pc := 35) hG d_TD_likeness_35 rfl ?_
      obtain ⟨hi36, h⟩ := h
      refine pw_aI (pc := 36) hG (q_arr hΛ ot29 rfl (by decide)) hi36 d_TD_likeness_36 ?_
      refine pw_aload_n (pc := 37) hG d_TD_likeness_37 rfl ?_
      refine g9_1 (pc := 38) hG m_327 d_TD_likeness_38 o0 ?_
      refine pw_getP (pc := 41) hG (q_rf hΛ o0 rfl (by decide)) 1 (Or.inr rfl) m_137 d_TD_likeness_41 (fun t41 et41 ot41 => ?_)
      replace h := h t41 et41
      refine g7_7 (pc := 44) hG m_68 d_TD_likeness_44 ot41 ?_
      refine pw_iload_n (pc := 47) hG d_TD_likeness_47 rfl ?_
      obtain ⟨hi48, h⟩ := h
      refine pw_aI (pc := 48) hG (q_arr hΛ ot41 rfl (by decide)) hi48 d_TD_likeness_48 ?_
      refine pw_iadd (pc := 49) hG d_TD_likeness_49 ?_
      refine pw_istore_n (pc := 50) hG d_TD_likeness_50 (by decide) (fun x50 ex50 => ⟨_, rfl, ?_⟩)
      replace h := h x50 ex50
      refine pw_iload_n (pc := 51) hG d_TD_likeness_51 rfl ?_
      obtain ⟨hrx52, ha52, hb52⟩ := h
      refine pw_if_ne (tgt := 59) (pc := 52) hG d_TD_likeness_52 (by decide) hrx52 (fun hc52 => ?_) (fun hc52 => ?_)
      · replace h := ha52 hc52
        refine pw_sipush (pc := 59) hG d_TD_likeness_59 (by decide) ?_
        refine pw_aload_n (pc := 62) hG d_TD_likeness_62 rfl ?_
        refine g9_4 (pc := 63) hG m_330 d_TD_likeness_63 o0 ?_
        refine pw_aload_n (pc := 66) hG d_TD_likeness_66 rfl ?_
        refine g9_1 (pc := 67) hG m_327 d_TD_likeness_67 o0 ?_
        refine pw_iload_n (pc := 70) hG d_TD_likeness_70 rfl ?_
        refine pw_iload_n (pc := 71) hG d_TD_likeness_71 rfl ?_
        refine pw_calli (pc := 72) hG (fun l Δ => ct_Ma_commonBelow l Δ hΛ (q_rf hΛ o0 rfl (by decide)) (q_rf hΛ o0 rfl (by decide)) h) (q_rf hΛ o0 rfl (by decide)) rfl (by decide) m_663 k_Ma_commonBelow rfl ⟨by decide, by decide⟩ (Nat.le_of_ble_eq_true rfl) d_TD_likeness_72 rfl (fun r72 S72 h => ?_)
        refine pw_imul (pc := 75) hG d_TD_likeness_75 ?_
        refine pw_iload_n (pc := 76) hG d_TD_likeness_76 rfl ?_
        obtain ⟨hx77, hy77, h⟩ := h
        refine pw_idiv (pc := 77) hG d_TD_likeness_77 hx77 hy77 ?_
        exact hR 78 _ _ _ d_TD_likeness_78 h
      · replace h := hb52 hc52
        refine pw_iconst (pc := 55) hG d_TD_likeness_55 ?_
        refine pw_goto (tgt := 78) (pc := 56) hG d_TD_likeness_56 (by decide) ?_
        exact hR 78 _ _ _ d_TD_likeness_78 h
    · replace h := hb15 hc15
      refine pw_bipush (pc := 18) hG d_TD_likeness_18 (by decide) ?_
      exact hR 20 _ _ _ d_TD_likeness_20 h
theorem ct_TD_likeness (l : Launch) (Δ : QDl) {Λ : QLay} (hΛ : LayOk Λ) {v0 : Nat} {v1 : Int} {v2 : Int} {S : QMem} {Q : Int → QMem → Prop} (o0 : qob Λ 9 v0) (h : w_TD_likeness Λ v0 v1 v2 S Q) : QCt l y_TD_likeness c_TD_likeness 4 (some .int) 7 161 Δ Λ [.ref v0, vI v1, vI v2] S (qI Q) :=
  QCt.mk (own := "TreeDiffer") hΛ (by decide) rfl rfl (Nat.le_of_ble_eq_true rfl) (fun G hG ri rz rv rj ra => b_TD_likeness_0 hG (fun pc lv x S d hq => ri pc lv x S rfl d ⟨x, rfl, hq⟩) v0 v1 v2 S o0 h)
theorem k_TD_steps : QVf y_TD_steps c_TD_steps 1 (some .int) "TreeDiffer" 0 := ⟨m_665, m_666, m_1, m_667, by decide +kernel⟩
theorem b_TD_steps_0 {Λ : QLay} {G : Nat → List (Nat × Value) → List Value → QMem → Prop} {Q : Int → QMem → Prop} (hG : QAct c_TD_steps "TreeDiffer" 1 { frames := 7, cells := 0, slots := 0, locals := 161 } Λ G) (hR : RtI c_TD_steps G Q) (v0 : Nat) (S : QMem) (o0 : qob Λ 9 v0) (h : w_TD_steps Λ v0 S Q) : G 0 [(0, .ref v0)] [] S := by
  have hΛ := hG.lay
  unfold w_TD_steps at h
  refine pw_aload_n (pc := 0) hG d_TD_steps_0 rfl ?_
  refine pw_callv (pc := 1) hG (fun l Δ => ct_TD_compare l Δ hΛ o0 h) o0 rfl (by decide) m_507 k_TD_compare rfl ⟨by decide, by decide⟩ (Nat.le_of_ble_eq_true rfl) d_TD_steps_1 rfl (fun S1 h => ?_)
  refine pw_aload_n (pc := 4) hG d_TD_steps_4 rfl ?_
  refine g9_5 (pc := 5) hG m_331 d_TD_steps_5 o0 ?_
  refine g3_1 (pc := 8) hG m_269 d_TD_steps_8 (q_rf hΛ o0 rfl (by decide)) ?_
  exact hR 11 _ _ _ d_TD_steps_11 h
theorem ct_TD_steps (l : Launch) (Δ : QDl) {Λ : QLay} (hΛ : LayOk Λ) {v0 : Nat} {S : QMem} {Q : Int → QMem → Prop} (o0 : qob Λ 9 v0) (h : w_TD_steps Λ v0 S Q) : QCt l y_TD_steps c_TD_steps 1 (some .int) 7 161 Δ Λ [.ref v0] S (qI Q) :=
  QCt.mk (own := "TreeDiffer") hΛ (by decide) rfl rfl (Nat.le_of_ble_eq_true rfl) (fun G hG ri rz rv rj ra => b_TD_steps_0 hG (fun pc lv x S d hq => ri pc lv x S rfl d ⟨x, rfl, hq⟩) v0 S o0 h)
theorem k_TD_step : QVf y_TD_step c_TD_step 3 (some .int) "TreeDiffer" 2 := ⟨m_669, m_670, m_1, m_671, by decide +kernel⟩
theorem b_TD_step_0 {Λ : QLay} {G : Nat → List (Nat × Value) → List Value → QMem → Prop} {Q : Int → QMem → Prop} (hG : QAct c_TD_step "TreeDiffer" 3 { frames := 7, cells := 0, slots := 0, locals := 161 } Λ G) (hR : RtI c_TD_step G Q) (v0 : Nat) (v1 : Int) (v2 : Int) (S : QMem) (o0 : qob Λ 9 v0) (h : w_TD_step Λ v0 v1 v2 S Q) : G 0 [(0, .ref v0), (1, vI v1), (2, vI v2)] [] S := by
  have hΛ := hG.lay
  unfold w_TD_step at h
  refine pw_aload_n (pc := 0) hG d_TD_step_0 rfl ?_
  refine pw_callv (pc := 1) hG (fun l Δ => ct_TD_compare l Δ hΛ o0 h) o0 rfl (by decide) m_507 k_TD_compare rfl ⟨by decide, by decide⟩ (Nat.le_of_ble_eq_true rfl) d_TD_step_1 rfl (fun S1 h => ?_)
  refine pw_iload_n (pc := 4) hG d_TD_step_4 rfl ?_
  obtain ⟨hrx5, ha5, hb5⟩ := h
  refine pw_if_lt (tgt := 19) (pc := 5) hG d_TD_step_5 (by decide) hrx5 (fun hc5 => ?_) (fun hc5 => ?_)
  · replace h := ha5 hc5
    refine pw_bipush (pc := 19) hG d_TD_step_19 (by decide) ?_
    exact hR 21 _ _ _ d_TD_step_21 h
  · replace h := hb5 hc5
    refine pw_iload_n (pc := 8) hG d_TD_step_8 rfl ?_
    refine pw_aload_n (pc := 9) hG d_TD_step_9 rfl ?_
    refine g9_5 (pc := 10) hG m_331 d_TD_step_10 o0 ?_
    refine g3_1 (pc := 13) hG m_269 d_TD_step_13 (q_rf hΛ o0 rfl (by decide)) ?_
    obtain ⟨hrx16, hry16, ha16, hb16⟩ := h
    refine pw_icmp_lt (tgt := 22) (pc := 16) hG d_TD_step_16 (by decide) hrx16 hry16 (fun hc16 => ?_) (fun hc16 => ?_)
    · replace h := ha16 hc16
      refine pw_aload_n (pc := 22) hG d_TD_step_22 rfl ?_
      refine g9_5 (pc := 23) hG m_331 d_TD_step_23 o0 ?_
      refine g3_0 (pc := 26) hG m_267 d_TD_step_26 (q_rf hΛ o0 rfl (by decide)) ?_
      refine pw_iload_n (pc := 29) hG d_TD_step_29 rfl ?_
      obtain ⟨hi30, h⟩ := h
      refine pw_aO (pc := 30) hG (q_arr hΛ (q_rf hΛ o0 rfl (by decide)) rfl (by decide)) (Or.inr rfl) hi30 d_TD_step_30 ?_
      refine pw_iload_n (pc := 31) hG d_TD_step_31 rfl ?_
      refine pw_calli (pc := 32) hG (fun l Δ => ct_Sp_tell l Δ hΛ (q_rf hΛ (q_rf hΛ o0 rfl (by decide)) rfl hi30) h) (q_rf hΛ (q_rf hΛ o0 rfl (by decide)) rfl hi30) rfl (by decide) m_672 k_Sp_tell rfl ⟨by decide, by decide⟩ (Nat.le_of_ble_eq_true rfl) d_TD_step_32 rfl (fun r32 S32 h => ?_)
      exact hR 35 _ _ _ d_TD_step_35 h
    · replace h := hb16 hc16
      refine pw_bipush (pc := 19) hG d_TD_step_19 (by decide) ?_
      exact hR 21 _ _ _ d_TD_step_21 h
theorem ct_TD_step (l : Launch) (Δ : QDl) {Λ : QLay} (hΛ : LayOk Λ) {v0 : Nat} {v1 : Int} {v2 : Int} {S : QMem} {Q : Int → QMem → Prop} (o0 : qob Λ 9 v0) (h : w_TD_step Λ v0 v1 v2 S Q) : QCt l y_TD_step c_TD_step 3 (some .int) 7 161 Δ Λ [.ref v0, vI v1, vI v2] S (qI Q) :=
  QCt.mk (own := "TreeDiffer") hΛ (by decide) rfl rfl (Nat.le_of_ble_eq_true rfl) (fun G hG ri rz rv rj ra => b_TD_step_0 hG (fun pc lv x S d hq => ri pc lv x S rfl d ⟨x, rfl, hq⟩) v0 v1 v2 S o0 h)
theorem k_TD_count : QVf y_TD_count c_TD_count 4 (some .int) "TreeDiffer" 1 := ⟨m_680, m_681, m_1, m_682, by decide +kernel⟩
theorem b_TD_count_20 {Λ : QLay} {G : Nat → List (Nat × Value) → List Value → QMem → Prop} {Q : Int → QMem → Prop} (hG : QAct c_TD_count "TreeDiffer" 4 { frames := 7, cells := 0, slots := 0, locals := 161 } Λ G) (hR : RtI c_TD_count G Q) : ∀ (n : Nat) (v0 : Nat) (v1 : Int) (v2 : Int) (v3 : Int) (S : QMem), qob Λ 9 v0 → w_TD_count_20 Λ Q n v0 v1 v2 v3 S → G 20 [(0, .ref v0), (1, vI v1), (2, vI v2), (3, vI v3)] [] S := by
  have hΛ := hG.lay
  intro n
  induction n with
  | zero => intro v0 v1 v2 v3 S o_v0 h; exact h.elim
  | succ n ih =>
    intro v0 v1 v2 v3 S o_v0 h
    rw [w_TD_count_20] at h
    refine pw_iload_n (pc := 20) hG d_TD_count_20 rfl ?_
    refine pw_aload_n (pc := 21) hG d_TD_count_21 rfl ?_
    refine g9_5 (pc := 22) hG m_331 d_TD_count_22 o_v0 ?_
    refine g3_1 (pc := 25) hG m_269 d_TD_count_25 (q_rf hΛ o_v0 rfl (by decide)) ?_
    obtain ⟨hrx28, hry28, ha28, hb28⟩ := h
    refine pw_icmp_ge (tgt := 56) (pc := 28) hG d_TD_count_28 (by decide) hrx28 hry28 (fun hc28 => ?_) (fun hc28 => ?_)
    · replace h := ha28 hc28
      refine pw_iload_n (pc := 56) hG d_TD_count_56 rfl ?_
      exact hR 57 _ _ _ d_TD_count_57 h
    · replace h := hb28 hc28
      refine pw_aload_n (pc := 31) hG d_TD_count_31 rfl ?_
      refine g9_5 (pc := 32) hG m_331 d_TD_count_32 o_v0 ?_
      refine g3_0 (pc := 35) hG m_267 d_TD_count_35 (q_rf hΛ o_v0 rfl (by decide)) ?_
      refine pw_iload_n (pc := 38) hG d_TD_count_38 rfl ?_
      obtain ⟨hi39, h⟩ := h
      refine pw_aO (pc := 39) hG (q_arr hΛ (q_rf hΛ o_v0 rfl (by decide)) rfl (by decide)) (Or.inr rfl) hi39 d_TD_count_39 ?_
      refine g5_0 (pc := 40) hG m_225 d_TD_count_40 (q_rf hΛ (q_rf hΛ o_v0 rfl (by decide)) rfl hi39) ?_
      refine pw_iload_n (pc := 43) hG d_TD_count_43 rfl ?_
      obtain ⟨hrx44, hry44, ha44, hb44⟩ := h
      refine pw_icmp_ne (tgt := 50) (pc := 44) hG d_TD_count_44 (by decide) hrx44 hry44 (fun hc44 => ?_) (fun hc44 => ?_)
      · replace h := ha44 hc44
        refine pw_iinc0 (pc := 50) hG d_TD_count_50 rfl (by decide) rfl ?_
        refine pw_goto (tgt := 20) (pc := 53) hG d_TD_count_53 (by decide) ?_
        exact pw_sub hG [0, 1, 2, 3] rfl (ih v0 v1 v2 (v3 + 1) S o_v0 h)
      · replace h := hb44 hc44
        refine pw_iinc0 (pc := 47) hG d_TD_count_47 rfl (by decide) rfl ?_
        refine pw_iinc0 (pc := 50) hG d_TD_count_50 rfl (by decide) rfl ?_
        refine pw_goto (tgt := 20) (pc := 53) hG d_TD_count_53 (by decide) ?_
        exact pw_sub hG [0, 1, 2, 3] rfl (ih v0 v1 (v2 + 1) (v3 + 1) S o_v0 h)
theorem b_TD_count_0 {Λ : QLay} {G : Nat → List (Nat × Value) → List Value → QMem → Prop} {Q : Int → QMem → Prop} (hG : QAct c_TD_count "TreeDiffer" 4 { frames := 7, cells := 0, slots := 0, locals := 161 } Λ G) (hR : RtI c_TD_count G Q) (v0 : Nat) (v1 : Int) (S : QMem) (o0 : qob Λ 9 v0) (h : w_TD_count Λ v0 v1 S Q) : G 0 [(0, .ref v0), (1, vI v1)] [] S := by
  have hΛ := hG.lay
  unfold w_TD_count at h
  refine pw_iload_n (pc := 0) hG d_TD_count_0 rfl ?_
  obtain ⟨hrx1, ha1, hb1⟩ := h
  refine pw_if_lt (tgt := 9) (pc := 1) hG d_TD_count_1 (by decide) hrx1 (fun hc1 => ?_) (fun hc1 => ?_)
  · replace h := ha1 hc1
    refine pw_bipush (pc := 9) hG d_TD_count_9 (by decide) ?_
    exact hR 11 _ _ _ d_TD_count_11 h
  · replace h := hb1 hc1
    refine pw_iload_n (pc := 4) hG d_TD_count_4 rfl ?_
    refine pw_iconst (pc := 5) hG d_TD_count_5 ?_
    obtain ⟨hrx6, ha6, hb6⟩ := h
    refine pw_icmp_le (tgt := 12) (pc := 6) hG d_TD_count_6 (by decide) hrx6 (q_lit rfl) (fun hc6 => ?_) (fun hc6 => ?_)
    · replace h := ha6 hc6
      refine pw_aload_n (pc := 12) hG d_TD_count_12 rfl ?_
      refine pw_callv (pc := 13) hG (fun l Δ => ct_TD_compare l Δ hΛ o0 h) o0 rfl (by decide) m_507 k_TD_compare rfl ⟨by decide, by decide⟩ (Nat.le_of_ble_eq_true rfl) d_TD_count_13 rfl (fun S13 h => ?_)
      refine pw_iconst (pc := 16) hG d_TD_count_16 ?_
      refine pw_ist_n (pc := 17) hG d_TD_count_17 (by decide) rfl ?_
      refine pw_iconst (pc := 18) hG d_TD_count_18 ?_
      refine pw_ist_n (pc := 19) hG d_TD_count_19 (by decide) rfl ?_
      obtain ⟨n19, h⟩ := h
      exact pw_sub hG [0, 1, 2, 3] rfl (b_TD_count_20 hG hR n19 v0 v1 0 0 S13 o0 h)
    · replace h := hb6 hc6
      refine pw_bipush (pc := 9) hG d_TD_count_9 (by decide) ?_
      exact hR 11 _ _ _ d_TD_count_11 h
theorem ct_TD_count (l : Launch) (Δ : QDl) {Λ : QLay} (hΛ : LayOk Λ) {v0 : Nat} {v1 : Int} {S : QMem} {Q : Int → QMem → Prop} (o0 : qob Λ 9 v0) (h : w_TD_count Λ v0 v1 S Q) : QCt l y_TD_count c_TD_count 4 (some .int) 7 161 Δ Λ [.ref v0, vI v1] S (qI Q) :=
  QCt.mk (own := "TreeDiffer") hΛ (by decide) rfl rfl (Nat.le_of_ble_eq_true rfl) (fun G hG ri rz rv rj ra => b_TD_count_0 hG (fun pc lv x S d hq => ri pc lv x S rfl d ⟨x, rfl, hq⟩) v0 v1 S o0 h)
theorem k_TD_distance : QVf y_TD_distance c_TD_distance 1 (some .int) "TreeDiffer" 0 := ⟨m_684, m_685, m_1, m_686, by decide +kernel⟩
theorem b_TD_distance_0 {Λ : QLay} {G : Nat → List (Nat × Value) → List Value → QMem → Prop} {Q : Int → QMem → Prop} (hG : QAct c_TD_distance "TreeDiffer" 1 { frames := 3, cells := 0, slots := 0, locals := 76 } Λ G) (hR : RtI c_TD_distance G Q) (v0 : Nat) (S : QMem) (o0 : qob Λ 9 v0) (h : w_TD_distance Λ v0 S Q) : G 0 [(0, .ref v0)] [] S := by
  have hΛ := hG.lay
  unfold w_TD_distance at h
  refine pw_aload_n (pc := 0) hG d_TD_distance_0 rfl ?_
  refine g9_12 (pc := 1) hG m_338 d_TD_distance_1 o0 ?_
  refine pw_iconst (pc := 4) hG d_TD_distance_4 ?_
  obtain ⟨hrx5, ha5, hb5⟩ := h
  refine pw_icmp_ne (tgt := 23) (pc := 5) hG d_TD_distance_5 (by decide) hrx5 (q_lit rfl) (fun hc5 => ?_) (fun hc5 => ?_)
  · replace h := ha5 hc5
    refine pw_aload_n (pc := 23) hG d_TD_distance_23 rfl ?_
    refine g9_12 (pc := 24) hG m_338 d_TD_distance_24 o0 ?_
    exact hR 27 _ _ _ d_TD_distance_27 h
  · replace h := hb5 hc5
    refine pw_aload_n (pc := 8) hG d_TD_distance_8 rfl ?_
    refine pw_aload_n (pc := 9) hG d_TD_distance_9 rfl ?_
    refine g9_6 (pc := 10) hG m_332 d_TD_distance_10 o0 ?_
    refine pw_aload_n (pc := 13) hG d_TD_distance_13 rfl ?_
    refine g9_1 (pc := 14) hG m_327 d_TD_distance_14 o0 ?_
    refine pw_calli (pc := 17) hG (fun l Δ => ct_ED_compute l Δ hΛ (q_rf hΛ o0 rfl (by decide)) (q_rf hΛ o0 rfl (by decide)) h) (q_rf hΛ o0 rfl (by decide)) rfl (by decide) m_687 k_ED_compute rfl ⟨by decide, by decide⟩ (Nat.le_of_ble_eq_true rfl) d_TD_distance_17 rfl (fun r17 S17 h => ?_)
    refine p9_12 (pc := 20) hG m_338 d_TD_distance_20 o0 (fun S20 eS20 => ?_)
    replace h := h S20 eS20
    refine pw_aload_n (pc := 23) hG d_TD_distance_23 rfl ?_
    refine g9_12 (pc := 24) hG m_338 d_TD_distance_24 o0 ?_
    exact hR 27 _ _ _ d_TD_distance_27 h
theorem ct_TD_distance (l : Launch) (Δ : QDl) {Λ : QLay} (hΛ : LayOk Λ) {v0 : Nat} {S : QMem} {Q : Int → QMem → Prop} (o0 : qob Λ 9 v0) (h : w_TD_distance Λ v0 S Q) : QCt l y_TD_distance c_TD_distance 1 (some .int) 3 76 Δ Λ [.ref v0] S (qI Q) :=
  QCt.mk (own := "TreeDiffer") hΛ (by decide) rfl rfl (Nat.le_of_ble_eq_true rfl) (fun G hG ri rz rv rj ra => b_TD_distance_0 hG (fun pc lv x S d hq => ri pc lv x S rfl d ⟨x, rfl, hq⟩) v0 S o0 h)
theorem k_TD_start : QVf y_TD_start c_TD_start 2 (some .int) "TreeDiffer" 0 := ⟨m_702, m_703, m_1, m_704, by decide +kernel⟩
theorem b_TD_start_0 {Λ : QLay} {G : Nat → List (Nat × Value) → List Value → QMem → Prop} {Q : Int → QMem → Prop} (hG : QAct c_TD_start "TreeDiffer" 2 { frames := 2, cells := 0, slots := 0, locals := 42 } Λ G) (hR : RtI c_TD_start G Q) (v0 : Nat) (S : QMem) (o0 : qob Λ 9 v0) (h : w_TD_start Λ v0 S Q) : G 0 [(0, .ref v0)] [] S := by
  have hΛ := hG.lay
  unfold w_TD_start at h
  refine pw_aload_n (pc := 0) hG d_TD_start_0 rfl ?_
  refine g9_13 (pc := 1) hG m_339 d_TD_start_1 o0 ?_
  refine pw_istore_n (pc := 4) hG d_TD_start_4 (by decide) (fun x4 ex4 => ⟨_, rfl, ?_⟩)
  replace h := h x4 ex4
  refine pw_aload_n (pc := 5) hG d_TD_start_5 rfl ?_
  refine pw_callv (pc := 6) hG (fun l Δ => ct_TD_rewind l Δ hΛ o0 h) o0 rfl (by decide) m_451 k_TD_rewind rfl ⟨by decide, by decide⟩ (Nat.le_of_ble_eq_true rfl) d_TD_start_6 rfl (fun S6 h => ?_)
  refine pw_iload_n (pc := 9) hG d_TD_start_9 rfl ?_
  exact hR 10 _ _ _ d_TD_start_10 h
theorem ct_TD_start (l : Launch) (Δ : QDl) {Λ : QLay} (hΛ : LayOk Λ) {v0 : Nat} {S : QMem} {Q : Int → QMem → Prop} (o0 : qob Λ 9 v0) (h : w_TD_start Λ v0 S Q) : QCt l y_TD_start c_TD_start 2 (some .int) 2 42 Δ Λ [.ref v0] S (qI Q) :=
  QCt.mk (own := "TreeDiffer") hΛ (by decide) rfl rfl (Nat.le_of_ble_eq_true rfl) (fun G hG ri rz rv rj ra => b_TD_start_0 hG (fun pc lv x S d hq => ri pc lv x S rfl d ⟨x, rfl, hq⟩) v0 S o0 h)
theorem k_TD_stepOn : QVf y_TD_stepOn c_TD_stepOn 1 (some .int) "TreeDiffer" 0 := ⟨m_706, m_707, m_1, m_708, by decide +kernel⟩
theorem b_TD_stepOn_0 {Λ : QLay} {G : Nat → List (Nat × Value) → List Value → QMem → Prop} {Q : Int → QMem → Prop} (hG : QAct c_TD_stepOn "TreeDiffer" 1 { frames := 7, cells := 0, slots := 0, locals := 161 } Λ G) (hR : RtI c_TD_stepOn G Q) (v0 : Nat) (S : QMem) (o0 : qob Λ 9 v0) (h : w_TD_stepOn Λ v0 S Q) : G 0 [(0, .ref v0)] [] S := by
  have hΛ := hG.lay
  unfold w_TD_stepOn at h
  refine pw_aload_n (pc := 0) hG d_TD_stepOn_0 rfl ?_
  refine pw_callv (pc := 1) hG (fun l Δ => ct_TD_compare l Δ hΛ o0 h) o0 rfl (by decide) m_507 k_TD_compare rfl ⟨by decide, by decide⟩ (Nat.le_of_ble_eq_true rfl) d_TD_stepOn_1 rfl (fun S1 h => ?_)
  refine pw_aload_n (pc := 4) hG d_TD_stepOn_4 rfl ?_
  refine g9_13 (pc := 5) hG m_339 d_TD_stepOn_5 o0 ?_
  obtain ⟨hrx8, ha8, hb8⟩ := h
  refine pw_if_lt (tgt := 25) (pc := 8) hG d_TD_stepOn_8 (by decide) hrx8 (fun hc8 => ?_) (fun hc8 => ?_)
  · replace h := ha8 hc8
    refine pw_bipush (pc := 25) hG d_TD_stepOn_25 (by decide) ?_
    exact hR 27 _ _ _ d_TD_stepOn_27 h
  · replace h := hb8 hc8
    refine pw_aload_n (pc := 11) hG d_TD_stepOn_11 rfl ?_
    refine g9_13 (pc := 12) hG m_339 d_TD_stepOn_12 o0 ?_
    refine pw_aload_n (pc := 15) hG d_TD_stepOn_15 rfl ?_
    refine g9_5 (pc := 16) hG m_331 d_TD_stepOn_16 o0 ?_
    refine g3_1 (pc := 19) hG m_269 d_TD_stepOn_19 (q_rf hΛ o0 rfl (by decide)) ?_
    obtain ⟨hrx22, hry22, ha22, hb22⟩ := h
    refine pw_icmp_lt (tgt := 28) (pc := 22) hG d_TD_stepOn_22 (by decide) hrx22 hry22 (fun hc22 => ?_) (fun hc22 => ?_)
    · replace h := ha22 hc22
      refine pw_aload_n (pc := 28) hG d_TD_stepOn_28 rfl ?_
      refine g9_7 (pc := 29) hG m_333 d_TD_stepOn_29 o0 ?_
      refine pw_aload_n (pc := 32) hG d_TD_stepOn_32 rfl ?_
      refine g9_5 (pc := 33) hG m_331 d_TD_stepOn_33 o0 ?_
      refine g3_0 (pc := 36) hG m_267 d_TD_stepOn_36 (q_rf hΛ o0 rfl (by decide)) ?_
      refine pw_aload_n (pc := 39) hG d_TD_stepOn_39 rfl ?_
      refine g9_13 (pc := 40) hG m_339 d_TD_stepOn_40 o0 ?_
      obtain ⟨hi43, h⟩ := h
      refine pw_aO (pc := 43) hG (q_arr hΛ (q_rf hΛ o0 rfl (by decide)) rfl (by decide)) (Or.inr rfl) hi43 d_TD_stepOn_43 ?_
      refine pw_callv (pc := 44) hG (fun l Δ => ct_Wt_carryOut l Δ hΛ (q_rf hΛ o0 rfl (by decide)) (q_rf hΛ (q_rf hΛ o0 rfl (by decide)) rfl hi43) h) (q_rf hΛ o0 rfl (by decide)) rfl (by decide) m_709 k_Wt_carryOut rfl ⟨by decide, by decide⟩ (Nat.le_of_ble_eq_true rfl) d_TD_stepOn_44 rfl (fun S44 h => ?_)
      refine pw_aload_n (pc := 47) hG d_TD_stepOn_47 rfl ?_
      refine pw_dup (pc := 48) hG d_TD_stepOn_48 rfl ?_
      refine g9_13 (pc := 49) hG m_339 d_TD_stepOn_49 o0 ?_
      refine pw_iconst (pc := 52) hG d_TD_stepOn_52 ?_
      refine pw_iadd (pc := 53) hG d_TD_stepOn_53 ?_
      refine p9_13 (pc := 54) hG m_339 d_TD_stepOn_54 o0 (fun S54 eS54 => ?_)
      replace h := h S54 eS54
      refine pw_aload_n (pc := 57) hG d_TD_stepOn_57 rfl ?_
      refine g9_13 (pc := 58) hG m_339 d_TD_stepOn_58 o0 ?_
      exact hR 61 _ _ _ d_TD_stepOn_61 h
    · replace h := hb22 hc22
      refine pw_bipush (pc := 25) hG d_TD_stepOn_25 (by decide) ?_
      exact hR 27 _ _ _ d_TD_stepOn_27 h
theorem ct_TD_stepOn (l : Launch) (Δ : QDl) {Λ : QLay} (hΛ : LayOk Λ) {v0 : Nat} {S : QMem} {Q : Int → QMem → Prop} (o0 : qob Λ 9 v0) (h : w_TD_stepOn Λ v0 S Q) : QCt l y_TD_stepOn c_TD_stepOn 1 (some .int) 7 161 Δ Λ [.ref v0] S (qI Q) :=
  QCt.mk (own := "TreeDiffer") hΛ (by decide) rfl rfl (Nat.le_of_ble_eq_true rfl) (fun G hG ri rz rv rj ra => b_TD_stepOn_0 hG (fun pc lv x S d hq => ri pc lv x S rfl d ⟨x, rfl, hq⟩) v0 S o0 h)
theorem k_TD_stepBack : QVf y_TD_stepBack c_TD_stepBack 1 (some .int) "TreeDiffer" 0 := ⟨m_711, m_712, m_1, m_713, by decide +kernel⟩
theorem b_TD_stepBack_0 {Λ : QLay} {G : Nat → List (Nat × Value) → List Value → QMem → Prop} {Q : Int → QMem → Prop} (hG : QAct c_TD_stepBack "TreeDiffer" 1 { frames := 7, cells := 0, slots := 0, locals := 161 } Λ G) (hR : RtI c_TD_stepBack G Q) (v0 : Nat) (S : QMem) (o0 : qob Λ 9 v0) (h : w_TD_stepBack Λ v0 S Q) : G 0 [(0, .ref v0)] [] S := by
  have hΛ := hG.lay
  unfold w_TD_stepBack at h
  refine pw_aload_n (pc := 0) hG d_TD_stepBack_0 rfl ?_
  refine pw_callv (pc := 1) hG (fun l Δ => ct_TD_compare l Δ hΛ o0 h) o0 rfl (by decide) m_507 k_TD_compare rfl ⟨by decide, by decide⟩ (Nat.le_of_ble_eq_true rfl) d_TD_stepBack_1 rfl (fun S1 h => ?_)
  refine pw_aload_n (pc := 4) hG d_TD_stepBack_4 rfl ?_
  refine g9_13 (pc := 5) hG m_339 d_TD_stepBack_5 o0 ?_
  refine pw_iconst (pc := 8) hG d_TD_stepBack_8 ?_
  obtain ⟨hrx9, ha9, hb9⟩ := h
  refine pw_icmp_lt (tgt := 26) (pc := 9) hG d_TD_stepBack_9 (by decide) hrx9 (q_lit rfl) (fun hc9 => ?_) (fun hc9 => ?_)
  · replace h := ha9 hc9
    refine pw_bipush (pc := 26) hG d_TD_stepBack_26 (by decide) ?_
    exact hR 28 _ _ _ d_TD_stepBack_28 h
  · replace h := hb9 hc9
    refine pw_aload_n (pc := 12) hG d_TD_stepBack_12 rfl ?_
    refine g9_13 (pc := 13) hG m_339 d_TD_stepBack_13 o0 ?_
    refine pw_aload_n (pc := 16) hG d_TD_stepBack_16 rfl ?_
    refine g9_5 (pc := 17) hG m_331 d_TD_stepBack_17 o0 ?_
    refine g3_1 (pc := 20) hG m_269 d_TD_stepBack_20 (q_rf hΛ o0 rfl (by decide)) ?_
    obtain ⟨hrx23, hry23, ha23, hb23⟩ := h
    refine pw_icmp_le (tgt := 29) (pc := 23) hG d_TD_stepBack_23 (by decide) hrx23 hry23 (fun hc23 => ?_) (fun hc23 => ?_)
    · replace h := ha23 hc23
      refine pw_aload_n (pc := 29) hG d_TD_stepBack_29 rfl ?_
      refine pw_dup (pc := 30) hG d_TD_stepBack_30 rfl ?_
      refine g9_13 (pc := 31) hG m_339 d_TD_stepBack_31 o0 ?_
      refine pw_iconst (pc := 34) hG d_TD_stepBack_34 ?_
      refine pw_isub (pc := 35) hG d_TD_stepBack_35 ?_
      refine p9_13 (pc := 36) hG m_339 d_TD_stepBack_36 o0 (fun S36 eS36 => ?_)
      replace h := h S36 eS36
      refine pw_aload_n (pc := 39) hG d_TD_stepBack_39 rfl ?_
      refine g9_7 (pc := 40) hG m_333 d_TD_stepBack_40 o0 ?_
      refine pw_aload_n (pc := 43) hG d_TD_stepBack_43 rfl ?_
      refine g9_5 (pc := 44) hG m_331 d_TD_stepBack_44 o0 ?_
      refine g3_0 (pc := 47) hG m_267 d_TD_stepBack_47 (q_rf hΛ o0 rfl (by decide)) ?_
      refine pw_aload_n (pc := 50) hG d_TD_stepBack_50 rfl ?_
      refine g9_13 (pc := 51) hG m_339 d_TD_stepBack_51 o0 ?_
      obtain ⟨hi54, h⟩ := h
      refine pw_aO (pc := 54) hG (q_arr hΛ (q_rf hΛ o0 rfl (by decide)) rfl (by decide)) (Or.inr rfl) hi54 d_TD_stepBack_54 ?_
      refine pw_callv (pc := 55) hG (fun l Δ => ct_Wt_takeBack l Δ hΛ (q_rf hΛ o0 rfl (by decide)) (q_rf hΛ (q_rf hΛ o0 rfl (by decide)) rfl hi54) h) (q_rf hΛ o0 rfl (by decide)) rfl (by decide) m_714 k_Wt_takeBack rfl ⟨by decide, by decide⟩ (Nat.le_of_ble_eq_true rfl) d_TD_stepBack_55 rfl (fun S55 h => ?_)
      refine pw_aload_n (pc := 58) hG d_TD_stepBack_58 rfl ?_
      refine g9_13 (pc := 59) hG m_339 d_TD_stepBack_59 o0 ?_
      exact hR 62 _ _ _ d_TD_stepBack_62 h
    · replace h := hb23 hc23
      refine pw_bipush (pc := 26) hG d_TD_stepBack_26 (by decide) ?_
      exact hR 28 _ _ _ d_TD_stepBack_28 h
theorem ct_TD_stepBack (l : Launch) (Δ : QDl) {Λ : QLay} (hΛ : LayOk Λ) {v0 : Nat} {S : QMem} {Q : Int → QMem → Prop} (o0 : qob Λ 9 v0) (h : w_TD_stepBack Λ v0 S Q) : QCt l y_TD_stepBack c_TD_stepBack 1 (some .int) 7 161 Δ Λ [.ref v0] S (qI Q) :=
  QCt.mk (own := "TreeDiffer") hΛ (by decide) rfl rfl (Nat.le_of_ble_eq_true rfl) (fun G hG ri rz rv rj ra => b_TD_stepBack_0 hG (fun pc lv x S d hq => ri pc lv x S rfl d ⟨x, rfl, hq⟩) v0 S o0 h)
theorem k_TD_roomOf : QSf y_TD_roomOf c_TD_roomOf 1 (some .int) "TreeDiffer" 1 := ⟨m_723, m_1, m_724, by decide +kernel⟩
theorem b_TD_roomOf_12 {Λ : QLay} {G : Nat → List (Nat × Value) → List Value → QMem → Prop} {Q : Int → QMem → Prop} (hG : QAct c_TD_roomOf "TreeDiffer" 1 { frames := 1, cells := 0, slots := 0, locals := 20 } Λ G) (hR : RtI c_TD_roomOf G Q) (v0 : Int) (S : QMem) (h : w_TD_roomOf_12 Λ Q v0 S) : G 12 [(0, vI v0)] [] S := by
  have hΛ := hG.lay
  unfold w_TD_roomOf_12 at h
  refine pw_iload_n (pc := 12) hG d_TD_roomOf_12 rfl ?_
  refine pw_bipush (pc := 13) hG d_TD_roomOf_13 (by decide) ?_
  obtain ⟨hrx15, ha15, hb15⟩ := h
  refine pw_icmp_lt (tgt := 32) (pc := 15) hG d_TD_roomOf_15 (by decide) hrx15 (q_lit rfl) (fun hc15 => ?_) (fun hc15 => ?_)
  · replace h := ha15 hc15
    refine pw_iconst (pc := 32) hG d_TD_roomOf_32 ?_
    exact hR 33 _ _ _ d_TD_roomOf_33 h
  · replace h := hb15 hc15
    refine pw_iload_n (pc := 18) hG d_TD_roomOf_18 rfl ?_
    refine pw_bipush (pc := 19) hG d_TD_roomOf_19 (by decide) ?_
    obtain ⟨hrx21, ha21, hb21⟩ := h
    refine pw_icmp_ge (tgt := 32) (pc := 21) hG d_TD_roomOf_21 (by decide) hrx21 (q_lit rfl) (fun hc21 => ?_) (fun hc21 => ?_)
    · replace h := ha21 hc21
      refine pw_iconst (pc := 32) hG d_TD_roomOf_32 ?_
      exact hR 33 _ _ _ d_TD_roomOf_33 h
    · replace h := hb21 hc21
      refine pw_iload_n (pc := 24) hG d_TD_roomOf_24 rfl ?_
      refine pw_bipush (pc := 25) hG d_TD_roomOf_25 (by decide) ?_
      refine pw_isub (pc := 27) hG d_TD_roomOf_27 ?_
      refine pw_scalli (pc := 28) hG (fun l Δ => ct_TD_roomOfInserted l Δ hΛ  h) m_725 k_TD_roomOfInserted rfl ⟨by decide, by decide⟩ (Nat.le_of_ble_eq_true rfl) d_TD_roomOf_28 rfl (fun r28 S28 h => ?_)
      exact hR 31 _ _ _ d_TD_roomOf_31 h
theorem b_TD_roomOf_0 {Λ : QLay} {G : Nat → List (Nat × Value) → List Value → QMem → Prop} {Q : Int → QMem → Prop} (hG : QAct c_TD_roomOf "TreeDiffer" 1 { frames := 1, cells := 0, slots := 0, locals := 20 } Λ G) (hR : RtI c_TD_roomOf G Q) (v0 : Int) (S : QMem) (h : w_TD_roomOf Λ v0 S Q) : G 0 [(0, vI v0)] [] S := by
  have hΛ := hG.lay
  unfold w_TD_roomOf at h
  refine pw_iload_n (pc := 0) hG d_TD_roomOf_0 rfl ?_
  obtain ⟨hrx1, ha1, hb1⟩ := h
  refine pw_if_lt (tgt := 12) (pc := 1) hG d_TD_roomOf_1 (by decide) hrx1 (fun hc1 => ?_) (fun hc1 => ?_)
  · replace h := ha1 hc1
    exact pw_sub hG [0] rfl (b_TD_roomOf_12 hG hR v0 S  h)
  · replace h := hb1 hc1
    refine pw_iload_n (pc := 4) hG d_TD_roomOf_4 rfl ?_
    refine pw_bipush (pc := 5) hG d_TD_roomOf_5 (by decide) ?_
    obtain ⟨hrx7, ha7, hb7⟩ := h
    refine pw_icmp_ge (tgt := 12) (pc := 7) hG d_TD_roomOf_7 (by decide) hrx7 (q_lit rfl) (fun hc7 => ?_) (fun hc7 => ?_)
    · replace h := ha7 hc7
      exact pw_sub hG [0] rfl (b_TD_roomOf_12 hG hR v0 S  h)
    · replace h := hb7 hc7
      refine pw_iload_n (pc := 10) hG d_TD_roomOf_10 rfl ?_
      exact hR 11 _ _ _ d_TD_roomOf_11 h
theorem ct_TD_roomOf (l : Launch) (Δ : QDl) {Λ : QLay} (hΛ : LayOk Λ) {v0 : Int} {S : QMem} {Q : Int → QMem → Prop} (h : w_TD_roomOf Λ v0 S Q) : QCt l y_TD_roomOf c_TD_roomOf 1 (some .int) 1 20 Δ Λ [vI v0] S (qI Q) :=
  QCt.mk (own := "TreeDiffer") hΛ (by decide) rfl rfl (Nat.le_of_ble_eq_true rfl) (fun G hG ri rz rv rj ra => b_TD_roomOf_0 hG (fun pc lv x S d hq => ri pc lv x S rfl d ⟨x, rfl, hq⟩) v0 S  h)
theorem k_TD_workingChild : QVf y_TD_workingChild c_TD_workingChild 5 (some .int) "TreeDiffer" 2 := ⟨m_719, m_720, m_1, m_721, by decide +kernel⟩
theorem b_TD_workingChild_35 {Λ : QLay} {G : Nat → List (Nat × Value) → List Value → QMem → Prop} {Q : Int → QMem → Prop} (hG : QAct c_TD_workingChild "TreeDiffer" 5 { frames := 2, cells := 0, slots := 0, locals := 40 } Λ G) (hR : RtI c_TD_workingChild G Q) (v0 : Nat) (v2 : Int) (v3 : Int) (S : QMem) (o_v0 : qob Λ 9 v0) (h : w_TD_workingChild_35 Λ Q v0 v2 v3 S) : G 35 [(0, .ref v0), (2, vI v2), (3, vI v3)] [] S := by
  have hΛ := hG.lay
  unfold w_TD_workingChild_35 at h
  refine pw_aload_n (pc := 35) hG d_TD_workingChild_35 rfl ?_
  refine g9_7 (pc := 36) hG m_333 d_TD_workingChild_36 o_v0 ?_
  refine pw_iload_n (pc := 39) hG d_TD_workingChild_39 rfl ?_
  refine pw_iload_n (pc := 40) hG d_TD_workingChild_40 rfl ?_
  refine pw_calli (pc := 41) hG (fun l Δ => ct_Wt_childAt l Δ hΛ (q_rf hΛ o_v0 rfl (by decide)) h) (q_rf hΛ o_v0 rfl (by decide)) rfl (by decide) m_727 k_Wt_childAt rfl ⟨by decide, by decide⟩ (Nat.le_of_ble_eq_true rfl) d_TD_workingChild_41 rfl (fun r41 S41 h => ?_)
  refine pw_ist (pc := 44) hG d_TD_workingChild_44 (by decide) rfl ?_
  refine pw_iload (pc := 46) hG d_TD_workingChild_46 rfl ?_
  refine pw_iconst (pc := 48) hG d_TD_workingChild_48 ?_
  obtain ⟨hrx49, ha49, hb49⟩ := h
  refine pw_icmp_ne (tgt := 57) (pc := 49) hG d_TD_workingChild_49 (by decide) hrx49 (q_lit rfl) (fun hc49 => ?_) (fun hc49 => ?_)
  · replace h := ha49 hc49
    refine pw_iload (pc := 57) hG d_TD_workingChild_57 rfl ?_
    refine pw_scalli (pc := 59) hG (fun l Δ => ct_TD_numberOf l Δ hΛ  h) m_731 k_TD_numberOf rfl ⟨by decide, by decide⟩ (Nat.le_of_ble_eq_true rfl) d_TD_workingChild_59 rfl (fun r59 S59 h => ?_)
    exact hR 62 _ _ _ d_TD_workingChild_62 h
  · replace h := hb49 hc49
    refine pw_bipush (pc := 52) hG d_TD_workingChild_52 (by decide) ?_
    refine pw_goto (tgt := 62) (pc := 54) hG d_TD_workingChild_54 (by decide) ?_
    exact hR 62 _ _ _ d_TD_workingChild_62 h
theorem b_TD_workingChild_14 {Λ : QLay} {G : Nat → List (Nat × Value) → List Value → QMem → Prop} {Q : Int → QMem → Prop} (hG : QAct c_TD_workingChild "TreeDiffer" 5 { frames := 2, cells := 0, slots := 0, locals := 40 } Λ G) (hR : RtI c_TD_workingChild G Q) (v0 : Nat) (v2 : Int) (s0 : Int) (S : QMem) (o_v0 : qob Λ 9 v0) (h : w_TD_workingChild_14 Λ Q v0 v2 s0 S) : G 14 [(0, .ref v0), (2, vI v2)] [vI s0] S := by
  have hΛ := hG.lay
  unfold w_TD_workingChild_14 at h
  refine pw_ist_n (pc := 14) hG d_TD_workingChild_14 (by decide) rfl ?_
  refine pw_iload_n (pc := 15) hG d_TD_workingChild_15 rfl ?_
  refine pw_bipush (pc := 16) hG d_TD_workingChild_16 (by decide) ?_
  obtain ⟨hrx18, ha18, hb18⟩ := h
  refine pw_icmp_eq (tgt := 35) (pc := 18) hG d_TD_workingChild_18 (by decide) hrx18 (q_lit rfl) (fun hc18 => ?_) (fun hc18 => ?_)
  · replace h := ha18 hc18
    exact pw_sub hG [0, 2, 3] rfl (b_TD_workingChild_35 hG hR v0 v2 s0 S o_v0 h)
  · replace h := hb18 hc18
    refine pw_aload_n (pc := 21) hG d_TD_workingChild_21 rfl ?_
    refine g9_7 (pc := 22) hG m_333 d_TD_workingChild_22 o_v0 ?_
    refine pw_iload_n (pc := 25) hG d_TD_workingChild_25 rfl ?_
    refine pw_calli (pc := 26) hG (fun l Δ => ct_Wt_has l Δ hΛ (q_rf hΛ o_v0 rfl (by decide)) h) (q_rf hΛ o_v0 rfl (by decide)) rfl (by decide) m_726 k_Wt_has rfl ⟨by decide, by decide⟩ (Nat.le_of_ble_eq_true rfl) d_TD_workingChild_26 rfl (fun r26 S26 h => ?_)
    obtain ⟨hrx29, ha29, hb29⟩ := h
    refine pw_if_ne (tgt := 35) (pc := 29) hG d_TD_workingChild_29 (by decide) hrx29 (fun hc29 => ?_) (fun hc29 => ?_)
    · replace h := ha29 hc29
      exact pw_sub hG [0, 2, 3] rfl (b_TD_workingChild_35 hG hR v0 v2 s0 S26 o_v0 h)
    · replace h := hb29 hc29
      refine pw_bipush (pc := 32) hG d_TD_workingChild_32 (by decide) ?_
      exact hR 34 _ _ _ d_TD_workingChild_34 h
theorem b_TD_workingChild_0 {Λ : QLay} {G : Nat → List (Nat × Value) → List Value → QMem → Prop} {Q : Int → QMem → Prop} (hG : QAct c_TD_workingChild "TreeDiffer" 5 { frames := 2, cells := 0, slots := 0, locals := 40 } Λ G) (hR : RtI c_TD_workingChild G Q) (v0 : Nat) (v1 : Int) (v2 : Int) (S : QMem) (o0 : qob Λ 9 v0) (h : w_TD_workingChild Λ v0 v1 v2 S Q) : G 0 [(0, .ref v0), (1, vI v1), (2, vI v2)] [] S := by
  have hΛ := hG.lay
  unfold w_TD_workingChild at h
  refine pw_iload_n (pc := 0) hG d_TD_workingChild_0 rfl ?_
  refine pw_iconst (pc := 1) hG d_TD_workingChild_1 ?_
  obtain ⟨hrx2, ha2, hb2⟩ := h
  refine pw_icmp_ne (tgt := 10) (pc := 2) hG d_TD_workingChild_2 (by decide) hrx2 (q_lit rfl) (fun hc2 => ?_) (fun hc2 => ?_)
  · replace h := ha2 hc2
    refine pw_iload_n (pc := 10) hG d_TD_workingChild_10 rfl ?_
    refine pw_scalli (pc := 11) hG (fun l Δ => ct_TD_roomOf l Δ hΛ  h) m_722 k_TD_roomOf rfl ⟨by decide, by decide⟩ (Nat.le_of_ble_eq_true rfl) d_TD_workingChild_11 rfl (fun r11 S11 h => ?_)
    exact pw_sub hG [0, 2] rfl (b_TD_workingChild_14 hG hR v0 v2 r11 S11 o0 h)
  · replace h := hb2 hc2
    refine pw_bipush (pc := 5) hG d_TD_workingChild_5 (by decide) ?_
    refine pw_goto (tgt := 14) (pc := 7) hG d_TD_workingChild_7 (by decide) ?_
    exact pw_sub hG [0, 2] rfl (b_TD_workingChild_14 hG hR v0 v2 48 S o0 h)
theorem ct_TD_workingChild (l : Launch) (Δ : QDl) {Λ : QLay} (hΛ : LayOk Λ) {v0 : Nat} {v1 : Int} {v2 : Int} {S : QMem} {Q : Int → QMem → Prop} (o0 : qob Λ 9 v0) (h : w_TD_workingChild Λ v0 v1 v2 S Q) : QCt l y_TD_workingChild c_TD_workingChild 5 (some .int) 2 40 Δ Λ [.ref v0, vI v1, vI v2] S (qI Q) :=
  QCt.mk (own := "TreeDiffer") hΛ (by decide) rfl rfl (Nat.le_of_ble_eq_true rfl) (fun G hG ri rz rv rj ra => b_TD_workingChild_0 hG (fun pc lv x S d hq => ri pc lv x S rfl d ⟨x, rfl, hq⟩) v0 v1 v2 S o0 h)
theorem k_TD_workingNode : QVf y_TD_workingNode c_TD_workingNode 4 (some .int) "TreeDiffer" 2 := ⟨m_733, m_734, m_1, m_735, by decide +kernel⟩
theorem b_TD_workingNode_0 {Λ : QLay} {G : Nat → List (Nat × Value) → List Value → QMem → Prop} {Q : Int → QMem → Prop} (hG : QAct c_TD_workingNode "TreeDiffer" 4 { frames := 2, cells := 0, slots := 0, locals := 40 } Λ G) (hR : RtI c_TD_workingNode G Q) (v0 : Nat) (v1 : Int) (v2 : Int) (S : QMem) (o0 : qob Λ 9 v0) (h : w_TD_workingNode Λ v0 v1 v2 S Q) : G 0 [(0, .ref v0), (1, vI v1), (2, vI v2)] [] S := by
  have hΛ := hG.lay
  unfold w_TD_workingNode at h
  refine pw_iload_n (pc := 0) hG d_TD_workingNode_0 rfl ?_
  refine pw_scalli (pc := 1) hG (fun l Δ => ct_TD_roomOf l Δ hΛ  h) m_722 k_TD_roomOf rfl ⟨by decide, by decide⟩ (Nat.le_of_ble_eq_true rfl) d_TD_workingNode_1 rfl (fun r1 S1 h => ?_)
  refine pw_ist_n (pc := 4) hG d_TD_workingNode_4 (by decide) rfl ?_
  refine pw_aload_n (pc := 5) hG d_TD_workingNode_5 rfl ?_
  refine g9_7 (pc := 6) hG m_333 d_TD_workingNode_6 o0 ?_
  refine pw_iload_n (pc := 9) hG d_TD_workingNode_9 rfl ?_
  refine pw_calli (pc := 10) hG (fun l Δ => ct_Wt_has l Δ hΛ (q_rf hΛ o0 rfl (by decide)) h) (q_rf hΛ o0 rfl (by decide)) rfl (by decide) m_726 k_Wt_has rfl ⟨by decide, by decide⟩ (Nat.le_of_ble_eq_true rfl) d_TD_workingNode_10 rfl (fun r10 S10 h => ?_)
  obtain ⟨hrx13, ha13, hb13⟩ := h
  refine pw_if_ne (tgt := 19) (pc := 13) hG d_TD_workingNode_13 (by decide) hrx13 (fun hc13 => ?_) (fun hc13 => ?_)
  · replace h := ha13 hc13
    refine pw_iload_n (pc := 19) hG d_TD_workingNode_19 rfl ?_
    obtain ⟨hr20, hz20_0, hz20_1, hz20_2, hzd20⟩ := h
    by_cases hc20_0 : v2 = 0
    · refine pw_table (tgt := 48) (pc := 20) hG d_TD_workingNode_20 hr20 (by omega) (by omega) (off := 28) (by rw [hc20_0]; rfl) (by decide) ?_
      replace h := hz20_0 hc20_0
      refine pw_aload_n (pc := 48) hG d_TD_workingNode_48 rfl ?_
      refine g9_7 (pc := 49) hG m_333 d_TD_workingNode_49 o0 ?_
      refine g8_0 (pc := 52) hG m_196 d_TD_workingNode_52 (q_rf hΛ o0 rfl (by decide)) ?_
      refine pw_iload_n (pc := 55) hG d_TD_workingNode_55 rfl ?_
      obtain ⟨hi56, h⟩ := h
      refine pw_aI (pc := 56) hG (q_arr hΛ (q_rf hΛ o0 rfl (by decide)) rfl (by decide)) hi56 d_TD_workingNode_56 ?_
      exact hR 57 _ _ _ d_TD_workingNode_57 h
    by_cases hc20_1 : v2 = 1
    · refine pw_table (tgt := 58) (pc := 20) hG d_TD_workingNode_20 hr20 (by omega) (by omega) (off := 38) (by rw [hc20_1]; rfl) (by decide) ?_
      replace h := hz20_1 hc20_1
      refine pw_aload_n (pc := 58) hG d_TD_workingNode_58 rfl ?_
      refine g9_7 (pc := 59) hG m_333 d_TD_workingNode_59 o0 ?_
      refine g8_1 (pc := 62) hG m_200 d_TD_workingNode_62 (q_rf hΛ o0 rfl (by decide)) ?_
      refine pw_iload_n (pc := 65) hG d_TD_workingNode_65 rfl ?_
      obtain ⟨hi66, h⟩ := h
      refine pw_aI (pc := 66) hG (q_arr hΛ (q_rf hΛ o0 rfl (by decide)) rfl (by decide)) hi66 d_TD_workingNode_66 ?_
      exact hR 67 _ _ _ d_TD_workingNode_67 h
    by_cases hc20_2 : v2 = 2
    · refine pw_table (tgt := 68) (pc := 20) hG d_TD_workingNode_20 hr20 (by omega) (by omega) (off := 48) (by rw [hc20_2]; rfl) (by decide) ?_
      replace h := hz20_2 hc20_2
      refine pw_aload_n (pc := 68) hG d_TD_workingNode_68 rfl ?_
      refine g9_7 (pc := 69) hG m_333 d_TD_workingNode_69 o0 ?_
      refine g8_2 (pc := 72) hG m_204 d_TD_workingNode_72 (q_rf hΛ o0 rfl (by decide)) ?_
      refine pw_iload_n (pc := 75) hG d_TD_workingNode_75 rfl ?_
      obtain ⟨hi76, h⟩ := h
      refine pw_aI (pc := 76) hG (q_arr hΛ (q_rf hΛ o0 rfl (by decide)) rfl (by decide)) hi76 d_TD_workingNode_76 ?_
      refine pw_scalli (pc := 77) hG (fun l Δ => ct_TD_numberOf l Δ hΛ  h) m_731 k_TD_numberOf rfl ⟨by decide, by decide⟩ (Nat.le_of_ble_eq_true rfl) d_TD_workingNode_77 rfl (fun r77 S77 h => ?_)
      exact hR 80 _ _ _ d_TD_workingNode_80 h
    have hcd20 : v2 < 0 ∨ 2 < v2 := by omega
    refine pw_tableD (tgt := 81) (pc := 20) hG d_TD_workingNode_20 hr20 hcd20 (by decide) ?_
    replace h := hzd20 hcd20
    refine pw_bipush (pc := 81) hG d_TD_workingNode_81 (by decide) ?_
    exact hR 83 _ _ _ d_TD_workingNode_83 h
  · replace h := hb13 hc13
    refine pw_bipush (pc := 16) hG d_TD_workingNode_16 (by decide) ?_
    exact hR 18 _ _ _ d_TD_workingNode_18 h
theorem ct_TD_workingNode (l : Launch) (Δ : QDl) {Λ : QLay} (hΛ : LayOk Λ) {v0 : Nat} {v1 : Int} {v2 : Int} {S : QMem} {Q : Int → QMem → Prop} (o0 : qob Λ 9 v0) (h : w_TD_workingNode Λ v0 v1 v2 S Q) : QCt l y_TD_workingNode c_TD_workingNode 4 (some .int) 2 40 Δ Λ [.ref v0, vI v1, vI v2] S (qI Q) :=
  QCt.mk (own := "TreeDiffer") hΛ (by decide) rfl rfl (Nat.le_of_ble_eq_true rfl) (fun G hG ri rz rv rj ra => b_TD_workingNode_0 hG (fun pc lv x S d hq => ri pc lv x S rfl d ⟨x, rfl, hq⟩) v0 v1 v2 S o0 h)
theorem k_TD_print : QVf y_TD_print c_TD_print 2 (some .int) "TreeDiffer" 1 := ⟨m_737, m_738, m_1, m_739, by decide +kernel⟩
theorem b_TD_print_0 {Λ : QLay} {G : Nat → List (Nat × Value) → List Value → QMem → Prop} {Q : Int → QMem → Prop} (hG : QAct c_TD_print "TreeDiffer" 2 { frames := 3, cells := 0, slots := 0, locals := 72 } Λ G) (hR : RtI c_TD_print G Q) (v0 : Nat) (v1 : Int) (S : QMem) (o0 : qob Λ 9 v0) (h : w_TD_print Λ v0 v1 S Q) : G 0 [(0, .ref v0), (1, vI v1)] [] S := by
  have hΛ := hG.lay
  unfold w_TD_print at h
  refine pw_iload_n (pc := 0) hG d_TD_print_0 rfl ?_
  refine pw_iconst (pc := 1) hG d_TD_print_1 ?_
  obtain ⟨hrx2, ha2, hb2⟩ := h
  refine pw_icmp_ne (tgt := 24) (pc := 2) hG d_TD_print_2 (by decide) hrx2 (q_lit rfl) (fun hc2 => ?_) (fun hc2 => ?_)
  · replace h := ha2 hc2
    refine pw_iload_n (pc := 24) hG d_TD_print_24 rfl ?_
    refine pw_scalli (pc := 25) hG (fun l Δ => ct_TD_isTree l Δ hΛ  h) m_425 k_TD_isTree rfl ⟨by decide, by decide⟩ (Nat.le_of_ble_eq_true rfl) d_TD_print_25 rfl (fun r25 S25 h => ?_)
    obtain ⟨hrx28, ha28, hb28⟩ := h
    refine pw_if_ne (tgt := 34) (pc := 28) hG d_TD_print_28 (by decide) hrx28 (fun hc28 => ?_) (fun hc28 => ?_)
    · replace h := ha28 hc28
      refine pw_aload_n (pc := 34) hG d_TD_print_34 rfl ?_
      refine g9_8 (pc := 35) hG m_334 d_TD_print_35 o0 ?_
      refine pw_aload_n (pc := 38) hG d_TD_print_38 rfl ?_
      refine g9_1 (pc := 39) hG m_327 d_TD_print_39 o0 ?_
      refine pw_iload_n (pc := 42) hG d_TD_print_42 rfl ?_
      refine pw_callr (pc := 43) hG (fun l Δ => ct_Se_treeOf l Δ hΛ (q_rf hΛ o0 rfl (by decide)) h) (q_rf hΛ o0 rfl (by decide)) rfl (by decide) m_428 k_Se_treeOf rfl ⟨by decide, by decide⟩ (Nat.le_of_ble_eq_true rfl) d_TD_print_43 rfl (fun r43 or43 S43 h => ?_)
      refine pw_callv (pc := 46) hG (fun l Δ => ct_Wt_load l Δ hΛ (q_rf hΛ o0 rfl (by decide)) or43 h) (q_rf hΛ o0 rfl (by decide)) rfl (by decide) m_322 k_Wt_load rfl ⟨by decide, by decide⟩ (Nat.le_of_ble_eq_true rfl) d_TD_print_46 rfl (fun S46 h => ?_)
      refine pw_aload_n (pc := 49) hG d_TD_print_49 rfl ?_
      refine g9_9 (pc := 50) hG m_335 d_TD_print_50 o0 ?_
      refine pw_aload_n (pc := 53) hG d_TD_print_53 rfl ?_
      refine g9_8 (pc := 54) hG m_334 d_TD_print_54 o0 ?_
      refine pw_callv (pc := 57) hG (fun l Δ => ct_Ou_write l Δ hΛ (q_rf hΛ o0 rfl (by decide)) (q_rf hΛ o0 rfl (by decide)) h) (q_rf hΛ o0 rfl (by decide)) rfl (by decide) m_740 k_Ou_write rfl ⟨by decide, by decide⟩ (Nat.le_of_ble_eq_true rfl) d_TD_print_57 rfl (fun S57 h => ?_)
      refine pw_aload_n (pc := 60) hG d_TD_print_60 rfl ?_
      refine g9_9 (pc := 61) hG m_335 d_TD_print_61 o0 ?_
      refine g2_1 (pc := 64) hG m_316 d_TD_print_64 (q_rf hΛ o0 rfl (by decide)) ?_
      exact hR 67 _ _ _ d_TD_print_67 h
    · replace h := hb28 hc28
      refine pw_bipush (pc := 31) hG d_TD_print_31 (by decide) ?_
      exact hR 33 _ _ _ d_TD_print_33 h
  · replace h := hb2 hc2
    refine pw_aload_n (pc := 5) hG d_TD_print_5 rfl ?_
    refine g9_9 (pc := 6) hG m_335 d_TD_print_6 o0 ?_
    refine pw_aload_n (pc := 9) hG d_TD_print_9 rfl ?_
    refine g9_7 (pc := 10) hG m_333 d_TD_print_10 o0 ?_
    refine pw_callv (pc := 13) hG (fun l Δ => ct_Ou_write l Δ hΛ (q_rf hΛ o0 rfl (by decide)) (q_rf hΛ o0 rfl (by decide)) h) (q_rf hΛ o0 rfl (by decide)) rfl (by decide) m_740 k_Ou_write rfl ⟨by decide, by decide⟩ (Nat.le_of_ble_eq_true rfl) d_TD_print_13 rfl (fun S13 h => ?_)
    refine pw_aload_n (pc := 16) hG d_TD_print_16 rfl ?_
    refine g9_9 (pc := 17) hG m_335 d_TD_print_17 o0 ?_
    refine g2_1 (pc := 20) hG m_316 d_TD_print_20 (q_rf hΛ o0 rfl (by decide)) ?_
    exact hR 23 _ _ _ d_TD_print_23 h
theorem ct_TD_print (l : Launch) (Δ : QDl) {Λ : QLay} (hΛ : LayOk Λ) {v0 : Nat} {v1 : Int} {S : QMem} {Q : Int → QMem → Prop} (o0 : qob Λ 9 v0) (h : w_TD_print Λ v0 v1 S Q) : QCt l y_TD_print c_TD_print 2 (some .int) 3 72 Δ Λ [.ref v0, vI v1] S (qI Q) :=
  QCt.mk (own := "TreeDiffer") hΛ (by decide) rfl rfl (Nat.le_of_ble_eq_true rfl) (fun G hG ri rz rv rj ra => b_TD_print_0 hG (fun pc lv x S d hq => ri pc lv x S rfl d ⟨x, rfl, hq⟩) v0 v1 S o0 h)
theorem k_TD_printed : QVf y_TD_printed c_TD_printed 2 (some .int) "TreeDiffer" 1 := ⟨m_759, m_760, m_1, m_761, by decide +kernel⟩
theorem b_TD_printed_0 {Λ : QLay} {G : Nat → List (Nat × Value) → List Value → QMem → Prop} {Q : Int → QMem → Prop} (hG : QAct c_TD_printed "TreeDiffer" 2 { frames := 0, cells := 0, slots := 0, locals := 0 } Λ G) (hR : RtI c_TD_printed G Q) (v0 : Nat) (v1 : Int) (S : QMem) (o0 : qob Λ 9 v0) (h : w_TD_printed Λ v0 v1 S Q) : G 0 [(0, .ref v0), (1, vI v1)] [] S := by
  have hΛ := hG.lay
  unfold w_TD_printed at h
  refine pw_iload_n (pc := 0) hG d_TD_printed_0 rfl ?_
  obtain ⟨hrx1, ha1, hb1⟩ := h
  refine pw_if_lt (tgt := 15) (pc := 1) hG d_TD_printed_1 (by decide) hrx1 (fun hc1 => ?_) (fun hc1 => ?_)
  · replace h := ha1 hc1
    refine pw_bipush (pc := 15) hG d_TD_printed_15 (by decide) ?_
    refine pw_goto (tgt := 29) (pc := 17) hG d_TD_printed_17 (by decide) ?_
    exact hR 29 _ _ _ d_TD_printed_29 h
  · replace h := hb1 hc1
    refine pw_iload_n (pc := 4) hG d_TD_printed_4 rfl ?_
    refine pw_aload_n (pc := 5) hG d_TD_printed_5 rfl ?_
    refine g9_9 (pc := 6) hG m_335 d_TD_printed_6 o0 ?_
    refine g2_1 (pc := 9) hG m_316 d_TD_printed_9 (q_rf hΛ o0 rfl (by decide)) ?_
    obtain ⟨hrx12, hry12, ha12, hb12⟩ := h
    refine pw_icmp_lt (tgt := 20) (pc := 12) hG d_TD_printed_12 (by decide) hrx12 hry12 (fun hc12 => ?_) (fun hc12 => ?_)
    · replace h := ha12 hc12
      refine pw_aload_n (pc := 20) hG d_TD_printed_20 rfl ?_
      refine g9_9 (pc := 21) hG m_335 d_TD_printed_21 o0 ?_
      refine g2_0 (pc := 24) hG m_314 d_TD_printed_24 (q_rf hΛ o0 rfl (by decide)) ?_
      refine pw_iload_n (pc := 27) hG d_TD_printed_27 rfl ?_
      obtain ⟨hi28, h⟩ := h
      refine pw_aI (pc := 28) hG (q_arr hΛ (q_rf hΛ o0 rfl (by decide)) rfl (by decide)) hi28 d_TD_printed_28 ?_
      exact hR 29 _ _ _ d_TD_printed_29 h
    · replace h := hb12 hc12
      refine pw_bipush (pc := 15) hG d_TD_printed_15 (by decide) ?_
      refine pw_goto (tgt := 29) (pc := 17) hG d_TD_printed_17 (by decide) ?_
      exact hR 29 _ _ _ d_TD_printed_29 h
theorem ct_TD_printed (l : Launch) (Δ : QDl) {Λ : QLay} (hΛ : LayOk Λ) {v0 : Nat} {v1 : Int} {S : QMem} {Q : Int → QMem → Prop} (o0 : qob Λ 9 v0) (h : w_TD_printed Λ v0 v1 S Q) : QCt l y_TD_printed c_TD_printed 2 (some .int) 0 0 Δ Λ [.ref v0, vI v1] S (qI Q) :=
  QCt.mk (own := "TreeDiffer") hΛ (by decide) rfl rfl (Nat.le_of_ble_eq_true rfl) (fun G hG ri rz rv rj ra => b_TD_printed_0 hG (fun pc lv x S d hq => ri pc lv x S rfl d ⟨x, rfl, hq⟩) v0 v1 S o0 h)
theorem k_TD_isSlot : QSf y_TD_isSlot c_TD_isSlot 1 (some .boolean) "TreeDiffer" 1 := ⟨m_767, m_1, m_768, by decide +kernel⟩
theorem b_TD_isSlot_0 {Λ : QLay} {G : Nat → List (Nat × Value) → List Value → QMem → Prop} {Q : Int → QMem → Prop} (hG : QAct c_TD_isSlot "TreeDiffer" 1 { frames := 0, cells := 0, slots := 0, locals := 0 } Λ G) (hR : RtZ c_TD_isSlot G Q) (v0 : Int) (S : QMem) (h : w_TD_isSlot Λ v0 S Q) : G 0 [(0, vI v0)] [] S := by
  have hΛ := hG.lay
  unfold w_TD_isSlot at h
  refine pw_iload_n (pc := 0) hG d_TD_isSlot_0 rfl ?_
  obtain ⟨hrx1, ha1, hb1⟩ := h
  refine pw_if_lt (tgt := 13) (pc := 1) hG d_TD_isSlot_1 (by decide) hrx1 (fun hc1 => ?_) (fun hc1 => ?_)
  · replace h := ha1 hc1
    refine pw_iconst (pc := 13) hG d_TD_isSlot_13 ?_
    exact hR 14 _ _ _ d_TD_isSlot_14 (Or.inl rfl) h
  · replace h := hb1 hc1
    refine pw_iload_n (pc := 4) hG d_TD_isSlot_4 rfl ?_
    refine pw_iconst (pc := 5) hG d_TD_isSlot_5 ?_
    obtain ⟨hrx6, ha6, hb6⟩ := h
    refine pw_icmp_ge (tgt := 13) (pc := 6) hG d_TD_isSlot_6 (by decide) hrx6 (q_lit rfl) (fun hc6 => ?_) (fun hc6 => ?_)
    · replace h := ha6 hc6
      refine pw_iconst (pc := 13) hG d_TD_isSlot_13 ?_
      exact hR 14 _ _ _ d_TD_isSlot_14 (Or.inl rfl) h
    · replace h := hb6 hc6
      refine pw_iconst (pc := 9) hG d_TD_isSlot_9 ?_
      refine pw_goto (tgt := 14) (pc := 10) hG d_TD_isSlot_10 (by decide) ?_
      exact hR 14 _ _ _ d_TD_isSlot_14 (Or.inr rfl) h
theorem ct_TD_isSlot (l : Launch) (Δ : QDl) {Λ : QLay} (hΛ : LayOk Λ) {v0 : Int} {S : QMem} {Q : Int → QMem → Prop} (h : w_TD_isSlot Λ v0 S Q) : QCt l y_TD_isSlot c_TD_isSlot 1 (some .boolean) 0 0 Δ Λ [vI v0] S (qI Q) :=
  QCt.mk (own := "TreeDiffer") hΛ (by decide) rfl rfl (Nat.le_of_ble_eq_true rfl) (fun G hG ri rz rv rj ra => b_TD_isSlot_0 hG (fun pc lv x S d hb hq => rz pc lv x S rfl d hb ⟨x, rfl, hq⟩) v0 S  h)
theorem k_TD_save : QVf y_TD_save c_TD_save 2 (some .int) "TreeDiffer" 1 := ⟨m_763, m_764, m_1, m_765, by decide +kernel⟩
theorem b_TD_save_0 {Λ : QLay} {G : Nat → List (Nat × Value) → List Value → QMem → Prop} {Q : Int → QMem → Prop} (hG : QAct c_TD_save "TreeDiffer" 2 { frames := 2, cells := 0, slots := 0, locals := 43 } Λ G) (hR : RtI c_TD_save G Q) (v0 : Nat) (v1 : Int) (S : QMem) (o0 : qob Λ 9 v0) (h : w_TD_save Λ v0 v1 S Q) : G 0 [(0, .ref v0), (1, vI v1)] [] S := by
  have hΛ := hG.lay
  unfold w_TD_save at h
  refine pw_iload_n (pc := 0) hG d_TD_save_0 rfl ?_
  refine pw_scalli (pc := 1) hG (fun l Δ => ct_TD_isSlot l Δ hΛ  h) m_766 k_TD_isSlot rfl ⟨by decide, by decide⟩ (Nat.le_of_ble_eq_true rfl) d_TD_save_1 rfl (fun r1 S1 h => ?_)
  obtain ⟨hrx4, ha4, hb4⟩ := h
  refine pw_if_ne (tgt := 10) (pc := 4) hG d_TD_save_4 (by decide) hrx4 (fun hc4 => ?_) (fun hc4 => ?_)
  · replace h := ha4 hc4
    refine pw_aload_n (pc := 10) hG d_TD_save_10 rfl ?_
    refine g9_2 (pc := 11) hG m_328 d_TD_save_11 o0 ?_
    refine pw_iload_n (pc := 14) hG d_TD_save_14 rfl ?_
    obtain ⟨hi15, h⟩ := h
    refine pw_aO (pc := 15) hG (q_arr hΛ o0 rfl (by decide)) (Or.inl rfl) hi15 d_TD_save_15 ?_
    refine pw_aload_n (pc := 16) hG d_TD_save_16 rfl ?_
    refine g9_1 (pc := 17) hG m_327 d_TD_save_17 o0 ?_
    refine pw_callv (pc := 20) hG (fun l Δ => ct_Se_copy l Δ hΛ (q_rf hΛ o0 rfl hi15) (q_rf hΛ o0 rfl (by decide)) h) (q_rf hΛ o0 rfl hi15) rfl (by decide) m_769 k_Se_copy rfl ⟨by decide, by decide⟩ (Nat.le_of_ble_eq_true rfl) d_TD_save_20 rfl (fun S20 h => ?_)
    refine pw_aload_n (pc := 23) hG d_TD_save_23 rfl ?_
    refine g9_3 (pc := 24) hG m_329 d_TD_save_24 o0 ?_
    refine pw_iload_n (pc := 27) hG d_TD_save_27 rfl ?_
    refine pw_iconst (pc := 28) hG d_TD_save_28 ?_
    obtain ⟨hi29, h⟩ := h
    refine pw_sZ (pc := 29) hG (q_arr hΛ o0 rfl (by decide)) hi29 (Or.inr rfl) d_TD_save_29 (fun S29 eS29 => ?_)
    replace h := h S29 eS29
    refine pw_aload_n (pc := 30) hG d_TD_save_30 rfl ?_
    refine g9_1 (pc := 31) hG m_327 d_TD_save_31 o0 ?_
    refine pw_getP (pc := 34) hG (q_rf hΛ o0 rfl (by decide)) 0 (Or.inl rfl) m_129 d_TD_save_34 (fun t34 et34 ot34 => ?_)
    replace h := h t34 et34
    refine g7_0 (pc := 37) hG m_39 d_TD_save_37 ot34 ?_
    exact hR 40 _ _ _ d_TD_save_40 h
  · replace h := hb4 hc4
    refine pw_bipush (pc := 7) hG d_TD_save_7 (by decide) ?_
    exact hR 9 _ _ _ d_TD_save_9 h
theorem ct_TD_save (l : Launch) (Δ : QDl) {Λ : QLay} (hΛ : LayOk Λ) {v0 : Nat} {v1 : Int} {S : QMem} {Q : Int → QMem → Prop} (o0 : qob Λ 9 v0) (h : w_TD_save Λ v0 v1 S Q) : QCt l y_TD_save c_TD_save 2 (some .int) 2 43 Δ Λ [.ref v0, vI v1] S (qI Q) :=
  QCt.mk (own := "TreeDiffer") hΛ (by decide) rfl rfl (Nat.le_of_ble_eq_true rfl) (fun G hG ri rz rv rj ra => b_TD_save_0 hG (fun pc lv x S d hq => ri pc lv x S rfl d ⟨x, rfl, hq⟩) v0 v1 S o0 h)
theorem k_TD_restore : QVf y_TD_restore c_TD_restore 2 (some .int) "TreeDiffer" 1 := ⟨m_775, m_776, m_1, m_777, by decide +kernel⟩
theorem b_TD_restore_0 {Λ : QLay} {G : Nat → List (Nat × Value) → List Value → QMem → Prop} {Q : Int → QMem → Prop} (hG : QAct c_TD_restore "TreeDiffer" 2 { frames := 3, cells := 0, slots := 0, locals := 62 } Λ G) (hR : RtI c_TD_restore G Q) (v0 : Nat) (v1 : Int) (S : QMem) (o0 : qob Λ 9 v0) (h : w_TD_restore Λ v0 v1 S Q) : G 0 [(0, .ref v0), (1, vI v1)] [] S := by
  have hΛ := hG.lay
  unfold w_TD_restore at h
  refine pw_iload_n (pc := 0) hG d_TD_restore_0 rfl ?_
  refine pw_scalli (pc := 1) hG (fun l Δ => ct_TD_isSlot l Δ hΛ  h) m_766 k_TD_isSlot rfl ⟨by decide, by decide⟩ (Nat.le_of_ble_eq_true rfl) d_TD_restore_1 rfl (fun r1 S1 h => ?_)
  obtain ⟨hrx4, ha4, hb4⟩ := h
  refine pw_if_ne (tgt := 10) (pc := 4) hG d_TD_restore_4 (by decide) hrx4 (fun hc4 => ?_) (fun hc4 => ?_)
  · replace h := ha4 hc4
    refine pw_aload_n (pc := 10) hG d_TD_restore_10 rfl ?_
    refine g9_3 (pc := 11) hG m_329 d_TD_restore_11 o0 ?_
    refine pw_iload_n (pc := 14) hG d_TD_restore_14 rfl ?_
    obtain ⟨hi15, h⟩ := h
    refine pw_aZ (pc := 15) hG (q_arr hΛ o0 rfl (by decide)) hi15 d_TD_restore_15 ?_
    obtain ⟨hrx16, ha16, hb16⟩ := h
    refine pw_if_ne (tgt := 22) (pc := 16) hG d_TD_restore_16 (by decide) hrx16 (fun hc16 => ?_) (fun hc16 => ?_)
    · replace h := ha16 hc16
      refine pw_aload_n (pc := 22) hG d_TD_restore_22 rfl ?_
      refine g9_1 (pc := 23) hG m_327 d_TD_restore_23 o0 ?_
      refine pw_aload_n (pc := 26) hG d_TD_restore_26 rfl ?_
      refine g9_2 (pc := 27) hG m_328 d_TD_restore_27 o0 ?_
      refine pw_iload_n (pc := 30) hG d_TD_restore_30 rfl ?_
      obtain ⟨hi31, h⟩ := h
      refine pw_aO (pc := 31) hG (q_arr hΛ o0 rfl (by decide)) (Or.inl rfl) hi31 d_TD_restore_31 ?_
      refine pw_callv (pc := 32) hG (fun l Δ => ct_Se_copy l Δ hΛ (q_rf hΛ o0 rfl (by decide)) (q_rf hΛ o0 rfl hi31) h) (q_rf hΛ o0 rfl (by decide)) rfl (by decide) m_769 k_Se_copy rfl ⟨by decide, by decide⟩ (Nat.le_of_ble_eq_true rfl) d_TD_restore_32 rfl (fun S32 h => ?_)
      refine pw_aload_n (pc := 35) hG d_TD_restore_35 rfl ?_
      refine pw_callv (pc := 36) hG (fun l Δ => ct_TD_forgetAnswers l Δ hΛ o0 h) o0 rfl (by decide) m_447 k_TD_forgetAnswers rfl ⟨by decide, by decide⟩ (Nat.le_of_ble_eq_true rfl) d_TD_restore_36 rfl (fun S36 h => ?_)
      refine pw_aload_n (pc := 39) hG d_TD_restore_39 rfl ?_
      refine g9_1 (pc := 40) hG m_327 d_TD_restore_40 o0 ?_
      refine pw_getP (pc := 43) hG (q_rf hΛ o0 rfl (by decide)) 0 (Or.inl rfl) m_129 d_TD_restore_43 (fun t43 et43 ot43 => ?_)
      replace h := h t43 et43
      refine g7_0 (pc := 46) hG m_39 d_TD_restore_46 ot43 ?_
      exact hR 49 _ _ _ d_TD_restore_49 h
    · replace h := hb16 hc16
      refine pw_bipush (pc := 19) hG d_TD_restore_19 (by decide) ?_
      exact hR 21 _ _ _ d_TD_restore_21 h
  · replace h := hb4 hc4
    refine pw_bipush (pc := 7) hG d_TD_restore_7 (by decide) ?_
    exact hR 9 _ _ _ d_TD_restore_9 h
theorem ct_TD_restore (l : Launch) (Δ : QDl) {Λ : QLay} (hΛ : LayOk Λ) {v0 : Nat} {v1 : Int} {S : QMem} {Q : Int → QMem → Prop} (o0 : qob Λ 9 v0) (h : w_TD_restore Λ v0 v1 S Q) : QCt l y_TD_restore c_TD_restore 2 (some .int) 3 62 Δ Λ [.ref v0, vI v1] S (qI Q) :=
  QCt.mk (own := "TreeDiffer") hΛ (by decide) rfl rfl (Nat.le_of_ble_eq_true rfl) (fun G hG ri rz rv rj ra => b_TD_restore_0 hG (fun pc lv x S d hq => ri pc lv x S rfl d ⟨x, rfl, hq⟩) v0 v1 S o0 h)
theorem k_TD_checksum : QVf y_TD_checksum c_TD_checksum 5 (some .long) "TreeDiffer" 0 := ⟨m_779, m_780, m_1, m_781, by decide +kernel⟩
theorem b_TD_checksum_137 {Λ : QLay} {G : Nat → List (Nat × Value) → List Value → QMem → Prop} {Q : Int → QMem → Prop} (hG : QAct c_TD_checksum "TreeDiffer" 5 { frames := 7, cells := 0, slots := 0, locals := 161 } Λ G) (hR : RtJ c_TD_checksum G Q) {K123 : Nat → Int → Int → QMem → Prop} (hK123 : ∀ (v0 : Nat) (v1 : Int) (v3 : Int) (S : QMem), qob Λ 9 v0 → K123 v0 v1 v3 S → G 123 [(0, .ref v0), (1, vJ v1), (3, vI v3)] [] S) : ∀ (n : Nat) (v0 : Nat) (v1 : Int) (v3 : Int) (v4 : Int) (S : QMem), qob Λ 9 v0 → w_TD_checksum_137 Λ K123 Q n v0 v1 v3 v4 S → G 137 [(0, .ref v0), (1, vJ v1), (3, vI v3), (4, vI v4)] [] S := by
  have hΛ := hG.lay
  intro n
  induction n with
  | zero => intro v0 v1 v3 v4 S o_v0 h; exact h.elim
  | succ n ih =>
    intro v0 v1 v3 v4 S o_v0 h
    rw [w_TD_checksum_137] at h
    refine pw_iload (pc := 137) hG d_TD_checksum_137 rfl ?_
    refine pw_iconst (pc := 139) hG d_TD_checksum_139 ?_
    obtain ⟨hrx140, ha140, hb140⟩ := h
    refine pw_icmp_gt (tgt := 171) (pc := 140) hG d_TD_checksum_140 (by decide) hrx140 (q_lit rfl) (fun hc140 => ?_) (fun hc140 => ?_)
    · replace h := ha140 hc140
      refine pw_iinc0 (pc := 171) hG d_TD_checksum_171 rfl (by decide) rfl ?_
      refine pw_goto (tgt := 123) (pc := 174) hG d_TD_checksum_174 (by decide) ?_
      exact pw_sub hG [0, 1, 3] rfl (hK123 v0 v1 (v3 + 1) S o_v0 h)
    · replace h := hb140 hc140
      refine pw_ldc2 (n := 31) (pc := 143) hG m_783 d_TD_checksum_143 ?_
      refine pw_lload_n (pc := 146) hG d_TD_checksum_146 rfl ?_
      refine pw_lmul (pc := 147) hG d_TD_checksum_147 ?_
      refine pw_aload_n (pc := 148) hG d_TD_checksum_148 rfl ?_
      refine g9_5 (pc := 149) hG m_331 d_TD_checksum_149 o_v0 ?_
      refine g3_0 (pc := 152) hG m_267 d_TD_checksum_152 (q_rf hΛ o_v0 rfl (by decide)) ?_
      refine pw_iload_n (pc := 155) hG d_TD_checksum_155 rfl ?_
      obtain ⟨hi156, h⟩ := h
      refine pw_aO (pc := 156) hG (q_arr hΛ (q_rf hΛ o_v0 rfl (by decide)) rfl (by decide)) (Or.inr rfl) hi156 d_TD_checksum_156 ?_
      refine pw_iload (pc := 157) hG d_TD_checksum_157 rfl ?_
      refine pw_calli (pc := 159) hG (fun l Δ => ct_Sp_tell l Δ hΛ (q_rf hΛ (q_rf hΛ o_v0 rfl (by decide)) rfl hi156) h) (q_rf hΛ (q_rf hΛ o_v0 rfl (by decide)) rfl hi156) rfl (by decide) m_672 k_Sp_tell rfl ⟨by decide, by decide⟩ (Nat.le_of_ble_eq_true rfl) d_TD_checksum_159 rfl (fun r159 S159 h => ?_)
      obtain ⟨hr162, h⟩ := h
      refine pw_i2l (pc := 162) hG d_TD_checksum_162 hr162 ?_
      refine pw_ladd (pc := 163) hG d_TD_checksum_163 ?_
      refine pw_lstore_n (pc := 164) hG d_TD_checksum_164 (by decide) (fun x164 ex164 => ⟨_, rfl, ?_⟩)
      replace h := h x164 ex164
      refine pw_iinc0 (pc := 165) hG d_TD_checksum_165 rfl (by decide) rfl ?_
      refine pw_goto (tgt := 137) (pc := 168) hG d_TD_checksum_168 (by decide) ?_
      exact pw_sub hG [0, 1, 3, 4] rfl (ih v0 x164 v3 (v4 + 1) S159 o_v0 h)
theorem b_TD_checksum_217 {Λ : QLay} {G : Nat → List (Nat × Value) → List Value → QMem → Prop} {Q : Int → QMem → Prop} (hG : QAct c_TD_checksum "TreeDiffer" 5 { frames := 7, cells := 0, slots := 0, locals := 161 } Λ G) (hR : RtJ c_TD_checksum G Q) : ∀ (n : Nat) (v0 : Nat) (v1 : Int) (v3 : Int) (S : QMem), qob Λ 9 v0 → w_TD_checksum_217 Λ Q n v0 v1 v3 S → G 217 [(0, .ref v0), (1, vJ v1), (3, vI v3)] [] S := by
  have hΛ := hG.lay
  intro n
  induction n with
  | zero => intro v0 v1 v3 S o_v0 h; exact h.elim
  | succ n ih =>
    intro v0 v1 v3 S o_v0 h
    rw [w_TD_checksum_217] at h
    refine pw_iload_n (pc := 217) hG d_TD_checksum_217 rfl ?_
    refine pw_aload_n (pc := 218) hG d_TD_checksum_218 rfl ?_
    refine g9_10 (pc := 219) hG m_336 d_TD_checksum_219 o_v0 ?_
    refine g2_1 (pc := 222) hG m_316 d_TD_checksum_222 (q_rf hΛ o_v0 rfl (by decide)) ?_
    obtain ⟨hrx225, hry225, ha225, hb225⟩ := h
    refine pw_icmp_ge (tgt := 251) (pc := 225) hG d_TD_checksum_225 (by decide) hrx225 hry225 (fun hc225 => ?_) (fun hc225 => ?_)
    · replace h := ha225 hc225
      refine pw_lload_n (pc := 251) hG d_TD_checksum_251 rfl ?_
      exact hR 252 _ _ _ d_TD_checksum_252 h
    · replace h := hb225 hc225
      refine pw_ldc2 (n := 31) (pc := 228) hG m_783 d_TD_checksum_228 ?_
      refine pw_lload_n (pc := 231) hG d_TD_checksum_231 rfl ?_
      refine pw_lmul (pc := 232) hG d_TD_checksum_232 ?_
      refine pw_aload_n (pc := 233) hG d_TD_checksum_233 rfl ?_
      refine g9_10 (pc := 234) hG m_336 d_TD_checksum_234 o_v0 ?_
      refine g2_0 (pc := 237) hG m_314 d_TD_checksum_237 (q_rf hΛ o_v0 rfl (by decide)) ?_
      refine pw_iload_n (pc := 240) hG d_TD_checksum_240 rfl ?_
      obtain ⟨hi241, h⟩ := h
      refine pw_aI (pc := 241) hG (q_arr hΛ (q_rf hΛ o_v0 rfl (by decide)) rfl (by decide)) hi241 d_TD_checksum_241 ?_
      obtain ⟨hr242, h⟩ := h
      refine pw_i2l (pc := 242) hG d_TD_checksum_242 hr242 ?_
      refine pw_ladd (pc := 243) hG d_TD_checksum_243 ?_
      refine pw_lstore_n (pc := 244) hG d_TD_checksum_244 (by decide) (fun x244 ex244 => ⟨_, rfl, ?_⟩)
      replace h := h x244 ex244
      refine pw_iinc0 (pc := 245) hG d_TD_checksum_245 rfl (by decide) rfl ?_
      refine pw_goto (tgt := 217) (pc := 248) hG d_TD_checksum_248 (by decide) ?_
      exact pw_sub hG [0, 1, 3] rfl (ih v0 x244 (v3 + 1) S o_v0 h)
theorem b_TD_checksum_123 {Λ : QLay} {G : Nat → List (Nat × Value) → List Value → QMem → Prop} {Q : Int → QMem → Prop} (hG : QAct c_TD_checksum "TreeDiffer" 5 { frames := 7, cells := 0, slots := 0, locals := 161 } Λ G) (hR : RtJ c_TD_checksum G Q) : ∀ (n : Nat) (v0 : Nat) (v1 : Int) (v3 : Int) (S : QMem), qob Λ 9 v0 → w_TD_checksum_123 Λ Q n v0 v1 v3 S → G 123 [(0, .ref v0), (1, vJ v1), (3, vI v3)] [] S := by
  have hΛ := hG.lay
  intro n
  induction n with
  | zero => intro v0 v1 v3 S o_v0 h; exact h.elim
  | succ n ih =>
    intro v0 v1 v3 S o_v0 h
    rw [w_TD_checksum_123] at h
    refine pw_iload_n (pc := 123) hG d_TD_checksum_123 rfl ?_
    refine pw_aload_n (pc := 124) hG d_TD_checksum_124 rfl ?_
    refine g9_5 (pc := 125) hG m_331 d_TD_checksum_125 o_v0 ?_
    refine g3_1 (pc := 128) hG m_269 d_TD_checksum_128 (q_rf hΛ o_v0 rfl (by decide)) ?_
    obtain ⟨hrx131, hry131, ha131, hb131⟩ := h
    refine pw_icmp_ge (tgt := 177) (pc := 131) hG d_TD_checksum_131 (by decide) hrx131 hry131 (fun hc131 => ?_) (fun hc131 => ?_)
    · replace h := ha131 hc131
      refine pw_ldc2 (n := 31) (pc := 177) hG m_783 d_TD_checksum_177 ?_
      refine pw_lload_n (pc := 180) hG d_TD_checksum_180 rfl ?_
      refine pw_lmul (pc := 181) hG d_TD_checksum_181 ?_
      refine pw_aload_n (pc := 182) hG d_TD_checksum_182 rfl ?_
      refine pw_calli (pc := 183) hG (fun l Δ => ct_TD_distance l Δ hΛ o_v0 h) o_v0 rfl (by decide) m_784 k_TD_distance rfl ⟨by decide, by decide⟩ (Nat.le_of_ble_eq_true rfl) d_TD_checksum_183 rfl (fun r183 S183 h => ?_)
      obtain ⟨hr186, h⟩ := h
      refine pw_i2l (pc := 186) hG d_TD_checksum_186 hr186 ?_
      refine pw_ladd (pc := 187) hG d_TD_checksum_187 ?_
      refine pw_lstore_n (pc := 188) hG d_TD_checksum_188 (by decide) (fun x188 ex188 => ⟨_, rfl, ?_⟩)
      replace h := h x188 ex188
      refine pw_aload_n (pc := 189) hG d_TD_checksum_189 rfl ?_
      refine g9_10 (pc := 190) hG m_336 d_TD_checksum_190 o_v0 ?_
      refine pw_aload_n (pc := 193) hG d_TD_checksum_193 rfl ?_
      refine g9_7 (pc := 194) hG m_333 d_TD_checksum_194 o_v0 ?_
      refine pw_callv (pc := 197) hG (fun l Δ => ct_Ou_write l Δ hΛ (q_rf hΛ o_v0 rfl (by decide)) (q_rf hΛ o_v0 rfl (by decide)) h) (q_rf hΛ o_v0 rfl (by decide)) rfl (by decide) m_740 k_Ou_write rfl ⟨by decide, by decide⟩ (Nat.le_of_ble_eq_true rfl) d_TD_checksum_197 rfl (fun S197 h => ?_)
      refine pw_ldc2 (n := 31) (pc := 200) hG m_783 d_TD_checksum_200 ?_
      refine pw_lload_n (pc := 203) hG d_TD_checksum_203 rfl ?_
      refine pw_lmul (pc := 204) hG d_TD_checksum_204 ?_
      refine pw_aload_n (pc := 205) hG d_TD_checksum_205 rfl ?_
      refine g9_10 (pc := 206) hG m_336 d_TD_checksum_206 o_v0 ?_
      refine g2_1 (pc := 209) hG m_316 d_TD_checksum_209 (q_rf hΛ o_v0 rfl (by decide)) ?_
      obtain ⟨hr212, h⟩ := h
      refine pw_i2l (pc := 212) hG d_TD_checksum_212 hr212 ?_
      refine pw_ladd (pc := 213) hG d_TD_checksum_213 ?_
      refine pw_lstore_n (pc := 214) hG d_TD_checksum_214 (by decide) (fun x214 ex214 => ⟨_, rfl, ?_⟩)
      replace h := h x214 ex214
      refine pw_iconst (pc := 215) hG d_TD_checksum_215 ?_
      refine pw_ist_n (pc := 216) hG d_TD_checksum_216 (by decide) rfl ?_
      obtain ⟨n216, h⟩ := h
      exact pw_sub hG [0, 1, 3] rfl (b_TD_checksum_217 hG hR n216 v0 x214 0 S197 o_v0 h)
    · replace h := hb131 hc131
      refine pw_iconst (pc := 134) hG d_TD_checksum_134 ?_
      refine pw_ist (pc := 135) hG d_TD_checksum_135 (by decide) rfl ?_
      obtain ⟨n135, h⟩ := h
      exact pw_sub hG [0, 1, 3, 4] rfl (b_TD_checksum_137 hG hR ih n135 v0 v1 v3 0 S o_v0 h)
theorem b_TD_checksum_46 {Λ : QLay} {G : Nat → List (Nat × Value) → List Value → QMem → Prop} {Q : Int → QMem → Prop} (hG : QAct c_TD_checksum "TreeDiffer" 5 { frames := 7, cells := 0, slots := 0, locals := 161 } Λ G) (hR : RtJ c_TD_checksum G Q) : ∀ (n : Nat) (v0 : Nat) (v1 : Int) (v3 : Int) (S : QMem), qob Λ 9 v0 → w_TD_checksum_46 Λ Q n v0 v1 v3 S → G 46 [(0, .ref v0), (1, vJ v1), (3, vI v3)] [] S := by
  have hΛ := hG.lay
  intro n
  induction n with
  | zero => intro v0 v1 v3 S o_v0 h; exact h.elim
  | succ n ih =>
    intro v0 v1 v3 S o_v0 h
    rw [w_TD_checksum_46] at h
    refine pw_iload_n (pc := 46) hG d_TD_checksum_46 rfl ?_
    refine pw_aload_n (pc := 47) hG d_TD_checksum_47 rfl ?_
    refine g9_1 (pc := 48) hG m_327 d_TD_checksum_48 o_v0 ?_
    refine pw_getP (pc := 51) hG (q_rf hΛ o_v0 rfl (by decide)) 0 (Or.inl rfl) m_129 d_TD_checksum_51 (fun t51 et51 ot51 => ?_)
    replace h := h t51 et51
    refine g7_0 (pc := 54) hG m_39 d_TD_checksum_54 ot51 ?_
    obtain ⟨hrx57, hry57, ha57, hb57⟩ := h
    refine pw_icmp_ge (tgt := 106) (pc := 57) hG d_TD_checksum_57 (by decide) hrx57 hry57 (fun hc57 => ?_) (fun hc57 => ?_)
    · replace h := ha57 hc57
      refine pw_ldc2 (n := 31) (pc := 106) hG m_783 d_TD_checksum_106 ?_
      refine pw_lload_n (pc := 109) hG d_TD_checksum_109 rfl ?_
      refine pw_lmul (pc := 110) hG d_TD_checksum_110 ?_
      refine pw_aload_n (pc := 111) hG d_TD_checksum_111 rfl ?_
      refine g9_5 (pc := 112) hG m_331 d_TD_checksum_112 o_v0 ?_
      refine g3_1 (pc := 115) hG m_269 d_TD_checksum_115 (q_rf hΛ o_v0 rfl (by decide)) ?_
      obtain ⟨hr118, h⟩ := h
      refine pw_i2l (pc := 118) hG d_TD_checksum_118 hr118 ?_
      refine pw_ladd (pc := 119) hG d_TD_checksum_119 ?_
      refine pw_lstore_n (pc := 120) hG d_TD_checksum_120 (by decide) (fun x120 ex120 => ⟨_, rfl, ?_⟩)
      replace h := h x120 ex120
      refine pw_iconst (pc := 121) hG d_TD_checksum_121 ?_
      refine pw_ist_n (pc := 122) hG d_TD_checksum_122 (by decide) rfl ?_
      obtain ⟨n122, h⟩ := h
      exact pw_sub hG [0, 1, 3] rfl (b_TD_checksum_123 hG hR n122 v0 x120 0 S o_v0 h)
    · replace h := hb57 hc57
      refine pw_ldc2 (n := 31) (pc := 60) hG m_783 d_TD_checksum_60 ?_
      refine pw_lload_n (pc := 63) hG d_TD_checksum_63 rfl ?_
      refine pw_lmul (pc := 64) hG d_TD_checksum_64 ?_
      refine pw_aload_n (pc := 65) hG d_TD_checksum_65 rfl ?_
      refine g9_4 (pc := 66) hG m_330 d_TD_checksum_66 o_v0 ?_
      refine g1_1 (pc := 69) hG m_163 d_TD_checksum_69 (q_rf hΛ o_v0 rfl (by decide)) ?_
      refine pw_iload_n (pc := 72) hG d_TD_checksum_72 rfl ?_
      obtain ⟨hi73, h⟩ := h
      refine pw_aI (pc := 73) hG (q_arr hΛ (q_rf hΛ o_v0 rfl (by decide)) rfl (by decide)) hi73 d_TD_checksum_73 ?_
      refine pw_scalli (pc := 74) hG (fun l Δ => ct_TD_orNone l Δ hΛ  h) m_652 k_TD_orNone rfl ⟨by decide, by decide⟩ (Nat.le_of_ble_eq_true rfl) d_TD_checksum_74 rfl (fun r74 S74 h => ?_)
      obtain ⟨hr77, h⟩ := h
      refine pw_i2l (pc := 77) hG d_TD_checksum_77 hr77 ?_
      refine pw_ladd (pc := 78) hG d_TD_checksum_78 ?_
      refine pw_lstore_n (pc := 79) hG d_TD_checksum_79 (by decide) (fun x79 ex79 => ⟨_, rfl, ?_⟩)
      replace h := h x79 ex79
      refine pw_ldc2 (n := 31) (pc := 80) hG m_783 d_TD_checksum_80 ?_
      refine pw_lload_n (pc := 83) hG d_TD_checksum_83 rfl ?_
      refine pw_lmul (pc := 84) hG d_TD_checksum_84 ?_
      refine pw_aload_n (pc := 85) hG d_TD_checksum_85 rfl ?_
      refine g9_4 (pc := 86) hG m_330 d_TD_checksum_86 o_v0 ?_
      refine g1_3 (pc := 89) hG m_169 d_TD_checksum_89 (q_rf hΛ o_v0 rfl (by decide)) ?_
      refine pw_iload_n (pc := 92) hG d_TD_checksum_92 rfl ?_
      obtain ⟨hi93, h⟩ := h
      refine pw_aI (pc := 93) hG (q_arr hΛ (q_rf hΛ o_v0 rfl (by decide)) rfl (by decide)) hi93 d_TD_checksum_93 ?_
      refine pw_scalli (pc := 94) hG (fun l Δ => ct_TD_orNone l Δ hΛ  h) m_652 k_TD_orNone rfl ⟨by decide, by decide⟩ (Nat.le_of_ble_eq_true rfl) d_TD_checksum_94 rfl (fun r94 S94 h => ?_)
      obtain ⟨hr97, h⟩ := h
      refine pw_i2l (pc := 97) hG d_TD_checksum_97 hr97 ?_
      refine pw_ladd (pc := 98) hG d_TD_checksum_98 ?_
      refine pw_lstore_n (pc := 99) hG d_TD_checksum_99 (by decide) (fun x99 ex99 => ⟨_, rfl, ?_⟩)
      replace h := h x99 ex99
      refine pw_iinc0 (pc := 100) hG d_TD_checksum_100 rfl (by decide) rfl ?_
      refine pw_goto (tgt := 46) (pc := 103) hG d_TD_checksum_103 (by decide) ?_
      exact pw_sub hG [0, 1, 3] rfl (ih v0 x99 (v3 + 1) S94 o_v0 h)
theorem b_TD_checksum_0 {Λ : QLay} {G : Nat → List (Nat × Value) → List Value → QMem → Prop} {Q : Int → QMem → Prop} (hG : QAct c_TD_checksum "TreeDiffer" 5 { frames := 7, cells := 0, slots := 0, locals := 161 } Λ G) (hR : RtJ c_TD_checksum G Q) (v0 : Nat) (S : QMem) (o0 : qob Λ 9 v0) (h : w_TD_checksum Λ v0 S Q) : G 0 [(0, .ref v0)] [] S := by
  have hΛ := hG.lay
  unfold w_TD_checksum at h
  refine pw_aload_n (pc := 0) hG d_TD_checksum_0 rfl ?_
  refine pw_callv (pc := 1) hG (fun l Δ => ct_TD_compare l Δ hΛ o0 h) o0 rfl (by decide) m_507 k_TD_compare rfl ⟨by decide, by decide⟩ (Nat.le_of_ble_eq_true rfl) d_TD_checksum_1 rfl (fun S1 h => ?_)
  refine pw_ldc2 (n := 71) (pc := 4) hG m_782 d_TD_checksum_4 ?_
  refine pw_lstore_n (pc := 7) hG d_TD_checksum_7 (by decide) (fun x7 ex7 => ⟨_, rfl, ?_⟩)
  replace h := h x7 ex7
  refine pw_ldc2 (n := 31) (pc := 8) hG m_783 d_TD_checksum_8 ?_
  refine pw_lload_n (pc := 11) hG d_TD_checksum_11 rfl ?_
  refine pw_lmul (pc := 12) hG d_TD_checksum_12 ?_
  refine pw_aload_n (pc := 13) hG d_TD_checksum_13 rfl ?_
  refine g9_1 (pc := 14) hG m_327 d_TD_checksum_14 o0 ?_
  refine pw_getP (pc := 17) hG (q_rf hΛ o0 rfl (by decide)) 0 (Or.inl rfl) m_129 d_TD_checksum_17 (fun t17 et17 ot17 => ?_)
  replace h := h t17 et17
  refine g7_0 (pc := 20) hG m_39 d_TD_checksum_20 ot17 ?_
  obtain ⟨hr23, h⟩ := h
  refine pw_i2l (pc := 23) hG d_TD_checksum_23 hr23 ?_
  refine pw_ladd (pc := 24) hG d_TD_checksum_24 ?_
  refine pw_lstore_n (pc := 25) hG d_TD_checksum_25 (by decide) (fun x25 ex25 => ⟨_, rfl, ?_⟩)
  replace h := h x25 ex25
  refine pw_ldc2 (n := 31) (pc := 26) hG m_783 d_TD_checksum_26 ?_
  refine pw_lload_n (pc := 29) hG d_TD_checksum_29 rfl ?_
  refine pw_lmul (pc := 30) hG d_TD_checksum_30 ?_
  refine pw_aload_n (pc := 31) hG d_TD_checksum_31 rfl ?_
  refine g9_1 (pc := 32) hG m_327 d_TD_checksum_32 o0 ?_
  refine pw_getP (pc := 35) hG (q_rf hΛ o0 rfl (by decide)) 1 (Or.inr rfl) m_137 d_TD_checksum_35 (fun t35 et35 ot35 => ?_)
  replace h := h t35 et35
  refine g7_0 (pc := 38) hG m_39 d_TD_checksum_38 ot35 ?_
  obtain ⟨hr41, h⟩ := h
  refine pw_i2l (pc := 41) hG d_TD_checksum_41 hr41 ?_
  refine pw_ladd (pc := 42) hG d_TD_checksum_42 ?_
  refine pw_lstore_n (pc := 43) hG d_TD_checksum_43 (by decide) (fun x43 ex43 => ⟨_, rfl, ?_⟩)
  replace h := h x43 ex43
  refine pw_iconst (pc := 44) hG d_TD_checksum_44 ?_
  refine pw_ist_n (pc := 45) hG d_TD_checksum_45 (by decide) rfl ?_
  obtain ⟨n45, h⟩ := h
  exact pw_sub hG [0, 1, 3] rfl (b_TD_checksum_46 hG hR n45 v0 x43 0 S1 o0 h)
theorem ct_TD_checksum (l : Launch) (Δ : QDl) {Λ : QLay} (hΛ : LayOk Λ) {v0 : Nat} {S : QMem} {Q : Int → QMem → Prop} (o0 : qob Λ 9 v0) (h : w_TD_checksum Λ v0 S Q) : QCt l y_TD_checksum c_TD_checksum 5 (some .long) 7 161 Δ Λ [.ref v0] S (qJ Q) :=
  QCt.mk (own := "TreeDiffer") hΛ (by decide) rfl rfl (Nat.le_of_ble_eq_true rfl) (fun G hG ri rz rv rj ra => b_TD_checksum_0 hG (fun pc lv x S d hq => rj pc lv x S rfl d ⟨x, rfl, hq⟩) v0 S o0 h)
theorem k_Mo_in : QSf y_Mo_in c_Mo_in 3 (some .boolean) "TreeDifferModel" 3 := ⟨m_943, m_11, m_944, by decide +kernel⟩
theorem b_Mo_in_0 {Λ : QLay} {G : Nat → List (Nat × Value) → List Value → QMem → Prop} {Q : Int → QMem → Prop} (hG : QAct c_Mo_in "TreeDifferModel" 3 { frames := 0, cells := 0, slots := 0, locals := 0 } Λ G) (hR : RtZ c_Mo_in G Q) (v0 : Int) (v1 : Int) (v2 : Int) (S : QMem) (h : w_Mo_in Λ v0 v1 v2 S Q) : G 0 [(0, vI v0), (1, vI v1), (2, vI v2)] [] S := by
  have hΛ := hG.lay
  unfold w_Mo_in at h
  refine pw_iload_n (pc := 0) hG d_Mo_in_0 rfl ?_
  refine pw_iload_n (pc := 1) hG d_Mo_in_1 rfl ?_
  obtain ⟨hrx2, hry2, ha2, hb2⟩ := h
  refine pw_icmp_lt (tgt := 14) (pc := 2) hG d_Mo_in_2 (by decide) hrx2 hry2 (fun hc2 => ?_) (fun hc2 => ?_)
  · replace h := ha2 hc2
    refine pw_iconst (pc := 14) hG d_Mo_in_14 ?_
    exact hR 15 _ _ _ d_Mo_in_15 (Or.inl rfl) h
  · replace h := hb2 hc2
    refine pw_iload_n (pc := 5) hG d_Mo_in_5 rfl ?_
    refine pw_iload_n (pc := 6) hG d_Mo_in_6 rfl ?_
    obtain ⟨hrx7, hry7, ha7, hb7⟩ := h
    refine pw_icmp_gt (tgt := 14) (pc := 7) hG d_Mo_in_7 (by decide) hrx7 hry7 (fun hc7 => ?_) (fun hc7 => ?_)
    · replace h := ha7 hc7
      refine pw_iconst (pc := 14) hG d_Mo_in_14 ?_
      exact hR 15 _ _ _ d_Mo_in_15 (Or.inl rfl) h
    · replace h := hb7 hc7
      refine pw_iconst (pc := 10) hG d_Mo_in_10 ?_
      refine pw_goto (tgt := 15) (pc := 11) hG d_Mo_in_11 (by decide) ?_
      exact hR 15 _ _ _ d_Mo_in_15 (Or.inr rfl) h
theorem ct_Mo_in (l : Launch) (Δ : QDl) {Λ : QLay} (hΛ : LayOk Λ) {v0 : Int} {v1 : Int} {v2 : Int} {S : QMem} {Q : Int → QMem → Prop} (h : w_Mo_in Λ v0 v1 v2 S Q) : QCt l y_Mo_in c_Mo_in 3 (some .boolean) 0 0 Δ Λ [vI v0, vI v1, vI v2] S (qI Q) :=
  QCt.mk (own := "TreeDifferModel") hΛ (by decide) rfl rfl (Nat.le_of_ble_eq_true rfl) (fun G hG ri rz rv rj ra => b_Mo_in_0 hG (fun pc lv x S d hb hq => rz pc lv x S rfl d hb ⟨x, rfl, hq⟩) v0 v1 v2 S  h)
theorem k_Mo_at : QSf y_Mo_at c_Mo_at 2 (some .int) "TreeDifferModel" 2 := ⟨m_792, m_11, m_793, by decide +kernel⟩
theorem b_Mo_at_0 {Λ : QLay} {G : Nat → List (Nat × Value) → List Value → QMem → Prop} {Q : Int → QMem → Prop} (hG : QAct c_Mo_at "TreeDifferModel" 2 { frames := 0, cells := 0, slots := 0, locals := 0 } Λ G) (hR : RtI c_Mo_at G Q) (v0 : Int) (v1 : Int) (S : QMem) (h : w_Mo_at Λ v0 v1 S Q) : G 0 [(0, vI v0), (1, vI v1)] [] S := by
  have hΛ := hG.lay
  unfold w_Mo_at at h
  refine pw_bipush (pc := 0) hG d_Mo_at_0 (by decide) ?_
  refine pw_iload_n (pc := 2) hG d_Mo_at_2 rfl ?_
  refine pw_imul (pc := 3) hG d_Mo_at_3 ?_
  refine pw_iload_n (pc := 4) hG d_Mo_at_4 rfl ?_
  refine pw_iadd (pc := 5) hG d_Mo_at_5 ?_
  exact hR 6 _ _ _ d_Mo_at_6 h
theorem ct_Mo_at (l : Launch) (Δ : QDl) {Λ : QLay} (hΛ : LayOk Λ) {v0 : Int} {v1 : Int} {S : QMem} {Q : Int → QMem → Prop} (h : w_Mo_at Λ v0 v1 S Q) : QCt l y_Mo_at c_Mo_at 2 (some .int) 0 0 Δ Λ [vI v0, vI v1] S (qI Q) :=
  QCt.mk (own := "TreeDifferModel") hΛ (by decide) rfl rfl (Nat.le_of_ble_eq_true rfl) (fun G hG ri rz rv rj ra => b_Mo_at_0 hG (fun pc lv x S d hq => ri pc lv x S rfl d ⟨x, rfl, hq⟩) v0 v1 S  h)
theorem k_Mo_isNode : QVf y_Mo_isNode c_Mo_isNode 3 (some .boolean) "TreeDifferModel" 2 := ⟨m_999, m_p44, m_11, m_1000, by decide +kernel⟩
theorem b_Mo_isNode_0 {Λ : QLay} {G : Nat → List (Nat × Value) → List Value → QMem → Prop} {Q : Int → QMem → Prop} (hG : QAct c_Mo_isNode "TreeDifferModel" 3 { frames := 1, cells := 0, slots := 0, locals := 22 } Λ G) (hR : RtZ c_Mo_isNode G Q) (v0 : Nat) (v1 : Int) (v2 : Int) (S : QMem) (o0 : qob Λ 10 v0) (h : w_Mo_isNode Λ v0 v1 v2 S Q) : G 0 [(0, .ref v0), (1, vI v1), (2, vI v2)] [] S := by
  have hΛ := hG.lay
  unfold w_Mo_isNode at h
  refine pw_iload_n (pc := 0) hG d_Mo_isNode_0 rfl ?_
  refine pw_iconst (pc := 1) hG d_Mo_isNode_1 ?_
  refine pw_iconst (pc := 2) hG d_Mo_isNode_2 ?_
  refine pw_scalli (pc := 3) hG (fun l Δ => ct_Mo_in l Δ hΛ  h) m_942 k_Mo_in rfl ⟨by decide, by decide⟩ (Nat.le_of_ble_eq_true rfl) d_Mo_isNode_3 rfl (fun r3 S3 h => ?_)
  obtain ⟨hrx6, ha6, hb6⟩ := h
  refine pw_if_eq (tgt := 29) (pc := 6) hG d_Mo_isNode_6 (by decide) hrx6 (fun hc6 => ?_) (fun hc6 => ?_)
  · replace h := ha6 hc6
    refine pw_iconst (pc := 29) hG d_Mo_isNode_29 ?_
    exact hR 30 _ _ _ d_Mo_isNode_30 (Or.inl rfl) h
  · replace h := hb6 hc6
    refine pw_iload_n (pc := 9) hG d_Mo_isNode_9 rfl ?_
    refine pw_iconst (pc := 10) hG d_Mo_isNode_10 ?_
    refine pw_aload_n (pc := 11) hG d_Mo_isNode_11 rfl ?_
    refine g10_0 (pc := 12) hG m_802 d_Mo_isNode_12 o0 ?_
    refine pw_iload_n (pc := 15) hG d_Mo_isNode_15 rfl ?_
    obtain ⟨hi16, h⟩ := h
    refine pw_aI (pc := 16) hG (q_arr hΛ o0 rfl (by decide)) hi16 d_Mo_isNode_16 ?_
    refine pw_iconst (pc := 17) hG d_Mo_isNode_17 ?_
    refine pw_isub (pc := 18) hG d_Mo_isNode_18 ?_
    refine pw_scalli (pc := 19) hG (fun l Δ => ct_Mo_in l Δ hΛ  h) m_942 k_Mo_in rfl ⟨by decide, by decide⟩ (Nat.le_of_ble_eq_true rfl) d_Mo_isNode_19 rfl (fun r19 S19 h => ?_)
    obtain ⟨hrx22, ha22, hb22⟩ := h
    refine pw_if_eq (tgt := 29) (pc := 22) hG d_Mo_isNode_22 (by decide) hrx22 (fun hc22 => ?_) (fun hc22 => ?_)
    · replace h := ha22 hc22
      refine pw_iconst (pc := 29) hG d_Mo_isNode_29 ?_
      exact hR 30 _ _ _ d_Mo_isNode_30 (Or.inl rfl) h
    · replace h := hb22 hc22
      refine pw_iconst (pc := 25) hG d_Mo_isNode_25 ?_
      refine pw_goto (tgt := 30) (pc := 26) hG d_Mo_isNode_26 (by decide) ?_
      exact hR 30 _ _ _ d_Mo_isNode_30 (Or.inr rfl) h
theorem ct_Mo_isNode (l : Launch) (Δ : QDl) {Λ : QLay} (hΛ : LayOk Λ) {v0 : Nat} {v1 : Int} {v2 : Int} {S : QMem} {Q : Int → QMem → Prop} (o0 : qob Λ 10 v0) (h : w_Mo_isNode Λ v0 v1 v2 S Q) : QCt l y_Mo_isNode c_Mo_isNode 3 (some .boolean) 1 22 Δ Λ [.ref v0, vI v1, vI v2] S (qI Q) :=
  QCt.mk (own := "TreeDifferModel") hΛ (by decide) rfl rfl (Nat.le_of_ble_eq_true rfl) (fun G hG ri rz rv rj ra => b_Mo_isNode_0 hG (fun pc lv x S d hb hq => rz pc lv x S rfl d hb ⟨x, rfl, hq⟩) v0 v1 v2 S o0 h)
theorem k_Mo_append : QVf y_Mo_append c_Mo_append 2 (some .int) "TreeDifferModel" 1 := ⟨m_939, m_940, m_11, m_941, by decide +kernel⟩
theorem b_Mo_append_0 {Λ : QLay} {G : Nat → List (Nat × Value) → List Value → QMem → Prop} {Q : Int → QMem → Prop} (hG : QAct c_Mo_append "TreeDifferModel" 2 { frames := 1, cells := 0, slots := 0, locals := 22 } Λ G) (hR : RtI c_Mo_append G Q) (v0 : Nat) (v1 : Int) (S : QMem) (o0 : qob Λ 10 v0) (h : w_Mo_append Λ v0 v1 S Q) : G 0 [(0, .ref v0), (1, vI v1)] [] S := by
  have hΛ := hG.lay
  unfold w_Mo_append at h
  refine pw_iload_n (pc := 0) hG d_Mo_append_0 rfl ?_
  refine pw_iconst (pc := 1) hG d_Mo_append_1 ?_
  refine pw_bipush (pc := 2) hG d_Mo_append_2 (by decide) ?_
  refine pw_scalli (pc := 4) hG (fun l Δ => ct_Mo_in l Δ hΛ  h) m_942 k_Mo_in rfl ⟨by decide, by decide⟩ (Nat.le_of_ble_eq_true rfl) d_Mo_append_4 rfl (fun r4 S4 h => ?_)
  obtain ⟨hrx7, ha7, hb7⟩ := h
  refine pw_if_ne (tgt := 13) (pc := 7) hG d_Mo_append_7 (by decide) hrx7 (fun hc7 => ?_) (fun hc7 => ?_)
  · replace h := ha7 hc7
    refine pw_aload_n (pc := 13) hG d_Mo_append_13 rfl ?_
    refine g10_10 (pc := 14) hG m_812 d_Mo_append_14 o0 ?_
    refine pw_bipush (pc := 17) hG d_Mo_append_17 (by decide) ?_
    obtain ⟨hrx19, ha19, hb19⟩ := h
    refine pw_icmp_ne (tgt := 25) (pc := 19) hG d_Mo_append_19 (by decide) hrx19 (q_lit rfl) (fun hc19 => ?_) (fun hc19 => ?_)
    · replace h := ha19 hc19
      refine pw_aload_n (pc := 25) hG d_Mo_append_25 rfl ?_
      refine g10_9 (pc := 26) hG m_811 d_Mo_append_26 o0 ?_
      refine pw_aload_n (pc := 29) hG d_Mo_append_29 rfl ?_
      refine g10_10 (pc := 30) hG m_812 d_Mo_append_30 o0 ?_
      refine pw_iload_n (pc := 33) hG d_Mo_append_33 rfl ?_
      obtain ⟨hi34, h⟩ := h
      refine pw_sI (pc := 34) hG (q_arr hΛ o0 rfl (by decide)) hi34 d_Mo_append_34 (fun S34 eS34 => ?_)
      replace h := h S34 eS34
      refine pw_aload_n (pc := 35) hG d_Mo_append_35 rfl ?_
      refine pw_dup (pc := 36) hG d_Mo_append_36 rfl ?_
      refine g10_10 (pc := 37) hG m_812 d_Mo_append_37 o0 ?_
      refine pw_iconst (pc := 40) hG d_Mo_append_40 ?_
      refine pw_iadd (pc := 41) hG d_Mo_append_41 ?_
      refine p10_10 (pc := 42) hG m_812 d_Mo_append_42 o0 (fun S42 eS42 => ?_)
      replace h := h S42 eS42
      refine pw_aload_n (pc := 45) hG d_Mo_append_45 rfl ?_
      refine g10_10 (pc := 46) hG m_812 d_Mo_append_46 o0 ?_
      exact hR 49 _ _ _ d_Mo_append_49 h
    · replace h := hb19 hc19
      refine pw_bipush (pc := 22) hG d_Mo_append_22 (by decide) ?_
      exact hR 24 _ _ _ d_Mo_append_24 h
  · replace h := hb7 hc7
    refine pw_bipush (pc := 10) hG d_Mo_append_10 (by decide) ?_
    exact hR 12 _ _ _ d_Mo_append_12 h
theorem ct_Mo_append (l : Launch) (Δ : QDl) {Λ : QLay} (hΛ : LayOk Λ) {v0 : Nat} {v1 : Int} {S : QMem} {Q : Int → QMem → Prop} (o0 : qob Λ 10 v0) (h : w_Mo_append Λ v0 v1 S Q) : QCt l y_Mo_append c_Mo_append 2 (some .int) 1 22 Δ Λ [.ref v0, vI v1] S (qI Q) :=
  QCt.mk (own := "TreeDifferModel") hΛ (by decide) rfl rfl (Nat.le_of_ble_eq_true rfl) (fun G hG ri rz rv rj ra => b_Mo_append_0 hG (fun pc lv x S d hq => ri pc lv x S rfl d ⟨x, rfl, hq⟩) v0 v1 S o0 h)
theorem k_Mo_clearText : QVf y_Mo_clearText c_Mo_clearText 2 (some .int) "TreeDifferModel" 0 := ⟨m_946, m_947, m_11, m_948, by decide +kernel⟩
theorem b_Mo_clearText_0 {Λ : QLay} {G : Nat → List (Nat × Value) → List Value → QMem → Prop} {Q : Int → QMem → Prop} (hG : QAct c_Mo_clearText "TreeDifferModel" 2 { frames := 0, cells := 0, slots := 0, locals := 0 } Λ G) (hR : RtI c_Mo_clearText G Q) (v0 : Nat) (S : QMem) (o0 : qob Λ 10 v0) (h : w_Mo_clearText Λ v0 S Q) : G 0 [(0, .ref v0)] [] S := by
  have hΛ := hG.lay
  unfold w_Mo_clearText at h
  refine pw_aload_n (pc := 0) hG d_Mo_clearText_0 rfl ?_
  refine g10_10 (pc := 1) hG m_812 d_Mo_clearText_1 o0 ?_
  refine pw_istore_n (pc := 4) hG d_Mo_clearText_4 (by decide) (fun x4 ex4 => ⟨_, rfl, ?_⟩)
  replace h := h x4 ex4
  refine pw_aload_n (pc := 5) hG d_Mo_clearText_5 rfl ?_
  refine pw_iconst (pc := 6) hG d_Mo_clearText_6 ?_
  refine p10_10 (pc := 7) hG m_812 d_Mo_clearText_7 o0 (fun S7 eS7 => ?_)
  replace h := h S7 eS7
  refine pw_iload_n (pc := 10) hG d_Mo_clearText_10 rfl ?_
  exact hR 11 _ _ _ d_Mo_clearText_11 h
theorem ct_Mo_clearText (l : Launch) (Δ : QDl) {Λ : QLay} (hΛ : LayOk Λ) {v0 : Nat} {S : QMem} {Q : Int → QMem → Prop} (o0 : qob Λ 10 v0) (h : w_Mo_clearText Λ v0 S Q) : QCt l y_Mo_clearText c_Mo_clearText 2 (some .int) 0 0 Δ Λ [.ref v0] S (qI Q) :=
  QCt.mk (own := "TreeDifferModel") hΛ (by decide) rfl rfl (Nat.le_of_ble_eq_true rfl) (fun G hG ri rz rv rj ra => b_Mo_clearText_0 hG (fun pc lv x S d hq => ri pc lv x S rfl d ⟨x, rfl, hq⟩) v0 S o0 h)
theorem k_Mo_here : QVf y_Mo_here c_Mo_here 1 (some .int) "TreeDifferModel" 0 := ⟨m_959, m_p39, m_11, m_960, by decide +kernel⟩
theorem b_Mo_here_0 {Λ : QLay} {G : Nat → List (Nat × Value) → List Value → QMem → Prop} {Q : Int → QMem → Prop} (hG : QAct c_Mo_here "TreeDifferModel" 1 { frames := 0, cells := 0, slots := 0, locals := 0 } Λ G) (hR : RtI c_Mo_here G Q) (v0 : Nat) (S : QMem) (o0 : qob Λ 10 v0) (h : w_Mo_here Λ v0 S Q) : G 0 [(0, .ref v0)] [] S := by
  have hΛ := hG.lay
  unfold w_Mo_here at h
  refine pw_aload_n (pc := 0) hG d_Mo_here_0 rfl ?_
  refine g10_13 (pc := 1) hG m_815 d_Mo_here_1 o0 ?_
  refine pw_aload_n (pc := 4) hG d_Mo_here_4 rfl ?_
  refine g10_10 (pc := 5) hG m_812 d_Mo_here_5 o0 ?_
  obtain ⟨hrx8, hry8, ha8, hb8⟩ := h
  refine pw_icmp_ge (tgt := 23) (pc := 8) hG d_Mo_here_8 (by decide) hrx8 hry8 (fun hc8 => ?_) (fun hc8 => ?_)
  · replace h := ha8 hc8
    refine pw_iconst (pc := 23) hG d_Mo_here_23 ?_
    exact hR 24 _ _ _ d_Mo_here_24 h
  · replace h := hb8 hc8
    refine pw_aload_n (pc := 11) hG d_Mo_here_11 rfl ?_
    refine g10_9 (pc := 12) hG m_811 d_Mo_here_12 o0 ?_
    refine pw_aload_n (pc := 15) hG d_Mo_here_15 rfl ?_
    refine g10_13 (pc := 16) hG m_815 d_Mo_here_16 o0 ?_
    obtain ⟨hi19, h⟩ := h
    refine pw_aI (pc := 19) hG (q_arr hΛ o0 rfl (by decide)) hi19 d_Mo_here_19 ?_
    refine pw_goto (tgt := 24) (pc := 20) hG d_Mo_here_20 (by decide) ?_
    exact hR 24 _ _ _ d_Mo_here_24 h
theorem ct_Mo_here (l : Launch) (Δ : QDl) {Λ : QLay} (hΛ : LayOk Λ) {v0 : Nat} {S : QMem} {Q : Int → QMem → Prop} (o0 : qob Λ 10 v0) (h : w_Mo_here Λ v0 S Q) : QCt l y_Mo_here c_Mo_here 1 (some .int) 0 0 Δ Λ [.ref v0] S (qI Q) :=
  QCt.mk (own := "TreeDifferModel") hΛ (by decide) rfl rfl (Nat.le_of_ble_eq_true rfl) (fun G hG ri rz rv rj ra => b_Mo_here_0 hG (fun pc lv x S d hq => ri pc lv x S rfl d ⟨x, rfl, hq⟩) v0 S o0 h)
theorem k_Mo_isLabelRead : QVf y_Mo_isLabelRead c_Mo_isLabelRead 3 (some .boolean) "TreeDifferModel" 1 := ⟨m_963, m_p40, m_11, m_964, by decide +kernel⟩
theorem b_Mo_isLabelRead_79 {Λ : QLay} {G : Nat → List (Nat × Value) → List Value → QMem → Prop} {Q : Int → QMem → Prop} (hG : QAct c_Mo_isLabelRead "TreeDifferModel" 3 { frames := 1, cells := 0, slots := 0, locals := 22 } Λ G) (hR : RtZ c_Mo_isLabelRead G Q) (v0 : Nat) (s0 : Nat) (s1 : Int) (s2 : Int) (S : QMem) (o_v0 : qob Λ 10 v0) (o_s0 : qob Λ 10 s0) (h : w_Mo_isLabelRead_79 Λ Q v0 s0 s1 s2 S) : G 79 [(0, .ref v0)] [vI s2, vI s1, .ref (yA Λ s0 3)] S := by
  have hΛ := hG.lay
  unfold w_Mo_isLabelRead_79 at h
  obtain ⟨hi79, h⟩ := h
  refine pw_sI (pc := 79) hG (q_arr hΛ o_s0 rfl (by decide)) hi79 d_Mo_isLabelRead_79 (fun S79 eS79 => ?_)
  replace h := h S79 eS79
  refine pw_aload_n (pc := 80) hG d_Mo_isLabelRead_80 rfl ?_
  refine g10_0 (pc := 81) hG m_802 d_Mo_isLabelRead_81 o_v0 ?_
  refine pw_iconst (pc := 84) hG d_Mo_isLabelRead_84 ?_
  refine pw_dup2 (pc := 85) hG d_Mo_isLabelRead_85 rfl rfl ?_
  refine pw_aI (pc := 86) hG (q_arr hΛ o_v0 rfl (by decide)) (by decide) d_Mo_isLabelRead_86 ?_
  refine pw_iconst (pc := 87) hG d_Mo_isLabelRead_87 ?_
  refine pw_iadd (pc := 88) hG d_Mo_isLabelRead_88 ?_
  refine pw_sI (pc := 89) hG (q_arr hΛ o_v0 rfl (by decide)) (by decide) d_Mo_isLabelRead_89 (fun S89 eS89 => ?_)
  replace h := h S89 eS89
  refine pw_aload_n (pc := 90) hG d_Mo_isLabelRead_90 rfl ?_
  refine pw_iconst (pc := 91) hG d_Mo_isLabelRead_91 ?_
  refine p10_16 (pc := 92) hG m_818 d_Mo_isLabelRead_92 o_v0 (fun S92 eS92 => ?_)
  replace h := h S92 eS92
  refine pw_iconst (pc := 95) hG d_Mo_isLabelRead_95 ?_
  exact hR 96 _ _ _ d_Mo_isLabelRead_96 (Or.inr rfl) h
theorem b_Mo_isLabelRead_0 {Λ : QLay} {G : Nat → List (Nat × Value) → List Value → QMem → Prop} {Q : Int → QMem → Prop} (hG : QAct c_Mo_isLabelRead "TreeDifferModel" 3 { frames := 1, cells := 0, slots := 0, locals := 22 } Λ G) (hR : RtZ c_Mo_isLabelRead G Q) (v0 : Nat) (v1 : Int) (S : QMem) (o0 : qob Λ 10 v0) (h : w_Mo_isLabelRead Λ v0 v1 S Q) : G 0 [(0, .ref v0), (1, vI v1)] [] S := by
  have hΛ := hG.lay
  unfold w_Mo_isLabelRead at h
  refine pw_iload_n (pc := 0) hG d_Mo_isLabelRead_0 rfl ?_
  refine pw_bipush (pc := 1) hG d_Mo_isLabelRead_1 (by decide) ?_
  refine pw_bipush (pc := 3) hG d_Mo_isLabelRead_3 (by decide) ?_
  refine pw_scalli (pc := 5) hG (fun l Δ => ct_Mo_in l Δ hΛ  h) m_942 k_Mo_in rfl ⟨by decide, by decide⟩ (Nat.le_of_ble_eq_true rfl) d_Mo_isLabelRead_5 rfl (fun r5 S5 h => ?_)
  obtain ⟨hrx8, ha8, hb8⟩ := h
  refine pw_if_eq (tgt := 22) (pc := 8) hG d_Mo_isLabelRead_8 (by decide) hrx8 (fun hc8 => ?_) (fun hc8 => ?_)
  · replace h := ha8 hc8
    refine pw_iconst (pc := 22) hG d_Mo_isLabelRead_22 ?_
    exact hR 23 _ _ _ d_Mo_isLabelRead_23 (Or.inl rfl) h
  · replace h := hb8 hc8
    refine pw_aload_n (pc := 11) hG d_Mo_isLabelRead_11 rfl ?_
    refine g10_0 (pc := 12) hG m_802 d_Mo_isLabelRead_12 o0 ?_
    refine pw_iconst (pc := 15) hG d_Mo_isLabelRead_15 ?_
    refine pw_aI (pc := 16) hG (q_arr hΛ o0 rfl (by decide)) (by decide) d_Mo_isLabelRead_16 ?_
    refine pw_bipush (pc := 17) hG d_Mo_isLabelRead_17 (by decide) ?_
    obtain ⟨hrx19, ha19, hb19⟩ := h
    refine pw_icmp_ne (tgt := 24) (pc := 19) hG d_Mo_isLabelRead_19 (by decide) hrx19 (q_lit rfl) (fun hc19 => ?_) (fun hc19 => ?_)
    · replace h := ha19 hc19
      refine pw_iconst (pc := 24) hG d_Mo_isLabelRead_24 ?_
      refine pw_aload_n (pc := 25) hG d_Mo_isLabelRead_25 rfl ?_
      refine g10_0 (pc := 26) hG m_802 d_Mo_isLabelRead_26 o0 ?_
      refine pw_iconst (pc := 29) hG d_Mo_isLabelRead_29 ?_
      refine pw_aI (pc := 30) hG (q_arr hΛ o0 rfl (by decide)) (by decide) d_Mo_isLabelRead_30 ?_
      refine pw_scalli (pc := 31) hG (fun l Δ => ct_Mo_at l Δ hΛ  h) m_791 k_Mo_at rfl ⟨by decide, by decide⟩ (Nat.le_of_ble_eq_true rfl) d_Mo_isLabelRead_31 rfl (fun r31 S31 h => ?_)
      refine pw_ist_n (pc := 34) hG d_Mo_isLabelRead_34 (by decide) rfl ?_
      refine pw_aload_n (pc := 35) hG d_Mo_isLabelRead_35 rfl ?_
      refine g10_1 (pc := 36) hG m_803 d_Mo_isLabelRead_36 o0 ?_
      refine pw_iload_n (pc := 39) hG d_Mo_isLabelRead_39 rfl ?_
      refine pw_iload_n (pc := 40) hG d_Mo_isLabelRead_40 rfl ?_
      refine pw_bipush (pc := 41) hG d_Mo_isLabelRead_41 (by decide) ?_
      refine pw_isub (pc := 43) hG d_Mo_isLabelRead_43 ?_
      obtain ⟨hi44, h⟩ := h
      refine pw_sI (pc := 44) hG (q_arr hΛ o0 rfl (by decide)) hi44 d_Mo_isLabelRead_44 (fun S44 eS44 => ?_)
      replace h := h S44 eS44
      refine pw_aload_n (pc := 45) hG d_Mo_isLabelRead_45 rfl ?_
      refine g10_2 (pc := 46) hG m_804 d_Mo_isLabelRead_46 o0 ?_
      refine pw_iload_n (pc := 49) hG d_Mo_isLabelRead_49 rfl ?_
      refine pw_iconst (pc := 50) hG d_Mo_isLabelRead_50 ?_
      obtain ⟨hi51, h⟩ := h
      refine pw_sI (pc := 51) hG (q_arr hΛ o0 rfl (by decide)) hi51 d_Mo_isLabelRead_51 (fun S51 eS51 => ?_)
      replace h := h S51 eS51
      refine pw_aload_n (pc := 52) hG d_Mo_isLabelRead_52 rfl ?_
      refine g10_3 (pc := 53) hG m_805 d_Mo_isLabelRead_53 o0 ?_
      refine pw_iload_n (pc := 56) hG d_Mo_isLabelRead_56 rfl ?_
      refine pw_aload_n (pc := 57) hG d_Mo_isLabelRead_57 rfl ?_
      refine g10_15 (pc := 58) hG m_817 d_Mo_isLabelRead_58 o0 ?_
      obtain ⟨hrx61, ha61, hb61⟩ := h
      refine pw_if_ne (tgt := 68) (pc := 61) hG d_Mo_isLabelRead_61 (by decide) hrx61 (fun hc61 => ?_) (fun hc61 => ?_)
      · replace h := ha61 hc61
        refine pw_aload_n (pc := 68) hG d_Mo_isLabelRead_68 rfl ?_
        refine g10_14 (pc := 69) hG m_816 d_Mo_isLabelRead_69 o0 ?_
        refine pw_aload_n (pc := 72) hG d_Mo_isLabelRead_72 rfl ?_
        refine g10_15 (pc := 73) hG m_817 d_Mo_isLabelRead_73 o0 ?_
        refine pw_iconst (pc := 76) hG d_Mo_isLabelRead_76 ?_
        refine pw_isub (pc := 77) hG d_Mo_isLabelRead_77 ?_
        obtain ⟨hi78, h⟩ := h
        refine pw_aI (pc := 78) hG (q_arr hΛ o0 rfl (by decide)) hi78 d_Mo_isLabelRead_78 ?_
        exact pw_sub hG [0] rfl (b_Mo_isLabelRead_79 hG hR v0 v0 r31 (S51.1 v0 14 ((S51.1 v0 15 0) - 1)) S51 o0 o0 h)
      · replace h := hb61 hc61
        refine pw_iconst (pc := 64) hG d_Mo_isLabelRead_64 ?_
        refine pw_goto (tgt := 79) (pc := 65) hG d_Mo_isLabelRead_65 (by decide) ?_
        exact pw_sub hG [0] rfl (b_Mo_isLabelRead_79 hG hR v0 v0 r31 (-1) S51 o0 o0 h)
    · replace h := hb19 hc19
      refine pw_iconst (pc := 22) hG d_Mo_isLabelRead_22 ?_
      exact hR 23 _ _ _ d_Mo_isLabelRead_23 (Or.inl rfl) h
theorem ct_Mo_isLabelRead (l : Launch) (Δ : QDl) {Λ : QLay} (hΛ : LayOk Λ) {v0 : Nat} {v1 : Int} {S : QMem} {Q : Int → QMem → Prop} (o0 : qob Λ 10 v0) (h : w_Mo_isLabelRead Λ v0 v1 S Q) : QCt l y_Mo_isLabelRead c_Mo_isLabelRead 3 (some .boolean) 1 22 Δ Λ [.ref v0, vI v1] S (qI Q) :=
  QCt.mk (own := "TreeDifferModel") hΛ (by decide) rfl rfl (Nat.le_of_ble_eq_true rfl) (fun G hG ri rz rv rj ra => b_Mo_isLabelRead_0 hG (fun pc lv x S d hb hq => rz pc lv x S rfl d hb ⟨x, rfl, hq⟩) v0 v1 S o0 h)
