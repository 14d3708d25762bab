theorem k_Mo_start : QVf y_Mo_start c_Mo_start 2 (some .int) "TreeDifferModel" 0 := ⟨m_1195, m_1196, m_11, m_1197, by decide +kernel⟩
theorem b_Mo_start_0 {Λ : QLay} {G : Nat → List (Nat × Value) → List Value → QMem → Prop} {Q : Int → QMem → Prop} (hG : QAct c_Mo_start "TreeDifferModel" 2 { frames := 8, cells := 0, slots := 0, locals := 180 } Λ G) (hR : RtI c_Mo_start G Q) (v0 : Nat) (S : QMem) (o0 : qob Λ 10 v0) (h : w_Mo_start Λ v0 S Q) : G 0 [(0, .ref v0)] [] S := by
  have hΛ := hG.lay
  unfold w_Mo_start at h
  refine pw_aload_n (pc := 0) hG d_Mo_start_0 rfl ?_
  refine pw_callv (pc := 1) hG (fun l Δ => ct_Mo_finds l Δ hΛ o0 h) o0 rfl (by decide) m_1037 k_Mo_finds rfl ⟨by decide, by decide⟩ (Nat.le_of_ble_eq_true rfl) d_Mo_start_1 rfl (fun S1 h => ?_)
  refine pw_aload_n (pc := 4) hG d_Mo_start_4 rfl ?_
  refine g10_6 (pc := 5) hG m_808 d_Mo_start_5 o0 ?_
  refine pw_istore_n (pc := 8) hG d_Mo_start_8 (by decide) (fun x8 ex8 => ⟨_, rfl, ?_⟩)
  replace h := h x8 ex8
  refine pw_aload_n (pc := 9) hG d_Mo_start_9 rfl ?_
  refine pw_iconst (pc := 10) hG d_Mo_start_10 ?_
  refine pw_callv (pc := 11) hG (fun l Δ => ct_Mo_goesTo l Δ hΛ o0 h) o0 rfl (by decide) m_1140 k_Mo_goesTo rfl ⟨by decide, by decide⟩ (Nat.le_of_ble_eq_true rfl) d_Mo_start_11 rfl (fun S11 h => ?_)
  refine pw_iload_n (pc := 14) hG d_Mo_start_14 rfl ?_
  exact hR 15 _ _ _ d_Mo_start_15 h
theorem ct_Mo_start (l : Launch) (Δ : QDl) {Λ : QLay} (hΛ : LayOk Λ) {v0 : Nat} {S : QMem} {Q : Int → QMem → Prop} (o0 : qob Λ 10 v0) (h : w_Mo_start Λ v0 S Q) : QCt l y_Mo_start c_Mo_start 2 (some .int) 8 180 Δ Λ [.ref v0] S (qI Q) :=
  QCt.mk (own := "TreeDifferModel") hΛ (by decide) rfl rfl (Nat.le_of_ble_eq_true rfl) (fun G hG ri rz rv rj ra => b_Mo_start_0 hG (fun pc lv x S d hq => ri pc lv x S rfl d ⟨x, rfl, hq⟩) v0 S o0 h)
theorem k_Mo_stepOn : QVf y_Mo_stepOn c_Mo_stepOn 1 (some .int) "TreeDifferModel" 0 := ⟨m_1199, m_1200, m_11, m_1201, by decide +kernel⟩
theorem b_Mo_stepOn_0 {Λ : QLay} {G : Nat → List (Nat × Value) → List Value → QMem → Prop} {Q : Int → QMem → Prop} (hG : QAct c_Mo_stepOn "TreeDifferModel" 1 { frames := 8, cells := 0, slots := 0, locals := 180 } Λ G) (hR : RtI c_Mo_stepOn G Q) (v0 : Nat) (S : QMem) (o0 : qob Λ 10 v0) (h : w_Mo_stepOn Λ v0 S Q) : G 0 [(0, .ref v0)] [] S := by
  have hΛ := hG.lay
  unfold w_Mo_stepOn at h
  refine pw_aload_n (pc := 0) hG d_Mo_stepOn_0 rfl ?_
  refine pw_callv (pc := 1) hG (fun l Δ => ct_Mo_finds l Δ hΛ o0 h) o0 rfl (by decide) m_1037 k_Mo_finds rfl ⟨by decide, by decide⟩ (Nat.le_of_ble_eq_true rfl) d_Mo_stepOn_1 rfl (fun S1 h => ?_)
  refine pw_aload_n (pc := 4) hG d_Mo_stepOn_4 rfl ?_
  refine g10_6 (pc := 5) hG m_808 d_Mo_stepOn_5 o0 ?_
  refine pw_aload_n (pc := 8) hG d_Mo_stepOn_8 rfl ?_
  refine g10_31 (pc := 9) hG m_833 d_Mo_stepOn_9 o0 ?_
  obtain ⟨hrx12, hry12, ha12, hb12⟩ := h
  refine pw_icmp_ne (tgt := 18) (pc := 12) hG d_Mo_stepOn_12 (by decide) hrx12 hry12 (fun hc12 => ?_) (fun hc12 => ?_)
  · replace h := ha12 hc12
    refine pw_aload_n (pc := 18) hG d_Mo_stepOn_18 rfl ?_
    refine pw_aload_n (pc := 19) hG d_Mo_stepOn_19 rfl ?_
    refine g10_6 (pc := 20) hG m_808 d_Mo_stepOn_20 o0 ?_
    refine pw_iconst (pc := 23) hG d_Mo_stepOn_23 ?_
    refine pw_iadd (pc := 24) hG d_Mo_stepOn_24 ?_
    refine pw_callv (pc := 25) hG (fun l Δ => ct_Mo_goesTo l Δ hΛ o0 h) o0 rfl (by decide) m_1140 k_Mo_goesTo rfl ⟨by decide, by decide⟩ (Nat.le_of_ble_eq_true rfl) d_Mo_stepOn_25 rfl (fun S25 h => ?_)
    refine pw_aload_n (pc := 28) hG d_Mo_stepOn_28 rfl ?_
    refine g10_6 (pc := 29) hG m_808 d_Mo_stepOn_29 o0 ?_
    exact hR 32 _ _ _ d_Mo_stepOn_32 h
  · replace h := hb12 hc12
    refine pw_bipush (pc := 15) hG d_Mo_stepOn_15 (by decide) ?_
    exact hR 17 _ _ _ d_Mo_stepOn_17 h
theorem ct_Mo_stepOn (l : Launch) (Δ : QDl) {Λ : QLay} (hΛ : LayOk Λ) {v0 : Nat} {S : QMem} {Q : Int → QMem → Prop} (o0 : qob Λ 10 v0) (h : w_Mo_stepOn Λ v0 S Q) : QCt l y_Mo_stepOn c_Mo_stepOn 1 (some .int) 8 180 Δ Λ [.ref v0] S (qI Q) :=
  QCt.mk (own := "TreeDifferModel") hΛ (by decide) rfl rfl (Nat.le_of_ble_eq_true rfl) (fun G hG ri rz rv rj ra => b_Mo_stepOn_0 hG (fun pc lv x S d hq => ri pc lv x S rfl d ⟨x, rfl, hq⟩) v0 S o0 h)
theorem k_Mo_stepBack : QVf y_Mo_stepBack c_Mo_stepBack 1 (some .int) "TreeDifferModel" 0 := ⟨m_1203, m_1204, m_11, m_1205, by decide +kernel⟩
theorem b_Mo_stepBack_0 {Λ : QLay} {G : Nat → List (Nat × Value) → List Value → QMem → Prop} {Q : Int → QMem → Prop} (hG : QAct c_Mo_stepBack "TreeDifferModel" 1 { frames := 8, cells := 0, slots := 0, locals := 180 } Λ G) (hR : RtI c_Mo_stepBack G Q) (v0 : Nat) (S : QMem) (o0 : qob Λ 10 v0) (h : w_Mo_stepBack Λ v0 S Q) : G 0 [(0, .ref v0)] [] S := by
  have hΛ := hG.lay
  unfold w_Mo_stepBack at h
  refine pw_aload_n (pc := 0) hG d_Mo_stepBack_0 rfl ?_
  refine pw_callv (pc := 1) hG (fun l Δ => ct_Mo_finds l Δ hΛ o0 h) o0 rfl (by decide) m_1037 k_Mo_finds rfl ⟨by decide, by decide⟩ (Nat.le_of_ble_eq_true rfl) d_Mo_stepBack_1 rfl (fun S1 h => ?_)
  refine pw_aload_n (pc := 4) hG d_Mo_stepBack_4 rfl ?_
  refine g10_6 (pc := 5) hG m_808 d_Mo_stepBack_5 o0 ?_
  obtain ⟨hrx8, ha8, hb8⟩ := h
  refine pw_if_ne (tgt := 14) (pc := 8) hG d_Mo_stepBack_8 (by decide) hrx8 (fun hc8 => ?_) (fun hc8 => ?_)
  · replace h := ha8 hc8
    refine pw_aload_n (pc := 14) hG d_Mo_stepBack_14 rfl ?_
    refine pw_aload_n (pc := 15) hG d_Mo_stepBack_15 rfl ?_
    refine g10_6 (pc := 16) hG m_808 d_Mo_stepBack_16 o0 ?_
    refine pw_iconst (pc := 19) hG d_Mo_stepBack_19 ?_
    refine pw_isub (pc := 20) hG d_Mo_stepBack_20 ?_
    refine pw_callv (pc := 21) hG (fun l Δ => ct_Mo_goesTo l Δ hΛ o0 h) o0 rfl (by decide) m_1140 k_Mo_goesTo rfl ⟨by decide, by decide⟩ (Nat.le_of_ble_eq_true rfl) d_Mo_stepBack_21 rfl (fun S21 h => ?_)
    refine pw_aload_n (pc := 24) hG d_Mo_stepBack_24 rfl ?_
    refine g10_6 (pc := 25) hG m_808 d_Mo_stepBack_25 o0 ?_
    exact hR 28 _ _ _ d_Mo_stepBack_28 h
  · replace h := hb8 hc8
    refine pw_bipush (pc := 11) hG d_Mo_stepBack_11 (by decide) ?_
    exact hR 13 _ _ _ d_Mo_stepBack_13 h
theorem ct_Mo_stepBack (l : Launch) (Δ : QDl) {Λ : QLay} (hΛ : LayOk Λ) {v0 : Nat} {S : QMem} {Q : Int → QMem → Prop} (o0 : qob Λ 10 v0) (h : w_Mo_stepBack Λ v0 S Q) : QCt l y_Mo_stepBack c_Mo_stepBack 1 (some .int) 8 180 Δ Λ [.ref v0] S (qI Q) :=
  QCt.mk (own := "TreeDifferModel") hΛ (by decide) rfl rfl (Nat.le_of_ble_eq_true rfl) (fun G hG ri rz rv rj ra => b_Mo_stepBack_0 hG (fun pc lv x S d hq => ri pc lv x S rfl d ⟨x, rfl, hq⟩) v0 S o0 h)
theorem k_Mo_isThere : QVf y_Mo_isThere c_Mo_isThere 2 (some .boolean) "TreeDifferModel" 1 := ⟨m_1212, m_p80, m_11, m_1213, by decide +kernel⟩
theorem b_Mo_isThere_0 {Λ : QLay} {G : Nat → List (Nat × Value) → List Value → QMem → Prop} {Q : Int → QMem → Prop} (hG : QAct c_Mo_isThere "TreeDifferModel" 2 { frames := 0, cells := 0, slots := 0, locals := 0 } Λ G) (hR : RtZ c_Mo_isThere G Q) (v0 : Nat) (v1 : Int) (S : QMem) (o0 : qob Λ 10 v0) (h : w_Mo_isThere Λ v0 v1 S Q) : G 0 [(0, .ref v0), (1, vI v1)] [] S := by
  have hΛ := hG.lay
  unfold w_Mo_isThere at h
  refine pw_iload_n (pc := 0) hG d_Mo_isThere_0 rfl ?_
  refine pw_bipush (pc := 1) hG d_Mo_isThere_1 (by decide) ?_
  obtain ⟨hrx3, ha3, hb3⟩ := h
  refine pw_icmp_eq (tgt := 21) (pc := 3) hG d_Mo_isThere_3 (by decide) hrx3 (q_lit rfl) (fun hc3 => ?_) (fun hc3 => ?_)
  · replace h := ha3 hc3
    refine pw_iconst (pc := 21) hG d_Mo_isThere_21 ?_
    refine pw_goto (tgt := 26) (pc := 22) hG d_Mo_isThere_22 (by decide) ?_
    exact hR 26 _ _ _ d_Mo_isThere_26 (Or.inr rfl) h
  · replace h := hb3 hc3
    refine pw_iload_n (pc := 6) hG d_Mo_isThere_6 rfl ?_
    obtain ⟨hrx7, ha7, hb7⟩ := h
    refine pw_if_lt (tgt := 25) (pc := 7) hG d_Mo_isThere_7 (by decide) hrx7 (fun hc7 => ?_) (fun hc7 => ?_)
    · replace h := ha7 hc7
      refine pw_iconst (pc := 25) hG d_Mo_isThere_25 ?_
      exact hR 26 _ _ _ d_Mo_isThere_26 (Or.inl rfl) h
    · replace h := hb7 hc7
      refine pw_aload_n (pc := 10) hG d_Mo_isThere_10 rfl ?_
      refine g10_25 (pc := 11) hG m_827 d_Mo_isThere_11 o0 ?_
      refine pw_iload_n (pc := 14) hG d_Mo_isThere_14 rfl ?_
      obtain ⟨hi15, h⟩ := h
      refine pw_aI (pc := 15) hG (q_arr hΛ o0 rfl (by decide)) hi15 d_Mo_isThere_15 ?_
      refine pw_bipush (pc := 16) hG d_Mo_isThere_16 (by decide) ?_
      obtain ⟨hrx18, ha18, hb18⟩ := h
      refine pw_icmp_eq (tgt := 25) (pc := 18) hG d_Mo_isThere_18 (by decide) hrx18 (q_lit rfl) (fun hc18 => ?_) (fun hc18 => ?_)
      · replace h := ha18 hc18
        refine pw_iconst (pc := 25) hG d_Mo_isThere_25 ?_
        exact hR 26 _ _ _ d_Mo_isThere_26 (Or.inl rfl) h
      · replace h := hb18 hc18
        refine pw_iconst (pc := 21) hG d_Mo_isThere_21 ?_
        refine pw_goto (tgt := 26) (pc := 22) hG d_Mo_isThere_22 (by decide) ?_
        exact hR 26 _ _ _ d_Mo_isThere_26 (Or.inr rfl) h
theorem ct_Mo_isThere (l : Launch) (Δ : QDl) {Λ : QLay} (hΛ : LayOk Λ) {v0 : Nat} {v1 : Int} {S : QMem} {Q : Int → QMem → Prop} (o0 : qob Λ 10 v0) (h : w_Mo_isThere Λ v0 v1 S Q) : QCt l y_Mo_isThere c_Mo_isThere 2 (some .boolean) 0 0 Δ Λ [.ref v0, vI v1] S (qI Q) :=
  QCt.mk (own := "TreeDifferModel") hΛ (by decide) rfl rfl (Nat.le_of_ble_eq_true rfl) (fun G hG ri rz rv rj ra => b_Mo_isThere_0 hG (fun pc lv x S d hb hq => rz pc lv x S rfl d hb ⟨x, rfl, hq⟩) v0 v1 S o0 h)
theorem k_Mo_workingChild : QVf y_Mo_workingChild c_Mo_workingChild 4 (some .int) "TreeDifferModel" 2 := ⟨m_1207, m_1208, m_11, m_1209, by decide +kernel⟩
theorem b_Mo_workingChild_0 {Λ : QLay} {G : Nat → List (Nat × Value) → List Value → QMem → Prop} {Q : Int → QMem → Prop} (hG : QAct c_Mo_workingChild "TreeDifferModel" 4 { frames := 8, cells := 0, slots := 0, locals := 180 } Λ G) (hR : RtI c_Mo_workingChild G Q) (v0 : Nat) (v1 : Int) (v2 : Int) (S : QMem) (o0 : qob Λ 10 v0) (h : w_Mo_workingChild Λ v0 v1 v2 S Q) : G 0 [(0, .ref v0), (1, vI v1), (2, vI v2)] [] S := by
  have hΛ := hG.lay
  unfold w_Mo_workingChild at h
  refine pw_aload_n (pc := 0) hG d_Mo_workingChild_0 rfl ?_
  refine pw_callv (pc := 1) hG (fun l Δ => ct_Mo_finds l Δ hΛ o0 h) o0 rfl (by decide) m_1037 k_Mo_finds rfl ⟨by decide, by decide⟩ (Nat.le_of_ble_eq_true rfl) d_Mo_workingChild_1 rfl (fun S1 h => ?_)
  refine pw_iload_n (pc := 4) hG d_Mo_workingChild_4 rfl ?_
  refine pw_scalli (pc := 5) hG (fun l Δ => ct_Mo_slot l Δ hΛ  h) m_1144 k_Mo_slot rfl ⟨by decide, by decide⟩ (Nat.le_of_ble_eq_true rfl) d_Mo_workingChild_5 rfl (fun r5 S5 h => ?_)
  refine pw_ist_n (pc := 8) hG d_Mo_workingChild_8 (by decide) rfl ?_
  refine pw_aload_n (pc := 9) hG d_Mo_workingChild_9 rfl ?_
  refine pw_iload_n (pc := 10) hG d_Mo_workingChild_10 rfl ?_
  refine pw_calli (pc := 11) hG (fun l Δ => ct_Mo_isThere l Δ hΛ o0 h) o0 rfl (by decide) m_1210 k_Mo_isThere rfl ⟨by decide, by decide⟩ (Nat.le_of_ble_eq_true rfl) d_Mo_workingChild_11 rfl (fun r11 S11 h => ?_)
  obtain ⟨hrx14, ha14, hb14⟩ := h
  refine pw_if_ne (tgt := 20) (pc := 14) hG d_Mo_workingChild_14 (by decide) hrx14 (fun hc14 => ?_) (fun hc14 => ?_)
  · replace h := ha14 hc14
    refine pw_iload_n (pc := 20) hG d_Mo_workingChild_20 rfl ?_
    refine pw_iconst (pc := 21) hG d_Mo_workingChild_21 ?_
    refine pw_aload_n (pc := 22) hG d_Mo_workingChild_22 rfl ?_
    refine g10_29 (pc := 23) hG m_831 d_Mo_workingChild_23 o0 ?_
    refine pw_iload_n (pc := 26) hG d_Mo_workingChild_26 rfl ?_
    obtain ⟨hi27, h⟩ := h
    refine pw_aI (pc := 27) hG (q_arr hΛ o0 rfl (by decide)) hi27 d_Mo_workingChild_27 ?_
    refine pw_iconst (pc := 28) hG d_Mo_workingChild_28 ?_
    refine pw_isub (pc := 29) hG d_Mo_workingChild_29 ?_
    refine pw_scalli (pc := 30) hG (fun l Δ => ct_Mo_in l Δ hΛ  h) m_942 k_Mo_in rfl ⟨by decide, by decide⟩ (Nat.le_of_ble_eq_true rfl) d_Mo_workingChild_30 rfl (fun r30 S30 h => ?_)
    obtain ⟨hrx33, ha33, hb33⟩ := h
    refine pw_if_eq (tgt := 53) (pc := 33) hG d_Mo_workingChild_33 (by decide) hrx33 (fun hc33 => ?_) (fun hc33 => ?_)
    · replace h := ha33 hc33
      refine pw_bipush (pc := 53) hG d_Mo_workingChild_53 (by decide) ?_
      exact hR 55 _ _ _ d_Mo_workingChild_55 h
    · replace h := hb33 hc33
      refine pw_aload_n (pc := 36) hG d_Mo_workingChild_36 rfl ?_
      refine g10_28 (pc := 37) hG m_830 d_Mo_workingChild_37 o0 ?_
      refine pw_bipush (pc := 40) hG d_Mo_workingChild_40 (by decide) ?_
      refine pw_iload_n (pc := 42) hG d_Mo_workingChild_42 rfl ?_
      refine pw_imul (pc := 43) hG d_Mo_workingChild_43 ?_
      refine pw_iload_n (pc := 44) hG d_Mo_workingChild_44 rfl ?_
      refine pw_iadd (pc := 45) hG d_Mo_workingChild_45 ?_
      obtain ⟨hi46, h⟩ := h
      refine pw_aI (pc := 46) hG (q_arr hΛ o0 rfl (by decide)) hi46 d_Mo_workingChild_46 ?_
      refine pw_scalli (pc := 47) hG (fun l Δ => ct_Mo_number l Δ hΛ  h) m_1125 k_Mo_number rfl ⟨by decide, by decide⟩ (Nat.le_of_ble_eq_true rfl) d_Mo_workingChild_47 rfl (fun r47 S47 h => ?_)
      refine pw_goto (tgt := 55) (pc := 50) hG d_Mo_workingChild_50 (by decide) ?_
      exact hR 55 _ _ _ d_Mo_workingChild_55 h
  · replace h := hb14 hc14
    refine pw_bipush (pc := 17) hG d_Mo_workingChild_17 (by decide) ?_
    exact hR 19 _ _ _ d_Mo_workingChild_19 h
theorem ct_Mo_workingChild (l : Launch) (Δ : QDl) {Λ : QLay} (hΛ : LayOk Λ) {v0 : Nat} {v1 : Int} {v2 : Int} {S : QMem} {Q : Int → QMem → Prop} (o0 : qob Λ 10 v0) (h : w_Mo_workingChild Λ v0 v1 v2 S Q) : QCt l y_Mo_workingChild c_Mo_workingChild 4 (some .int) 8 180 Δ Λ [.ref v0, vI v1, vI v2] S (qI Q) :=
  QCt.mk (own := "TreeDifferModel") hΛ (by decide) rfl rfl (Nat.le_of_ble_eq_true rfl) (fun G hG ri rz rv rj ra => b_Mo_workingChild_0 hG (fun pc lv x S d hq => ri pc lv x S rfl d ⟨x, rfl, hq⟩) v0 v1 v2 S o0 h)
theorem k_Mo_workingNode : QVf y_Mo_workingNode c_Mo_workingNode 4 (some .int) "TreeDifferModel" 2 := ⟨m_1215, m_1216, m_11, m_1217, by decide +kernel⟩
theorem b_Mo_workingNode_0 {Λ : QLay} {G : Nat → List (Nat × Value) → List Value → QMem → Prop} {Q : Int → QMem → Prop} (hG : QAct c_Mo_workingNode "TreeDifferModel" 4 { frames := 8, cells := 0, slots := 0, locals := 180 } Λ G) (hR : RtI c_Mo_workingNode G Q) (v0 : Nat) (v1 : Int) (v2 : Int) (S : QMem) (o0 : qob Λ 10 v0) (h : w_Mo_workingNode Λ v0 v1 v2 S Q) : G 0 [(0, .ref v0), (1, vI v1), (2, vI v2)] [] S := by
  have hΛ := hG.lay
  unfold w_Mo_workingNode at h
  refine pw_aload_n (pc := 0) hG d_Mo_workingNode_0 rfl ?_
  refine pw_callv (pc := 1) hG (fun l Δ => ct_Mo_finds l Δ hΛ o0 h) o0 rfl (by decide) m_1037 k_Mo_finds rfl ⟨by decide, by decide⟩ (Nat.le_of_ble_eq_true rfl) d_Mo_workingNode_1 rfl (fun S1 h => ?_)
  refine pw_iload_n (pc := 4) hG d_Mo_workingNode_4 rfl ?_
  refine pw_scalli (pc := 5) hG (fun l Δ => ct_Mo_slot l Δ hΛ  h) m_1144 k_Mo_slot rfl ⟨by decide, by decide⟩ (Nat.le_of_ble_eq_true rfl) d_Mo_workingNode_5 rfl (fun r5 S5 h => ?_)
  refine pw_ist_n (pc := 8) hG d_Mo_workingNode_8 (by decide) rfl ?_
  refine pw_iload_n (pc := 9) hG d_Mo_workingNode_9 rfl ?_
  refine pw_bipush (pc := 10) hG d_Mo_workingNode_10 (by decide) ?_
  obtain ⟨hrx12, ha12, hb12⟩ := h
  refine pw_icmp_eq (tgt := 23) (pc := 12) hG d_Mo_workingNode_12 (by decide) hrx12 (q_lit rfl) (fun hc12 => ?_) (fun hc12 => ?_)
  · replace h := ha12 hc12
    refine pw_bipush (pc := 23) hG d_Mo_workingNode_23 (by decide) ?_
    exact hR 25 _ _ _ d_Mo_workingNode_25 h
  · replace h := hb12 hc12
    refine pw_aload_n (pc := 15) hG d_Mo_workingNode_15 rfl ?_
    refine pw_iload_n (pc := 16) hG d_Mo_workingNode_16 rfl ?_
    refine pw_calli (pc := 17) hG (fun l Δ => ct_Mo_isThere l Δ hΛ o0 h) o0 rfl (by decide) m_1210 k_Mo_isThere rfl ⟨by decide, by decide⟩ (Nat.le_of_ble_eq_true rfl) d_Mo_workingNode_17 rfl (fun r17 S17 h => ?_)
    obtain ⟨hrx20, ha20, hb20⟩ := h
    refine pw_if_ne (tgt := 26) (pc := 20) hG d_Mo_workingNode_20 (by decide) hrx20 (fun hc20 => ?_) (fun hc20 => ?_)
    · replace h := ha20 hc20
      refine pw_iload_n (pc := 26) hG d_Mo_workingNode_26 rfl ?_
      obtain ⟨hrx27, ha27, hb27⟩ := h
      refine pw_if_ne (tgt := 39) (pc := 27) hG d_Mo_workingNode_27 (by decide) hrx27 (fun hc27 => ?_) (fun hc27 => ?_)
      · replace h := ha27 hc27
        refine pw_iload_n (pc := 39) hG d_Mo_workingNode_39 rfl ?_
        refine pw_iconst (pc := 40) hG d_Mo_workingNode_40 ?_
        obtain ⟨hrx41, ha41, hb41⟩ := h
        refine pw_icmp_ne (tgt := 53) (pc := 41) hG d_Mo_workingNode_41 (by decide) hrx41 (q_lit rfl) (fun hc41 => ?_) (fun hc41 => ?_)
        · replace h := ha41 hc41
          refine pw_iload_n (pc := 53) hG d_Mo_workingNode_53 rfl ?_
          refine pw_iconst (pc := 54) hG d_Mo_workingNode_54 ?_
          obtain ⟨hrx55, ha55, hb55⟩ := h
          refine pw_icmp_ne (tgt := 70) (pc := 55) hG d_Mo_workingNode_55 (by decide) hrx55 (q_lit rfl) (fun hc55 => ?_) (fun hc55 => ?_)
          · replace h := ha55 hc55
            refine pw_bipush (pc := 70) hG d_Mo_workingNode_70 (by decide) ?_
            exact hR 72 _ _ _ d_Mo_workingNode_72 h
          · replace h := hb55 hc55
            refine pw_aload_n (pc := 58) hG d_Mo_workingNode_58 rfl ?_
            refine g10_25 (pc := 59) hG m_827 d_Mo_workingNode_59 o0 ?_
            refine pw_iload_n (pc := 62) hG d_Mo_workingNode_62 rfl ?_
            obtain ⟨hi63, h⟩ := h
            refine pw_aI (pc := 63) hG (q_arr hΛ o0 rfl (by decide)) hi63 d_Mo_workingNode_63 ?_
            refine pw_scalli (pc := 64) hG (fun l Δ => ct_Mo_number l Δ hΛ  h) m_1125 k_Mo_number rfl ⟨by decide, by decide⟩ (Nat.le_of_ble_eq_true rfl) d_Mo_workingNode_64 rfl (fun r64 S64 h => ?_)
            refine pw_goto (tgt := 72) (pc := 67) hG d_Mo_workingNode_67 (by decide) ?_
            exact hR 72 _ _ _ d_Mo_workingNode_72 h
        · replace h := hb41 hc41
          refine pw_aload_n (pc := 44) hG d_Mo_workingNode_44 rfl ?_
          refine g10_27 (pc := 45) hG m_829 d_Mo_workingNode_45 o0 ?_
          refine pw_iload_n (pc := 48) hG d_Mo_workingNode_48 rfl ?_
          obtain ⟨hi49, h⟩ := h
          refine pw_aI (pc := 49) hG (q_arr hΛ o0 rfl (by decide)) hi49 d_Mo_workingNode_49 ?_
          refine pw_goto (tgt := 72) (pc := 50) hG d_Mo_workingNode_50 (by decide) ?_
          exact hR 72 _ _ _ d_Mo_workingNode_72 h
      · replace h := hb27 hc27
        refine pw_aload_n (pc := 30) hG d_Mo_workingNode_30 rfl ?_
        refine g10_26 (pc := 31) hG m_828 d_Mo_workingNode_31 o0 ?_
        refine pw_iload_n (pc := 34) hG d_Mo_workingNode_34 rfl ?_
        obtain ⟨hi35, h⟩ := h
        refine pw_aI (pc := 35) hG (q_arr hΛ o0 rfl (by decide)) hi35 d_Mo_workingNode_35 ?_
        refine pw_goto (tgt := 72) (pc := 36) hG d_Mo_workingNode_36 (by decide) ?_
        exact hR 72 _ _ _ d_Mo_workingNode_72 h
    · replace h := hb20 hc20
      refine pw_bipush (pc := 23) hG d_Mo_workingNode_23 (by decide) ?_
      exact hR 25 _ _ _ d_Mo_workingNode_25 h
theorem ct_Mo_workingNode (l : Launch) (Δ : QDl) {Λ : QLay} (hΛ : LayOk Λ) {v0 : Nat} {v1 : Int} {v2 : Int} {S : QMem} {Q : Int → QMem → Prop} (o0 : qob Λ 10 v0) (h : w_Mo_workingNode Λ v0 v1 v2 S Q) : QCt l y_Mo_workingNode c_Mo_workingNode 4 (some .int) 8 180 Δ Λ [.ref v0, vI v1, vI v2] S (qI Q) :=
  QCt.mk (own := "TreeDifferModel") hΛ (by decide) rfl rfl (Nat.le_of_ble_eq_true rfl) (fun G hG ri rz rv rj ra => b_Mo_workingNode_0 hG (fun pc lv x S d hq => ri pc lv x S rfl d ⟨x, rfl, hq⟩) v0 v1 v2 S o0 h)
theorem k_Mo_sign : QVf y_Mo_sign c_Mo_sign 2 none "TreeDifferModel" 1 := ⟨m_1228, m_p82, m_11, m_1229, by decide +kernel⟩
theorem b_Mo_sign_0 {Λ : QLay} {G : Nat → List (Nat × Value) → List Value → QMem → Prop} {Q : QMem → Prop} (hG : QAct c_Mo_sign "TreeDifferModel" 2 { frames := 0, cells := 0, slots := 0, locals := 0 } Λ G) (hR : RtV c_Mo_sign G Q) (v0 : Nat) (v1 : Int) (S : QMem) (o0 : qob Λ 10 v0) (h : w_Mo_sign Λ v0 v1 S Q) : G 0 [(0, .ref v0), (1, vI v1)] [] S := by
  have hΛ := hG.lay
  unfold w_Mo_sign at h
  refine pw_aload_n (pc := 0) hG d_Mo_sign_0 rfl ?_
  refine g10_41 (pc := 1) hG m_843 d_Mo_sign_1 o0 ?_
  refine pw_aload_n (pc := 4) hG d_Mo_sign_4 rfl ?_
  refine g10_42 (pc := 5) hG m_844 d_Mo_sign_5 o0 ?_
  refine pw_iload_n (pc := 8) hG d_Mo_sign_8 rfl ?_
  obtain ⟨hi9, h⟩ := h
  refine pw_sI (pc := 9) hG (q_arr hΛ o0 rfl (by decide)) hi9 d_Mo_sign_9 (fun S9 eS9 => ?_)
  replace h := h S9 eS9
  refine pw_aload_n (pc := 10) hG d_Mo_sign_10 rfl ?_
  refine pw_dup (pc := 11) hG d_Mo_sign_11 rfl ?_
  refine g10_42 (pc := 12) hG m_844 d_Mo_sign_12 o0 ?_
  refine pw_iconst (pc := 15) hG d_Mo_sign_15 ?_
  refine pw_iadd (pc := 16) hG d_Mo_sign_16 ?_
  refine p10_42 (pc := 17) hG m_844 d_Mo_sign_17 o0 (fun S17 eS17 => ?_)
  replace h := h S17 eS17
  exact hR 20 _ _ d_Mo_sign_20 h
theorem ct_Mo_sign (l : Launch) (Δ : QDl) {Λ : QLay} (hΛ : LayOk Λ) {v0 : Nat} {v1 : Int} {S : QMem} {Q : QMem → Prop} (o0 : qob Λ 10 v0) (h : w_Mo_sign Λ v0 v1 S Q) : QCt l y_Mo_sign c_Mo_sign 2 none 0 0 Δ Λ [.ref v0, vI v1] S (qV Q) :=
  QCt.mk (own := "TreeDifferModel") hΛ (by decide) rfl rfl (Nat.le_of_ble_eq_true rfl) (fun G hG ri rz rv rj ra => b_Mo_sign_0 hG (fun pc lv S d hq => rv pc lv S rfl d ⟨rfl, hq⟩) v0 v1 S o0 h)
theorem k_Mo_writesNode : QVf y_Mo_writesNode c_Mo_writesNode 2 none "TreeDifferModel" 1 := ⟨m_1232, m_p83, m_11, m_1233, by decide +kernel⟩
theorem b_Mo_writesNode_40 {Λ : QLay} {G : Nat → List (Nat × Value) → List Value → QMem → Prop} {Q : QMem → Prop} (hG : QAct c_Mo_writesNode "TreeDifferModel" 2 { frames := 1, cells := 0, slots := 0, locals := 21 } Λ G) (hR : RtV c_Mo_writesNode G Q) (v0 : Nat) (v1 : Int) (S : QMem) (o_v0 : qob Λ 10 v0) (h : w_Mo_writesNode_40 Λ Q v0 v1 S) : G 40 [(0, .ref v0), (1, vI v1)] [] S := by
  have hΛ := hG.lay
  unfold w_Mo_writesNode_40 at h
  refine pw_aload_n (pc := 40) hG d_Mo_writesNode_40 rfl ?_
  refine g10_27 (pc := 41) hG m_829 d_Mo_writesNode_41 o_v0 ?_
  refine pw_iload_n (pc := 44) hG d_Mo_writesNode_44 rfl ?_
  obtain ⟨hi45, h⟩ := h
  refine pw_aI (pc := 45) hG (q_arr hΛ o_v0 rfl (by decide)) hi45 d_Mo_writesNode_45 ?_
  obtain ⟨hrx46, ha46, hb46⟩ := h
  refine pw_if_le (tgt := 65) (pc := 46) hG d_Mo_writesNode_46 (by decide) hrx46 (fun hc46 => ?_) (fun hc46 => ?_)
  · replace h := ha46 hc46
    exact hR 65 _ _ d_Mo_writesNode_65 h
  · replace h := hb46 hc46
    refine pw_aload_n (pc := 49) hG d_Mo_writesNode_49 rfl ?_
    refine pw_bipush (pc := 50) hG d_Mo_writesNode_50 (by decide) ?_
    refine pw_aload_n (pc := 52) hG d_Mo_writesNode_52 rfl ?_
    refine g10_27 (pc := 53) hG m_829 d_Mo_writesNode_53 o_v0 ?_
    refine pw_iload_n (pc := 56) hG d_Mo_writesNode_56 rfl ?_
    obtain ⟨hi57, h⟩ := h
    refine pw_aI (pc := 57) hG (q_arr hΛ o_v0 rfl (by decide)) hi57 d_Mo_writesNode_57 ?_
    refine pw_bipush (pc := 58) hG d_Mo_writesNode_58 (by decide) ?_
    obtain ⟨hx60, h⟩ := h
    refine pw_irem (pc := 60) hG d_Mo_writesNode_60 hx60 ⟨by decide, q_lit rfl⟩ ?_
    refine pw_iadd (pc := 61) hG d_Mo_writesNode_61 ?_
    refine pw_callv (pc := 62) hG (fun l Δ => ct_Mo_sign l Δ hΛ o_v0 h) o_v0 rfl (by decide) m_1226 k_Mo_sign rfl ⟨by decide, by decide⟩ (Nat.le_of_ble_eq_true rfl) d_Mo_writesNode_62 rfl (fun S62 h => ?_)
    exact hR 65 _ _ d_Mo_writesNode_65 h
theorem b_Mo_writesNode_0 {Λ : QLay} {G : Nat → List (Nat × Value) → List Value → QMem → Prop} {Q : QMem → Prop} (hG : QAct c_Mo_writesNode "TreeDifferModel" 2 { frames := 1, cells := 0, slots := 0, locals := 21 } Λ G) (hR : RtV c_Mo_writesNode G Q) (v0 : Nat) (v1 : Int) (S : QMem) (o0 : qob Λ 10 v0) (h : w_Mo_writesNode Λ v0 v1 S Q) : G 0 [(0, .ref v0), (1, vI v1)] [] S := by
  have hΛ := hG.lay
  unfold w_Mo_writesNode at h
  refine pw_aload_n (pc := 0) hG d_Mo_writesNode_0 rfl ?_
  refine pw_bipush (pc := 1) hG d_Mo_writesNode_1 (by decide) ?_
  refine pw_aload_n (pc := 3) hG d_Mo_writesNode_3 rfl ?_
  refine g10_26 (pc := 4) hG m_828 d_Mo_writesNode_4 o0 ?_
  refine pw_iload_n (pc := 7) hG d_Mo_writesNode_7 rfl ?_
  obtain ⟨hi8, h⟩ := h
  refine pw_aI (pc := 8) hG (q_arr hΛ o0 rfl (by decide)) hi8 d_Mo_writesNode_8 ?_
  refine pw_iadd (pc := 9) hG d_Mo_writesNode_9 ?_
  refine pw_callv (pc := 10) hG (fun l Δ => ct_Mo_sign l Δ hΛ o0 h) o0 rfl (by decide) m_1226 k_Mo_sign rfl ⟨by decide, by decide⟩ (Nat.le_of_ble_eq_true rfl) d_Mo_writesNode_10 rfl (fun S10 h => ?_)
  refine pw_aload_n (pc := 13) hG d_Mo_writesNode_13 rfl ?_
  refine g10_27 (pc := 14) hG m_829 d_Mo_writesNode_14 o0 ?_
  refine pw_iload_n (pc := 17) hG d_Mo_writesNode_17 rfl ?_
  obtain ⟨hi18, h⟩ := h
  refine pw_aI (pc := 18) hG (q_arr hΛ o0 rfl (by decide)) hi18 d_Mo_writesNode_18 ?_
  refine pw_bipush (pc := 19) hG d_Mo_writesNode_19 (by decide) ?_
  obtain ⟨hrx21, ha21, hb21⟩ := h
  refine pw_icmp_le (tgt := 40) (pc := 21) hG d_Mo_writesNode_21 (by decide) hrx21 (q_lit rfl) (fun hc21 => ?_) (fun hc21 => ?_)
  · replace h := ha21 hc21
    exact pw_sub hG [0, 1] rfl (b_Mo_writesNode_40 hG hR v0 v1 S10 o0 h)
  · replace h := hb21 hc21
    refine pw_aload_n (pc := 24) hG d_Mo_writesNode_24 rfl ?_
    refine pw_bipush (pc := 25) hG d_Mo_writesNode_25 (by decide) ?_
    refine pw_aload_n (pc := 27) hG d_Mo_writesNode_27 rfl ?_
    refine g10_27 (pc := 28) hG m_829 d_Mo_writesNode_28 o0 ?_
    refine pw_iload_n (pc := 31) hG d_Mo_writesNode_31 rfl ?_
    obtain ⟨hi32, h⟩ := h
    refine pw_aI (pc := 32) hG (q_arr hΛ o0 rfl (by decide)) hi32 d_Mo_writesNode_32 ?_
    refine pw_bipush (pc := 33) hG d_Mo_writesNode_33 (by decide) ?_
    obtain ⟨hx35, h⟩ := h
    refine pw_idiv (pc := 35) hG d_Mo_writesNode_35 hx35 ⟨by decide, q_lit rfl⟩ ?_
    refine pw_iadd (pc := 36) hG d_Mo_writesNode_36 ?_
    refine pw_callv (pc := 37) hG (fun l Δ => ct_Mo_sign l Δ hΛ o0 h) o0 rfl (by decide) m_1226 k_Mo_sign rfl ⟨by decide, by decide⟩ (Nat.le_of_ble_eq_true rfl) d_Mo_writesNode_37 rfl (fun S37 h => ?_)
    exact pw_sub hG [0, 1] rfl (b_Mo_writesNode_40 hG hR v0 v1 S37 o0 h)
theorem ct_Mo_writesNode (l : Launch) (Δ : QDl) {Λ : QLay} (hΛ : LayOk Λ) {v0 : Nat} {v1 : Int} {S : QMem} {Q : QMem → Prop} (o0 : qob Λ 10 v0) (h : w_Mo_writesNode Λ v0 v1 S Q) : QCt l y_Mo_writesNode c_Mo_writesNode 2 none 1 21 Δ Λ [.ref v0, vI v1] S (qV Q) :=
  QCt.mk (own := "TreeDifferModel") hΛ (by decide) rfl rfl (Nat.le_of_ble_eq_true rfl) (fun G hG ri rz rv rj ra => b_Mo_writesNode_0 hG (fun pc lv S d hq => rv pc lv S rfl d ⟨rfl, hq⟩) v0 v1 S o0 h)
theorem k_Mo_drafts : QVf y_Mo_drafts c_Mo_drafts 4 none "TreeDifferModel" 0 := ⟨m_1224, m_p81, m_11, m_1225, by decide +kernel⟩
theorem b_Mo_drafts_101 {Λ : QLay} {G : Nat → List (Nat × Value) → List Value → QMem → Prop} {Q : QMem → Prop} (hG : QAct c_Mo_drafts "TreeDifferModel" 4 { frames := 2, cells := 0, slots := 0, locals := 42 } Λ G) (hR : RtV c_Mo_drafts G Q) {K22 : Nat → Int → QMem → Prop} (hK22 : ∀ (v0 : Nat) (v1 : Int) (S : QMem), qob Λ 10 v0 → K22 v0 v1 S → G 22 [(0, .ref v0), (1, vI v1)] [] S) (v0 : Nat) (v1 : Int) (v2 : Int) (v3 : Int) (S : QMem) (o_v0 : qob Λ 10 v0) (h : w_Mo_drafts_101 Λ K22 Q v0 v1 v2 v3 S) : G 101 [(0, .ref v0), (1, vI v1), (2, vI v2), (3, vI v3)] [] S := by
  have hΛ := hG.lay
  unfold w_Mo_drafts_101 at h
  refine pw_aload_n (pc := 101) hG d_Mo_drafts_101 rfl ?_
  refine g10_44 (pc := 102) hG m_846 d_Mo_drafts_102 o_v0 ?_
  refine pw_iload_n (pc := 105) hG d_Mo_drafts_105 rfl ?_
  refine pw_iconst (pc := 106) hG d_Mo_drafts_106 ?_
  refine pw_isub (pc := 107) hG d_Mo_drafts_107 ?_
  refine pw_dup2 (pc := 108) hG d_Mo_drafts_108 rfl rfl ?_
  obtain ⟨hi109, h⟩ := h
  refine pw_aI (pc := 109) hG (q_arr hΛ o_v0 rfl (by decide)) hi109 d_Mo_drafts_109 ?_
  refine pw_iconst (pc := 110) hG d_Mo_drafts_110 ?_
  refine pw_iadd (pc := 111) hG d_Mo_drafts_111 ?_
  obtain ⟨hi112, h⟩ := h
  refine pw_sI (pc := 112) hG (q_arr hΛ o_v0 rfl (by decide)) hi112 d_Mo_drafts_112 (fun S112 eS112 => ?_)
  replace h := h S112 eS112
  refine pw_aload_n (pc := 113) hG d_Mo_drafts_113 rfl ?_
  refine g10_43 (pc := 114) hG m_845 d_Mo_drafts_114 o_v0 ?_
  refine pw_iload_n (pc := 117) hG d_Mo_drafts_117 rfl ?_
  refine pw_aload_n (pc := 118) hG d_Mo_drafts_118 rfl ?_
  refine g10_28 (pc := 119) hG m_830 d_Mo_drafts_119 o_v0 ?_
  refine pw_bipush (pc := 122) hG d_Mo_drafts_122 (by decide) ?_
  refine pw_iload_n (pc := 124) hG d_Mo_drafts_124 rfl ?_
  refine pw_imul (pc := 125) hG d_Mo_drafts_125 ?_
  refine pw_iload_n (pc := 126) hG d_Mo_drafts_126 rfl ?_
  refine pw_iadd (pc := 127) hG d_Mo_drafts_127 ?_
  obtain ⟨hi128, h⟩ := h
  refine pw_aI (pc := 128) hG (q_arr hΛ o_v0 rfl (by decide)) hi128 d_Mo_drafts_128 ?_
  obtain ⟨hi129, h⟩ := h
  refine pw_sI (pc := 129) hG (q_arr hΛ o_v0 rfl (by decide)) hi129 d_Mo_drafts_129 (fun S129 eS129 => ?_)
  replace h := h S129 eS129
  refine pw_aload_n (pc := 130) hG d_Mo_drafts_130 rfl ?_
  refine g10_44 (pc := 131) hG m_846 d_Mo_drafts_131 o_v0 ?_
  refine pw_iload_n (pc := 134) hG d_Mo_drafts_134 rfl ?_
  refine pw_iconst (pc := 135) hG d_Mo_drafts_135 ?_
  obtain ⟨hi136, h⟩ := h
  refine pw_sI (pc := 136) hG (q_arr hΛ o_v0 rfl (by decide)) hi136 d_Mo_drafts_136 (fun S136 eS136 => ?_)
  replace h := h S136 eS136
  refine pw_aload_n (pc := 137) hG d_Mo_drafts_137 rfl ?_
  refine pw_aload_n (pc := 138) hG d_Mo_drafts_138 rfl ?_
  refine g10_43 (pc := 139) hG m_845 d_Mo_drafts_139 o_v0 ?_
  refine pw_iload_n (pc := 142) hG d_Mo_drafts_142 rfl ?_
  obtain ⟨hi143, h⟩ := h
  refine pw_aI (pc := 143) hG (q_arr hΛ o_v0 rfl (by decide)) hi143 d_Mo_drafts_143 ?_
  refine pw_callv (pc := 144) hG (fun l Δ => ct_Mo_writesNode l Δ hΛ o_v0 h) o_v0 rfl (by decide) m_1230 k_Mo_writesNode rfl ⟨by decide, by decide⟩ (Nat.le_of_ble_eq_true rfl) d_Mo_drafts_144 rfl (fun S144 h => ?_)
  refine pw_iinc0 (pc := 147) hG d_Mo_drafts_147 rfl (by decide) rfl ?_
  refine pw_goto (tgt := 22) (pc := 150) hG d_Mo_drafts_150 (by decide) ?_
  exact pw_sub hG [0, 1] rfl (hK22 v0 (v1 + 1) S144 o_v0 h)
theorem b_Mo_drafts_98 {Λ : QLay} {G : Nat → List (Nat × Value) → List Value → QMem → Prop} {Q : QMem → Prop} (hG : QAct c_Mo_drafts "TreeDifferModel" 4 { frames := 2, cells := 0, slots := 0, locals := 42 } Λ G) (hR : RtV c_Mo_drafts G Q) {K22 : Nat → Int → QMem → Prop} (hK22 : ∀ (v0 : Nat) (v1 : Int) (S : QMem), qob Λ 10 v0 → K22 v0 v1 S → G 22 [(0, .ref v0), (1, vI v1)] [] S) (v0 : Nat) (v1 : Int) (v2 : Int) (v3 : Int) (s0 : Nat) (s1 : Int) (S : QMem) (o_v0 : qob Λ 10 v0) (o_s0 : qob Λ 10 s0) (h : w_Mo_drafts_98 Λ K22 Q v0 v1 v2 v3 s0 s1 S) : G 98 [(0, .ref v0), (1, vI v1), (2, vI v2), (3, vI v3)] [vI s1, .ref s0] S := by
  have hΛ := hG.lay
  unfold w_Mo_drafts_98 at h
  refine pw_callv (pc := 98) hG (fun l Δ => ct_Mo_sign l Δ hΛ o_s0 h) o_s0 rfl (by decide) m_1226 k_Mo_sign rfl ⟨by decide, by decide⟩ (Nat.le_of_ble_eq_true rfl) d_Mo_drafts_98 rfl (fun S98 h => ?_)
  exact pw_sub hG [0, 1, 2, 3] rfl (b_Mo_drafts_101 hG hR hK22 v0 v1 v2 v3 S98 o_v0 h)
theorem b_Mo_drafts_86 {Λ : QLay} {G : Nat → List (Nat × Value) → List Value → QMem → Prop} {Q : QMem → Prop} (hG : QAct c_Mo_drafts "TreeDifferModel" 4 { frames := 2, cells := 0, slots := 0, locals := 42 } Λ G) (hR : RtV c_Mo_drafts G Q) {K22 : Nat → Int → QMem → Prop} (hK22 : ∀ (v0 : Nat) (v1 : Int) (S : QMem), qob Λ 10 v0 → K22 v0 v1 S → G 22 [(0, .ref v0), (1, vI v1)] [] S) (v0 : Nat) (v1 : Int) (v2 : Int) (v3 : Int) (S : QMem) (o_v0 : qob Λ 10 v0) (h : w_Mo_drafts_86 Λ K22 Q v0 v1 v2 v3 S) : G 86 [(0, .ref v0), (1, vI v1), (2, vI v2), (3, vI v3)] [] S := by
  have hΛ := hG.lay
  unfold w_Mo_drafts_86 at h
  refine pw_aload_n (pc := 86) hG d_Mo_drafts_86 rfl ?_
  refine pw_iload_n (pc := 87) hG d_Mo_drafts_87 rfl ?_
  obtain ⟨hrx88, ha88, hb88⟩ := h
  refine pw_if_le (tgt := 96) (pc := 88) hG d_Mo_drafts_88 (by decide) hrx88 (fun hc88 => ?_) (fun hc88 => ?_)
  · replace h := ha88 hc88
    refine pw_bipush (pc := 96) hG d_Mo_drafts_96 (by decide) ?_
    exact pw_sub hG [0, 1, 2, 3] rfl (b_Mo_drafts_98 hG hR hK22 v0 v1 v2 v3 v0 40 S o_v0 o_v0 h)
  · replace h := hb88 hc88
    refine pw_bipush (pc := 91) hG d_Mo_drafts_91 (by decide) ?_
    refine pw_goto (tgt := 98) (pc := 93) hG d_Mo_drafts_93 (by decide) ?_
    exact pw_sub hG [0, 1, 2, 3] rfl (b_Mo_drafts_98 hG hR hK22 v0 v1 v2 v3 v0 32 S o_v0 o_v0 h)
theorem b_Mo_drafts_22 {Λ : QLay} {G : Nat → List (Nat × Value) → List Value → QMem → Prop} {Q : QMem → Prop} (hG : QAct c_Mo_drafts "TreeDifferModel" 4 { frames := 2, cells := 0, slots := 0, locals := 42 } Λ G) (hR : RtV c_Mo_drafts G Q) : ∀ (n : Nat) (v0 : Nat) (v1 : Int) (S : QMem), qob Λ 10 v0 → w_Mo_drafts_22 Λ Q n v0 v1 S → G 22 [(0, .ref v0), (1, vI v1)] [] S := by
  have hΛ := hG.lay
  intro n
  induction n with
  | zero => intro v0 v1 S o_v0 h; exact h.elim
  | succ n ih =>
    intro v0 v1 S o_v0 h
    rw [w_Mo_drafts_22] at h
    refine pw_iload_n (pc := 22) hG d_Mo_drafts_22 rfl ?_
    obtain ⟨hrx23, ha23, hb23⟩ := h
    refine pw_if_le (tgt := 153) (pc := 23) hG d_Mo_drafts_23 (by decide) hrx23 (fun hc23 => ?_) (fun hc23 => ?_)
    · replace h := ha23 hc23
      exact hR 153 _ _ d_Mo_drafts_153 h
    · replace h := hb23 hc23
      refine pw_aload_n (pc := 26) hG d_Mo_drafts_26 rfl ?_
      refine g10_43 (pc := 27) hG m_845 d_Mo_drafts_27 o_v0 ?_
      refine pw_iload_n (pc := 30) hG d_Mo_drafts_30 rfl ?_
      refine pw_iconst (pc := 31) hG d_Mo_drafts_31 ?_
      refine pw_isub (pc := 32) hG d_Mo_drafts_32 ?_
      obtain ⟨hi33, h⟩ := h
      refine pw_aI (pc := 33) hG (q_arr hΛ o_v0 rfl (by decide)) hi33 d_Mo_drafts_33 ?_
      refine pw_istore_n (pc := 34) hG d_Mo_drafts_34 (by decide) (fun x34 ex34 => ⟨_, rfl, ?_⟩)
      replace h := h x34 ex34
      refine pw_aload_n (pc := 35) hG d_Mo_drafts_35 rfl ?_
      refine g10_44 (pc := 36) hG m_846 d_Mo_drafts_36 o_v0 ?_
      refine pw_iload_n (pc := 39) hG d_Mo_drafts_39 rfl ?_
      refine pw_iconst (pc := 40) hG d_Mo_drafts_40 ?_
      refine pw_isub (pc := 41) hG d_Mo_drafts_41 ?_
      obtain ⟨hi42, h⟩ := h
      refine pw_aI (pc := 42) hG (q_arr hΛ o_v0 rfl (by decide)) hi42 d_Mo_drafts_42 ?_
      refine pw_istore_n (pc := 43) hG d_Mo_drafts_43 (by decide) (fun x43 ex43 => ⟨_, rfl, ?_⟩)
      replace h := h x43 ex43
      refine pw_iload_n (pc := 44) hG d_Mo_drafts_44 rfl ?_
      refine pw_aload_n (pc := 45) hG d_Mo_drafts_45 rfl ?_
      refine g10_29 (pc := 46) hG m_831 d_Mo_drafts_46 o_v0 ?_
      refine pw_iload_n (pc := 49) hG d_Mo_drafts_49 rfl ?_
      obtain ⟨hi50, h⟩ := h
      refine pw_aI (pc := 50) hG (q_arr hΛ o_v0 rfl (by decide)) hi50 d_Mo_drafts_50 ?_
      obtain ⟨hrx51, hry51, ha51, hb51⟩ := h
      refine pw_icmp_ne (tgt := 76) (pc := 51) hG d_Mo_drafts_51 (by decide) hrx51 hry51 (fun hc51 => ?_) (fun hc51 => ?_)
      · replace h := ha51 hc51
        refine pw_iload_n (pc := 76) hG d_Mo_drafts_76 rfl ?_
        obtain ⟨hrx77, ha77, hb77⟩ := h
        refine pw_if_gt (tgt := 86) (pc := 77) hG d_Mo_drafts_77 (by decide) hrx77 (fun hc77 => ?_) (fun hc77 => ?_)
        · replace h := ha77 hc77
          exact pw_sub hG [0, 1, 2, 3] rfl (b_Mo_drafts_86 hG hR ih v0 v1 x34 x43 S o_v0 h)
        · replace h := hb77 hc77
          refine pw_iload_n (pc := 80) hG d_Mo_drafts_80 rfl ?_
          refine pw_bipush (pc := 81) hG d_Mo_drafts_81 (by decide) ?_
          obtain ⟨hrx83, ha83, hb83⟩ := h
          refine pw_icmp_eq (tgt := 101) (pc := 83) hG d_Mo_drafts_83 (by decide) hrx83 (q_lit rfl) (fun hc83 => ?_) (fun hc83 => ?_)
          · replace h := ha83 hc83
            exact pw_sub hG [0, 1, 2, 3] rfl (b_Mo_drafts_101 hG hR ih v0 v1 x34 x43 S o_v0 h)
          · replace h := hb83 hc83
            exact pw_sub hG [0, 1, 2, 3] rfl (b_Mo_drafts_86 hG hR ih v0 v1 x34 x43 S o_v0 h)
      · replace h := hb51 hc51
        refine pw_iload_n (pc := 54) hG d_Mo_drafts_54 rfl ?_
        refine pw_bipush (pc := 55) hG d_Mo_drafts_55 (by decide) ?_
        obtain ⟨hrx57, ha57, hb57⟩ := h
        refine pw_icmp_eq (tgt := 70) (pc := 57) hG d_Mo_drafts_57 (by decide) hrx57 (q_lit rfl) (fun hc57 => ?_) (fun hc57 => ?_)
        · replace h := ha57 hc57
          refine pw_iinc0 (pc := 70) hG d_Mo_drafts_70 rfl (by decide) rfl ?_
          refine pw_goto (tgt := 150) (pc := 73) hG d_Mo_drafts_73 (by decide) ?_
          refine pw_goto (tgt := 22) (pc := 150) hG d_Mo_drafts_150 (by decide) ?_
          exact pw_sub hG [0, 1] rfl (ih v0 (v1 + (-1)) S o_v0 h)
        · replace h := hb57 hc57
          refine pw_iload_n (pc := 60) hG d_Mo_drafts_60 rfl ?_
          obtain ⟨hrx61, ha61, hb61⟩ := h
          refine pw_if_le (tgt := 70) (pc := 61) hG d_Mo_drafts_61 (by decide) hrx61 (fun hc61 => ?_) (fun hc61 => ?_)
          · replace h := ha61 hc61
            refine pw_iinc0 (pc := 70) hG d_Mo_drafts_70 rfl (by decide) rfl ?_
            refine pw_goto (tgt := 150) (pc := 73) hG d_Mo_drafts_73 (by decide) ?_
            refine pw_goto (tgt := 22) (pc := 150) hG d_Mo_drafts_150 (by decide) ?_
            exact pw_sub hG [0, 1] rfl (ih v0 (v1 + (-1)) S o_v0 h)
          · replace h := hb61 hc61
            refine pw_aload_n (pc := 64) hG d_Mo_drafts_64 rfl ?_
            refine pw_bipush (pc := 65) hG d_Mo_drafts_65 (by decide) ?_
            refine pw_callv (pc := 67) hG (fun l Δ => ct_Mo_sign l Δ hΛ o_v0 h) o_v0 rfl (by decide) m_1226 k_Mo_sign rfl ⟨by decide, by decide⟩ (Nat.le_of_ble_eq_true rfl) d_Mo_drafts_67 rfl (fun S67 h => ?_)
            refine pw_iinc0 (pc := 70) hG d_Mo_drafts_70 rfl (by decide) rfl ?_
            refine pw_goto (tgt := 150) (pc := 73) hG d_Mo_drafts_73 (by decide) ?_
            refine pw_goto (tgt := 22) (pc := 150) hG d_Mo_drafts_150 (by decide) ?_
            exact pw_sub hG [0, 1] rfl (ih v0 (v1 + (-1)) S67 o_v0 h)
theorem b_Mo_drafts_0 {Λ : QLay} {G : Nat → List (Nat × Value) → List Value → QMem → Prop} {Q : QMem → Prop} (hG : QAct c_Mo_drafts "TreeDifferModel" 4 { frames := 2, cells := 0, slots := 0, locals := 42 } Λ G) (hR : RtV c_Mo_drafts G Q) (v0 : Nat) (S : QMem) (o0 : qob Λ 10 v0) (h : w_Mo_drafts Λ v0 S Q) : G 0 [(0, .ref v0)] [] S := by
  have hΛ := hG.lay
  unfold w_Mo_drafts at h
  refine pw_aload_n (pc := 0) hG d_Mo_drafts_0 rfl ?_
  refine pw_iconst (pc := 1) hG d_Mo_drafts_1 ?_
  refine p10_42 (pc := 2) hG m_844 d_Mo_drafts_2 o0 (fun S2 eS2 => ?_)
  replace h := h S2 eS2
  refine pw_iconst (pc := 5) hG d_Mo_drafts_5 ?_
  refine pw_ist_n (pc := 6) hG d_Mo_drafts_6 (by decide) rfl ?_
  refine pw_aload_n (pc := 7) hG d_Mo_drafts_7 rfl ?_
  refine g10_43 (pc := 8) hG m_845 d_Mo_drafts_8 o0 ?_
  refine pw_iconst (pc := 11) hG d_Mo_drafts_11 ?_
  refine pw_bipush (pc := 12) hG d_Mo_drafts_12 (by decide) ?_
  refine pw_sI (pc := 14) hG (q_arr hΛ o0 rfl (by decide)) (by decide) d_Mo_drafts_14 (fun S14 eS14 => ?_)
  replace h := h S14 eS14
  refine pw_aload_n (pc := 15) hG d_Mo_drafts_15 rfl ?_
  refine g10_44 (pc := 16) hG m_846 d_Mo_drafts_16 o0 ?_
  refine pw_iconst (pc := 19) hG d_Mo_drafts_19 ?_
  refine pw_iconst (pc := 20) hG d_Mo_drafts_20 ?_
  refine pw_sI (pc := 21) hG (q_arr hΛ o0 rfl (by decide)) (by decide) d_Mo_drafts_21 (fun S21 eS21 => ?_)
  replace h := h S21 eS21
  obtain ⟨n21, h⟩ := h
  exact pw_sub hG [0, 1] rfl (b_Mo_drafts_22 hG hR n21 v0 1 S21 o0 h)
theorem ct_Mo_drafts (l : Launch) (Δ : QDl) {Λ : QLay} (hΛ : LayOk Λ) {v0 : Nat} {S : QMem} {Q : QMem → Prop} (o0 : qob Λ 10 v0) (h : w_Mo_drafts Λ v0 S Q) : QCt l y_Mo_drafts c_Mo_drafts 4 none 2 42 Δ Λ [.ref v0] S (qV Q) :=
  QCt.mk (own := "TreeDifferModel") hΛ (by decide) rfl rfl (Nat.le_of_ble_eq_true rfl) (fun G hG ri rz rv rj ra => b_Mo_drafts_0 hG (fun pc lv S d hq => rv pc lv S rfl d ⟨rfl, hq⟩) v0 S o0 h)
theorem k_Mo_print : QVf y_Mo_print c_Mo_print 3 (some .int) "TreeDifferModel" 1 := ⟨m_1219, m_1220, m_11, m_1221, by decide +kernel⟩
theorem b_Mo_print_40 {Λ : QLay} {G : Nat → List (Nat × Value) → List Value → QMem → Prop} {Q : Int → QMem → Prop} (hG : QAct c_Mo_print "TreeDifferModel" 3 { frames := 8, cells := 0, slots := 0, locals := 180 } Λ G) (hR : RtI c_Mo_print G Q) : ∀ (n : Nat) (v0 : Nat) (v2 : Int) (S : QMem), qob Λ 10 v0 → w_Mo_print_40 Λ Q n v0 v2 S → G 40 [(0, .ref v0), (2, vI v2)] [] S := by
  have hΛ := hG.lay
  intro n
  induction n with
  | zero => intro v0 v2 S o_v0 h; exact h.elim
  | succ n ih =>
    intro v0 v2 S o_v0 h
    rw [w_Mo_print_40] at h
    refine pw_iload_n (pc := 40) hG d_Mo_print_40 rfl ?_
    refine pw_aload_n (pc := 41) hG d_Mo_print_41 rfl ?_
    refine g10_42 (pc := 42) hG m_844 d_Mo_print_42 o_v0 ?_
    obtain ⟨hrx45, hry45, ha45, hb45⟩ := h
    refine pw_icmp_ge (tgt := 66) (pc := 45) hG d_Mo_print_45 (by decide) hrx45 hry45 (fun hc45 => ?_) (fun hc45 => ?_)
    · replace h := ha45 hc45
      refine pw_aload_n (pc := 66) hG d_Mo_print_66 rfl ?_
      refine pw_aload_n (pc := 67) hG d_Mo_print_67 rfl ?_
      refine g10_42 (pc := 68) hG m_844 d_Mo_print_68 o_v0 ?_
      refine p10_12 (pc := 71) hG m_814 d_Mo_print_71 o_v0 (fun S71 eS71 => ?_)
      replace h := h S71 eS71
      refine pw_aload_n (pc := 74) hG d_Mo_print_74 rfl ?_
      refine g10_12 (pc := 75) hG m_814 d_Mo_print_75 o_v0 ?_
      exact hR 78 _ _ _ d_Mo_print_78 h
    · replace h := hb45 hc45
      refine pw_aload_n (pc := 48) hG d_Mo_print_48 rfl ?_
      refine g10_11 (pc := 49) hG m_813 d_Mo_print_49 o_v0 ?_
      refine pw_iload_n (pc := 52) hG d_Mo_print_52 rfl ?_
      refine pw_aload_n (pc := 53) hG d_Mo_print_53 rfl ?_
      refine g10_41 (pc := 54) hG m_843 d_Mo_print_54 o_v0 ?_
      refine pw_iload_n (pc := 57) hG d_Mo_print_57 rfl ?_
      obtain ⟨hi58, h⟩ := h
      refine pw_aI (pc := 58) hG (q_arr hΛ o_v0 rfl (by decide)) hi58 d_Mo_print_58 ?_
      obtain ⟨hi59, h⟩ := h
      refine pw_sI (pc := 59) hG (q_arr hΛ o_v0 rfl (by decide)) hi59 d_Mo_print_59 (fun S59 eS59 => ?_)
      replace h := h S59 eS59
      refine pw_iinc0 (pc := 60) hG d_Mo_print_60 rfl (by decide) rfl ?_
      refine pw_goto (tgt := 40) (pc := 63) hG d_Mo_print_63 (by decide) ?_
      exact pw_sub hG [0, 2] rfl (ih v0 (v2 + 1) S59 o_v0 h)
theorem b_Mo_print_26 {Λ : QLay} {G : Nat → List (Nat × Value) → List Value → QMem → Prop} {Q : Int → QMem → Prop} (hG : QAct c_Mo_print "TreeDifferModel" 3 { frames := 8, cells := 0, slots := 0, locals := 180 } Λ G) (hR : RtI c_Mo_print G Q) (v0 : Nat) (S : QMem) (o_v0 : qob Λ 10 v0) (h : w_Mo_print_26 Λ Q v0 S) : G 26 [(0, .ref v0)] [] S := by
  have hΛ := hG.lay
  unfold w_Mo_print_26 at h
  refine pw_aload_n (pc := 26) hG d_Mo_print_26 rfl ?_
  refine pw_callv (pc := 27) hG (fun l Δ => ct_Mo_drafts l Δ hΛ o_v0 h) o_v0 rfl (by decide) m_1222 k_Mo_drafts rfl ⟨by decide, by decide⟩ (Nat.le_of_ble_eq_true rfl) d_Mo_print_27 rfl (fun S27 h => ?_)
  refine pw_aload_n (pc := 30) hG d_Mo_print_30 rfl ?_
  refine pw_aload_n (pc := 31) hG d_Mo_print_31 rfl ?_
  refine g10_6 (pc := 32) hG m_808 d_Mo_print_32 o_v0 ?_
  refine pw_callv (pc := 35) hG (fun l Δ => ct_Mo_goesTo l Δ hΛ o_v0 h) o_v0 rfl (by decide) m_1140 k_Mo_goesTo rfl ⟨by decide, by decide⟩ (Nat.le_of_ble_eq_true rfl) d_Mo_print_35 rfl (fun S35 h => ?_)
  refine pw_iconst (pc := 38) hG d_Mo_print_38 ?_
  refine pw_ist_n (pc := 39) hG d_Mo_print_39 (by decide) rfl ?_
  obtain ⟨n39, h⟩ := h
  exact pw_sub hG [0, 2] rfl (b_Mo_print_40 hG hR n39 v0 0 S35 o_v0 h)
theorem b_Mo_print_0 {Λ : QLay} {G : Nat → List (Nat × Value) → List Value → QMem → Prop} {Q : Int → QMem → Prop} (hG : QAct c_Mo_print "TreeDifferModel" 3 { frames := 8, cells := 0, slots := 0, locals := 180 } Λ G) (hR : RtI c_Mo_print G Q) (v0 : Nat) (v1 : Int) (S : QMem) (o0 : qob Λ 10 v0) (h : w_Mo_print Λ v0 v1 S Q) : G 0 [(0, .ref v0), (1, vI v1)] [] S := by
  have hΛ := hG.lay
  unfold w_Mo_print at h
  refine pw_iload_n (pc := 0) hG d_Mo_print_0 rfl ?_
  refine pw_iconst (pc := 1) hG d_Mo_print_1 ?_
  refine pw_iconst (pc := 2) hG d_Mo_print_2 ?_
  refine pw_scalli (pc := 3) hG (fun l Δ => ct_Mo_in l Δ hΛ  h) m_942 k_Mo_in rfl ⟨by decide, by decide⟩ (Nat.le_of_ble_eq_true rfl) d_Mo_print_3 rfl (fun r3 S3 h => ?_)
  obtain ⟨hrx6, ha6, hb6⟩ := h
  refine pw_if_ne (tgt := 12) (pc := 6) hG d_Mo_print_6 (by decide) hrx6 (fun hc6 => ?_) (fun hc6 => ?_)
  · replace h := ha6 hc6
    refine pw_aload_n (pc := 12) hG d_Mo_print_12 rfl ?_
    refine pw_callv (pc := 13) hG (fun l Δ => ct_Mo_finds l Δ hΛ o0 h) o0 rfl (by decide) m_1037 k_Mo_finds rfl ⟨by decide, by decide⟩ (Nat.le_of_ble_eq_true rfl) d_Mo_print_13 rfl (fun S13 h => ?_)
    refine pw_iload_n (pc := 16) hG d_Mo_print_16 rfl ?_
    refine pw_iconst (pc := 17) hG d_Mo_print_17 ?_
    obtain ⟨hrx18, ha18, hb18⟩ := h
    refine pw_icmp_ge (tgt := 26) (pc := 18) hG d_Mo_print_18 (by decide) hrx18 (q_lit rfl) (fun hc18 => ?_) (fun hc18 => ?_)
    · replace h := ha18 hc18
      exact pw_sub hG [0] rfl (b_Mo_print_26 hG hR v0 S13 o0 h)
    · replace h := hb18 hc18
      refine pw_aload_n (pc := 21) hG d_Mo_print_21 rfl ?_
      refine pw_iload_n (pc := 22) hG d_Mo_print_22 rfl ?_
      refine pw_callv (pc := 23) hG (fun l Δ => ct_Mo_copyBegins l Δ hΛ o0 h) o0 rfl (by decide) m_1089 k_Mo_copyBegins rfl ⟨by decide, by decide⟩ (Nat.le_of_ble_eq_true rfl) d_Mo_print_23 rfl (fun S23 h => ?_)
      exact pw_sub hG [0] rfl (b_Mo_print_26 hG hR v0 S23 o0 h)
  · replace h := hb6 hc6
    refine pw_bipush (pc := 9) hG d_Mo_print_9 (by decide) ?_
    exact hR 11 _ _ _ d_Mo_print_11 h
theorem ct_Mo_print (l : Launch) (Δ : QDl) {Λ : QLay} (hΛ : LayOk Λ) {v0 : Nat} {v1 : Int} {S : QMem} {Q : Int → QMem → Prop} (o0 : qob Λ 10 v0) (h : w_Mo_print Λ v0 v1 S Q) : QCt l y_Mo_print c_Mo_print 3 (some .int) 8 180 Δ Λ [.ref v0, vI v1] S (qI Q) :=
  QCt.mk (own := "TreeDifferModel") hΛ (by decide) rfl rfl (Nat.le_of_ble_eq_true rfl) (fun G hG ri rz rv rj ra => b_Mo_print_0 hG (fun pc lv x S d hq => ri pc lv x S rfl d ⟨x, rfl, hq⟩) v0 v1 S o0 h)
theorem k_Mo_printed : QVf y_Mo_printed c_Mo_printed 2 (some .int) "TreeDifferModel" 1 := ⟨m_1235, m_1236, m_11, m_1237, by decide +kernel⟩
theorem b_Mo_printed_0 {Λ : QLay} {G : Nat → List (Nat × Value) → List Value → QMem → Prop} {Q : Int → QMem → Prop} (hG : QAct c_Mo_printed "TreeDifferModel" 2 { frames := 1, cells := 0, slots := 0, locals := 22 } Λ G) (hR : RtI c_Mo_printed G Q) (v0 : Nat) (v1 : Int) (S : QMem) (o0 : qob Λ 10 v0) (h : w_Mo_printed Λ v0 v1 S Q) : G 0 [(0, .ref v0), (1, vI v1)] [] S := by
  have hΛ := hG.lay
  unfold w_Mo_printed at h
  refine pw_iload_n (pc := 0) hG d_Mo_printed_0 rfl ?_
  refine pw_iconst (pc := 1) hG d_Mo_printed_1 ?_
  refine pw_aload_n (pc := 2) hG d_Mo_printed_2 rfl ?_
  refine g10_12 (pc := 3) hG m_814 d_Mo_printed_3 o0 ?_
  refine pw_iconst (pc := 6) hG d_Mo_printed_6 ?_
  refine pw_isub (pc := 7) hG d_Mo_printed_7 ?_
  refine pw_scalli (pc := 8) hG (fun l Δ => ct_Mo_in l Δ hΛ  h) m_942 k_Mo_in rfl ⟨by decide, by decide⟩ (Nat.le_of_ble_eq_true rfl) d_Mo_printed_8 rfl (fun r8 S8 h => ?_)
  obtain ⟨hrx11, ha11, hb11⟩ := h
  refine pw_if_eq (tgt := 23) (pc := 11) hG d_Mo_printed_11 (by decide) hrx11 (fun hc11 => ?_) (fun hc11 => ?_)
  · replace h := ha11 hc11
    refine pw_bipush (pc := 23) hG d_Mo_printed_23 (by decide) ?_
    exact hR 25 _ _ _ d_Mo_printed_25 h
  · replace h := hb11 hc11
    refine pw_aload_n (pc := 14) hG d_Mo_printed_14 rfl ?_
    refine g10_11 (pc := 15) hG m_813 d_Mo_printed_15 o0 ?_
    refine pw_iload_n (pc := 18) hG d_Mo_printed_18 rfl ?_
    obtain ⟨hi19, h⟩ := h
    refine pw_aI (pc := 19) hG (q_arr hΛ o0 rfl (by decide)) hi19 d_Mo_printed_19 ?_
    refine pw_goto (tgt := 25) (pc := 20) hG d_Mo_printed_20 (by decide) ?_
    exact hR 25 _ _ _ d_Mo_printed_25 h
theorem ct_Mo_printed (l : Launch) (Δ : QDl) {Λ : QLay} (hΛ : LayOk Λ) {v0 : Nat} {v1 : Int} {S : QMem} {Q : Int → QMem → Prop} (o0 : qob Λ 10 v0) (h : w_Mo_printed Λ v0 v1 S Q) : QCt l y_Mo_printed c_Mo_printed 2 (some .int) 1 22 Δ Λ [.ref v0, vI v1] S (qI Q) :=
  QCt.mk (own := "TreeDifferModel") hΛ (by decide) rfl rfl (Nat.le_of_ble_eq_true rfl) (fun G hG ri rz rv rj ra => b_Mo_printed_0 hG (fun pc lv x S d hq => ri pc lv x S rfl d ⟨x, rfl, hq⟩) v0 v1 S o0 h)
theorem k_Mo_save : QVf y_Mo_save c_Mo_save 4 (some .int) "TreeDifferModel" 1 := ⟨m_1239, m_1240, m_11, m_1241, by decide +kernel⟩
theorem b_Mo_save_70 {Λ : QLay} {G : Nat → List (Nat × Value) → List Value → QMem → Prop} {Q : Int → QMem → Prop} (hG : QAct c_Mo_save "TreeDifferModel" 4 { frames := 1, cells := 0, slots := 0, locals := 22 } Λ G) (hR : RtI c_Mo_save G Q) : ∀ (n : Nat) (v0 : Nat) (v1 : Int) (v2 : Int) (v3 : Int) (S : QMem), qob Λ 10 v0 → w_Mo_save_70 Λ Q n v0 v1 v2 v3 S → G 70 [(0, .ref v0), (1, vI v1), (2, vI v2), (3, vI v3)] [] S := by
  have hΛ := hG.lay
  intro n
  induction n with
  | zero => intro v0 v1 v2 v3 S o_v0 h; exact h.elim
  | succ n ih =>
    intro v0 v1 v2 v3 S o_v0 h
    rw [w_Mo_save_70] at h
    refine pw_iload_n (pc := 70) hG d_Mo_save_70 rfl ?_
    refine pw_bipush (pc := 71) hG d_Mo_save_71 (by decide) ?_
    obtain ⟨hrx73, ha73, hb73⟩ := h
    refine pw_icmp_ge (tgt := 125) (pc := 73) hG d_Mo_save_73 (by decide) hrx73 (q_lit rfl) (fun hc73 => ?_) (fun hc73 => ?_)
    · replace h := ha73 hc73
      refine pw_aload_n (pc := 125) hG d_Mo_save_125 rfl ?_
      refine g10_8 (pc := 126) hG m_810 d_Mo_save_126 o_v0 ?_
      refine pw_iload_n (pc := 129) hG d_Mo_save_129 rfl ?_
      refine pw_iconst (pc := 130) hG d_Mo_save_130 ?_
      obtain ⟨hi131, h⟩ := h
      refine pw_sZ (pc := 131) hG (q_arr hΛ o_v0 rfl (by decide)) hi131 (Or.inr rfl) d_Mo_save_131 (fun S131 eS131 => ?_)
      replace h := h S131 eS131
      refine pw_aload_n (pc := 132) hG d_Mo_save_132 rfl ?_
      refine g10_0 (pc := 133) hG m_802 d_Mo_save_133 o_v0 ?_
      refine pw_iconst (pc := 136) hG d_Mo_save_136 ?_
      refine pw_aI (pc := 137) hG (q_arr hΛ o_v0 rfl (by decide)) (by decide) d_Mo_save_137 ?_
      exact hR 138 _ _ _ d_Mo_save_138 h
    · replace h := hb73 hc73
      refine pw_aload_n (pc := 76) hG d_Mo_save_76 rfl ?_
      refine g10_7 (pc := 77) hG m_809 d_Mo_save_77 o_v0 ?_
      refine pw_iload_n (pc := 80) hG d_Mo_save_80 rfl ?_
      refine pw_iconst (pc := 81) hG d_Mo_save_81 ?_
      refine pw_iadd (pc := 82) hG d_Mo_save_82 ?_
      refine pw_iload_n (pc := 83) hG d_Mo_save_83 rfl ?_
      refine pw_iadd (pc := 84) hG d_Mo_save_84 ?_
      refine pw_bipush (pc := 85) hG d_Mo_save_85 (by decide) ?_
      refine pw_aload_n (pc := 87) hG d_Mo_save_87 rfl ?_
      refine g10_1 (pc := 88) hG m_803 d_Mo_save_88 o_v0 ?_
      refine pw_iload_n (pc := 91) hG d_Mo_save_91 rfl ?_
      obtain ⟨hi92, h⟩ := h
      refine pw_aI (pc := 92) hG (q_arr hΛ o_v0 rfl (by decide)) hi92 d_Mo_save_92 ?_
      refine pw_imul (pc := 93) hG d_Mo_save_93 ?_
      refine pw_aload_n (pc := 94) hG d_Mo_save_94 rfl ?_
      refine g10_2 (pc := 95) hG m_804 d_Mo_save_95 o_v0 ?_
      refine pw_iload_n (pc := 98) hG d_Mo_save_98 rfl ?_
      obtain ⟨hi99, h⟩ := h
      refine pw_aI (pc := 99) hG (q_arr hΛ o_v0 rfl (by decide)) hi99 d_Mo_save_99 ?_
      refine pw_iadd (pc := 100) hG d_Mo_save_100 ?_
      obtain ⟨hi101, h⟩ := h
      refine pw_sI (pc := 101) hG (q_arr hΛ o_v0 rfl (by decide)) hi101 d_Mo_save_101 (fun S101 eS101 => ?_)
      replace h := h S101 eS101
      refine pw_aload_n (pc := 102) hG d_Mo_save_102 rfl ?_
      refine g10_7 (pc := 103) hG m_809 d_Mo_save_103 o_v0 ?_
      refine pw_iload_n (pc := 106) hG d_Mo_save_106 rfl ?_
      refine pw_bipush (pc := 107) hG d_Mo_save_107 (by decide) ?_
      refine pw_iadd (pc := 109) hG d_Mo_save_109 ?_
      refine pw_iload_n (pc := 110) hG d_Mo_save_110 rfl ?_
      refine pw_iadd (pc := 111) hG d_Mo_save_111 ?_
      refine pw_aload_n (pc := 112) hG d_Mo_save_112 rfl ?_
      refine g10_3 (pc := 113) hG m_805 d_Mo_save_113 o_v0 ?_
      refine pw_iload_n (pc := 116) hG d_Mo_save_116 rfl ?_
      obtain ⟨hi117, h⟩ := h
      refine pw_aI (pc := 117) hG (q_arr hΛ o_v0 rfl (by decide)) hi117 d_Mo_save_117 ?_
      obtain ⟨hi118, h⟩ := h
      refine pw_sI (pc := 118) hG (q_arr hΛ o_v0 rfl (by decide)) hi118 d_Mo_save_118 (fun S118 eS118 => ?_)
      replace h := h S118 eS118
      refine pw_iinc0 (pc := 119) hG d_Mo_save_119 rfl (by decide) rfl ?_
      refine pw_goto (tgt := 70) (pc := 122) hG d_Mo_save_122 (by decide) ?_
      exact pw_sub hG [0, 1, 2, 3] rfl (ih v0 v1 v2 (v3 + 1) S118 o_v0 h)
theorem b_Mo_save_0 {Λ : QLay} {G : Nat → List (Nat × Value) → List Value → QMem → Prop} {Q : Int → QMem → Prop} (hG : QAct c_Mo_save "TreeDifferModel" 4 { frames := 1, cells := 0, slots := 0, locals := 22 } Λ G) (hR : RtI c_Mo_save G Q) (v0 : Nat) (v1 : Int) (S : QMem) (o0 : qob Λ 10 v0) (h : w_Mo_save Λ v0 v1 S Q) : G 0 [(0, .ref v0), (1, vI v1)] [] S := by
  have hΛ := hG.lay
  unfold w_Mo_save at h
  refine pw_iload_n (pc := 0) hG d_Mo_save_0 rfl ?_
  refine pw_iconst (pc := 1) hG d_Mo_save_1 ?_
  refine pw_iconst (pc := 2) hG d_Mo_save_2 ?_
  refine pw_scalli (pc := 3) hG (fun l Δ => ct_Mo_in l Δ hΛ  h) m_942 k_Mo_in rfl ⟨by decide, by decide⟩ (Nat.le_of_ble_eq_true rfl) d_Mo_save_3 rfl (fun r3 S3 h => ?_)
  obtain ⟨hrx6, ha6, hb6⟩ := h
  refine pw_if_ne (tgt := 12) (pc := 6) hG d_Mo_save_6 (by decide) hrx6 (fun hc6 => ?_) (fun hc6 => ?_)
  · replace h := ha6 hc6
    refine pw_sipush (pc := 12) hG d_Mo_save_12 (by decide) ?_
    refine pw_iload_n (pc := 15) hG d_Mo_save_15 rfl ?_
    refine pw_imul (pc := 16) hG d_Mo_save_16 ?_
    refine pw_istore_n (pc := 17) hG d_Mo_save_17 (by decide) (fun x17 ex17 => ⟨_, rfl, ?_⟩)
    replace h := h x17 ex17
    refine pw_aload_n (pc := 18) hG d_Mo_save_18 rfl ?_
    refine g10_7 (pc := 19) hG m_809 d_Mo_save_19 o0 ?_
    refine pw_iload_n (pc := 22) hG d_Mo_save_22 rfl ?_
    refine pw_aload_n (pc := 23) hG d_Mo_save_23 rfl ?_
    refine g10_0 (pc := 24) hG m_802 d_Mo_save_24 o0 ?_
    refine pw_iconst (pc := 27) hG d_Mo_save_27 ?_
    refine pw_aI (pc := 28) hG (q_arr hΛ o0 rfl (by decide)) (by decide) d_Mo_save_28 ?_
    obtain ⟨hi29, h⟩ := h
    refine pw_sI (pc := 29) hG (q_arr hΛ o0 rfl (by decide)) hi29 d_Mo_save_29 (fun S29 eS29 => ?_)
    replace h := h S29 eS29
    refine pw_aload_n (pc := 30) hG d_Mo_save_30 rfl ?_
    refine g10_7 (pc := 31) hG m_809 d_Mo_save_31 o0 ?_
    refine pw_iload_n (pc := 34) hG d_Mo_save_34 rfl ?_
    refine pw_iconst (pc := 35) hG d_Mo_save_35 ?_
    refine pw_iadd (pc := 36) hG d_Mo_save_36 ?_
    refine pw_aload_n (pc := 37) hG d_Mo_save_37 rfl ?_
    refine g10_0 (pc := 38) hG m_802 d_Mo_save_38 o0 ?_
    refine pw_iconst (pc := 41) hG d_Mo_save_41 ?_
    refine pw_aI (pc := 42) hG (q_arr hΛ o0 rfl (by decide)) (by decide) d_Mo_save_42 ?_
    obtain ⟨hi43, h⟩ := h
    refine pw_sI (pc := 43) hG (q_arr hΛ o0 rfl (by decide)) hi43 d_Mo_save_43 (fun S43 eS43 => ?_)
    replace h := h S43 eS43
    refine pw_aload_n (pc := 44) hG d_Mo_save_44 rfl ?_
    refine g10_7 (pc := 45) hG m_809 d_Mo_save_45 o0 ?_
    refine pw_iload_n (pc := 48) hG d_Mo_save_48 rfl ?_
    refine pw_iconst (pc := 49) hG d_Mo_save_49 ?_
    refine pw_iadd (pc := 50) hG d_Mo_save_50 ?_
    refine pw_aload_n (pc := 51) hG d_Mo_save_51 rfl ?_
    refine g10_4 (pc := 52) hG m_806 d_Mo_save_52 o0 ?_
    obtain ⟨hi55, h⟩ := h
    refine pw_sI (pc := 55) hG (q_arr hΛ o0 rfl (by decide)) hi55 d_Mo_save_55 (fun S55 eS55 => ?_)
    replace h := h S55 eS55
    refine pw_aload_n (pc := 56) hG d_Mo_save_56 rfl ?_
    refine g10_7 (pc := 57) hG m_809 d_Mo_save_57 o0 ?_
    refine pw_iload_n (pc := 60) hG d_Mo_save_60 rfl ?_
    refine pw_iconst (pc := 61) hG d_Mo_save_61 ?_
    refine pw_iadd (pc := 62) hG d_Mo_save_62 ?_
    refine pw_aload_n (pc := 63) hG d_Mo_save_63 rfl ?_
    refine g10_5 (pc := 64) hG m_807 d_Mo_save_64 o0 ?_
    obtain ⟨hi67, h⟩ := h
    refine pw_sI (pc := 67) hG (q_arr hΛ o0 rfl (by decide)) hi67 d_Mo_save_67 (fun S67 eS67 => ?_)
    replace h := h S67 eS67
    refine pw_iconst (pc := 68) hG d_Mo_save_68 ?_
    refine pw_ist_n (pc := 69) hG d_Mo_save_69 (by decide) rfl ?_
    obtain ⟨n69, h⟩ := h
    exact pw_sub hG [0, 1, 2, 3] rfl (b_Mo_save_70 hG hR n69 v0 v1 x17 0 S67 o0 h)
  · replace h := hb6 hc6
    refine pw_bipush (pc := 9) hG d_Mo_save_9 (by decide) ?_
    exact hR 11 _ _ _ d_Mo_save_11 h
theorem ct_Mo_save (l : Launch) (Δ : QDl) {Λ : QLay} (hΛ : LayOk Λ) {v0 : Nat} {v1 : Int} {S : QMem} {Q : Int → QMem → Prop} (o0 : qob Λ 10 v0) (h : w_Mo_save Λ v0 v1 S Q) : QCt l y_Mo_save c_Mo_save 4 (some .int) 1 22 Δ Λ [.ref v0, vI v1] S (qI Q) :=
  QCt.mk (own := "TreeDifferModel") hΛ (by decide) rfl rfl (Nat.le_of_ble_eq_true rfl) (fun G hG ri rz rv rj ra => b_Mo_save_0 hG (fun pc lv x S d hq => ri pc lv x S rfl d ⟨x, rfl, hq⟩) v0 v1 S o0 h)
theorem k_Mo_restore : QVf y_Mo_restore c_Mo_restore 4 (some .int) "TreeDifferModel" 1 := ⟨m_1243, m_1244, m_11, m_1245, by decide +kernel⟩
theorem b_Mo_restore_82 {Λ : QLay} {G : Nat → List (Nat × Value) → List Value → QMem → Prop} {Q : Int → QMem → Prop} (hG : QAct c_Mo_restore "TreeDifferModel" 4 { frames := 3, cells := 0, slots := 0, locals := 65 } Λ G) (hR : RtI c_Mo_restore G Q) : ∀ (n : Nat) (v0 : Nat) (v2 : Int) (v3 : Int) (S : QMem), qob Λ 10 v0 → w_Mo_restore_82 Λ Q n v0 v2 v3 S → G 82 [(0, .ref v0), (2, vI v2), (3, vI v3)] [] S := by
  have hΛ := hG.lay
  intro n
  induction n with
  | zero => intro v0 v2 v3 S o_v0 h; exact h.elim
  | succ n ih =>
    intro v0 v2 v3 S o_v0 h
    rw [w_Mo_restore_82] at h
    refine pw_iload_n (pc := 82) hG d_Mo_restore_82 rfl ?_
    refine pw_bipush (pc := 83) hG d_Mo_restore_83 (by decide) ?_
    obtain ⟨hrx85, ha85, hb85⟩ := h
    refine pw_icmp_ge (tgt := 149) (pc := 85) hG d_Mo_restore_85 (by decide) hrx85 (q_lit rfl) (fun hc85 => ?_) (fun hc85 => ?_)
    · replace h := ha85 hc85
      refine pw_aload_n (pc := 149) hG d_Mo_restore_149 rfl ?_
      refine pw_callv (pc := 150) hG (fun l Δ => ct_Mo_changes l Δ hΛ o_v0 h) o_v0 rfl (by decide) m_794 k_Mo_changes rfl ⟨by decide, by decide⟩ (Nat.le_of_ble_eq_true rfl) d_Mo_restore_150 rfl (fun S150 h => ?_)
      refine pw_aload_n (pc := 153) hG d_Mo_restore_153 rfl ?_
      refine g10_0 (pc := 154) hG m_802 d_Mo_restore_154 o_v0 ?_
      refine pw_iconst (pc := 157) hG d_Mo_restore_157 ?_
      refine pw_aI (pc := 158) hG (q_arr hΛ o_v0 rfl (by decide)) (by decide) d_Mo_restore_158 ?_
      exact hR 159 _ _ _ d_Mo_restore_159 h
    · replace h := hb85 hc85
      refine pw_aload_n (pc := 88) hG d_Mo_restore_88 rfl ?_
      refine g10_1 (pc := 89) hG m_803 d_Mo_restore_89 o_v0 ?_
      refine pw_iload_n (pc := 92) hG d_Mo_restore_92 rfl ?_
      refine pw_aload_n (pc := 93) hG d_Mo_restore_93 rfl ?_
      refine g10_7 (pc := 94) hG m_809 d_Mo_restore_94 o_v0 ?_
      refine pw_iload_n (pc := 97) hG d_Mo_restore_97 rfl ?_
      refine pw_iconst (pc := 98) hG d_Mo_restore_98 ?_
      refine pw_iadd (pc := 99) hG d_Mo_restore_99 ?_
      refine pw_iload_n (pc := 100) hG d_Mo_restore_100 rfl ?_
      refine pw_iadd (pc := 101) hG d_Mo_restore_101 ?_
      obtain ⟨hi102, h⟩ := h
      refine pw_aI (pc := 102) hG (q_arr hΛ o_v0 rfl (by decide)) hi102 d_Mo_restore_102 ?_
      refine pw_bipush (pc := 103) hG d_Mo_restore_103 (by decide) ?_
      obtain ⟨hx105, h⟩ := h
      refine pw_idiv (pc := 105) hG d_Mo_restore_105 hx105 ⟨by decide, q_lit rfl⟩ ?_
      obtain ⟨hi106, h⟩ := h
      refine pw_sI (pc := 106) hG (q_arr hΛ o_v0 rfl (by decide)) hi106 d_Mo_restore_106 (fun S106 eS106 => ?_)
      replace h := h S106 eS106
      refine pw_aload_n (pc := 107) hG d_Mo_restore_107 rfl ?_
      refine g10_2 (pc := 108) hG m_804 d_Mo_restore_108 o_v0 ?_
      refine pw_iload_n (pc := 111) hG d_Mo_restore_111 rfl ?_
      refine pw_aload_n (pc := 112) hG d_Mo_restore_112 rfl ?_
      refine g10_7 (pc := 113) hG m_809 d_Mo_restore_113 o_v0 ?_
      refine pw_iload_n (pc := 116) hG d_Mo_restore_116 rfl ?_
      refine pw_iconst (pc := 117) hG d_Mo_restore_117 ?_
      refine pw_iadd (pc := 118) hG d_Mo_restore_118 ?_
      refine pw_iload_n (pc := 119) hG d_Mo_restore_119 rfl ?_
      refine pw_iadd (pc := 120) hG d_Mo_restore_120 ?_
      obtain ⟨hi121, h⟩ := h
      refine pw_aI (pc := 121) hG (q_arr hΛ o_v0 rfl (by decide)) hi121 d_Mo_restore_121 ?_
      refine pw_bipush (pc := 122) hG d_Mo_restore_122 (by decide) ?_
      obtain ⟨hx124, h⟩ := h
      refine pw_irem (pc := 124) hG d_Mo_restore_124 hx124 ⟨by decide, q_lit rfl⟩ ?_
      obtain ⟨hi125, h⟩ := h
      refine pw_sI (pc := 125) hG (q_arr hΛ o_v0 rfl (by decide)) hi125 d_Mo_restore_125 (fun S125 eS125 => ?_)
      replace h := h S125 eS125
      refine pw_aload_n (pc := 126) hG d_Mo_restore_126 rfl ?_
      refine g10_3 (pc := 127) hG m_805 d_Mo_restore_127 o_v0 ?_
      refine pw_iload_n (pc := 130) hG d_Mo_restore_130 rfl ?_
      refine pw_aload_n (pc := 131) hG d_Mo_restore_131 rfl ?_
      refine g10_7 (pc := 132) hG m_809 d_Mo_restore_132 o_v0 ?_
      refine pw_iload_n (pc := 135) hG d_Mo_restore_135 rfl ?_
      refine pw_bipush (pc := 136) hG d_Mo_restore_136 (by decide) ?_
      refine pw_iadd (pc := 138) hG d_Mo_restore_138 ?_
      refine pw_iload_n (pc := 139) hG d_Mo_restore_139 rfl ?_
      refine pw_iadd (pc := 140) hG d_Mo_restore_140 ?_
      obtain ⟨hi141, h⟩ := h
      refine pw_aI (pc := 141) hG (q_arr hΛ o_v0 rfl (by decide)) hi141 d_Mo_restore_141 ?_
      obtain ⟨hi142, h⟩ := h
      refine pw_sI (pc := 142) hG (q_arr hΛ o_v0 rfl (by decide)) hi142 d_Mo_restore_142 (fun S142 eS142 => ?_)
      replace h := h S142 eS142
      refine pw_iinc0 (pc := 143) hG d_Mo_restore_143 rfl (by decide) rfl ?_
      refine pw_goto (tgt := 82) (pc := 146) hG d_Mo_restore_146 (by decide) ?_
      exact pw_sub hG [0, 2, 3] rfl (ih v0 v2 (v3 + 1) S142 o_v0 h)
theorem b_Mo_restore_0 {Λ : QLay} {G : Nat → List (Nat × Value) → List Value → QMem → Prop} {Q : Int → QMem → Prop} (hG : QAct c_Mo_restore "TreeDifferModel" 4 { frames := 3, cells := 0, slots := 0, locals := 65 } Λ G) (hR : RtI c_Mo_restore G Q) (v0 : Nat) (v1 : Int) (S : QMem) (o0 : qob Λ 10 v0) (h : w_Mo_restore Λ v0 v1 S Q) : G 0 [(0, .ref v0), (1, vI v1)] [] S := by
  have hΛ := hG.lay
  unfold w_Mo_restore at h
  refine pw_iload_n (pc := 0) hG d_Mo_restore_0 rfl ?_
  refine pw_iconst (pc := 1) hG d_Mo_restore_1 ?_
  refine pw_iconst (pc := 2) hG d_Mo_restore_2 ?_
  refine pw_scalli (pc := 3) hG (fun l Δ => ct_Mo_in l Δ hΛ  h) m_942 k_Mo_in rfl ⟨by decide, by decide⟩ (Nat.le_of_ble_eq_true rfl) d_Mo_restore_3 rfl (fun r3 S3 h => ?_)
  obtain ⟨hrx6, ha6, hb6⟩ := h
  refine pw_if_ne (tgt := 12) (pc := 6) hG d_Mo_restore_6 (by decide) hrx6 (fun hc6 => ?_) (fun hc6 => ?_)
  · replace h := ha6 hc6
    refine pw_aload_n (pc := 12) hG d_Mo_restore_12 rfl ?_
    refine g10_8 (pc := 13) hG m_810 d_Mo_restore_13 o0 ?_
    refine pw_iload_n (pc := 16) hG d_Mo_restore_16 rfl ?_
    obtain ⟨hi17, h⟩ := h
    refine pw_aZ (pc := 17) hG (q_arr hΛ o0 rfl (by decide)) hi17 d_Mo_restore_17 ?_
    obtain ⟨hrx18, ha18, hb18⟩ := h
    refine pw_if_ne (tgt := 24) (pc := 18) hG d_Mo_restore_18 (by decide) hrx18 (fun hc18 => ?_) (fun hc18 => ?_)
    · replace h := ha18 hc18
      refine pw_sipush (pc := 24) hG d_Mo_restore_24 (by decide) ?_
      refine pw_iload_n (pc := 27) hG d_Mo_restore_27 rfl ?_
      refine pw_imul (pc := 28) hG d_Mo_restore_28 ?_
      refine pw_istore_n (pc := 29) hG d_Mo_restore_29 (by decide) (fun x29 ex29 => ⟨_, rfl, ?_⟩)
      replace h := h x29 ex29
      refine pw_aload_n (pc := 30) hG d_Mo_restore_30 rfl ?_
      refine g10_0 (pc := 31) hG m_802 d_Mo_restore_31 o0 ?_
      refine pw_iconst (pc := 34) hG d_Mo_restore_34 ?_
      refine pw_aload_n (pc := 35) hG d_Mo_restore_35 rfl ?_
      refine g10_7 (pc := 36) hG m_809 d_Mo_restore_36 o0 ?_
      refine pw_iload_n (pc := 39) hG d_Mo_restore_39 rfl ?_
      obtain ⟨hi40, h⟩ := h
      refine pw_aI (pc := 40) hG (q_arr hΛ o0 rfl (by decide)) hi40 d_Mo_restore_40 ?_
      refine pw_sI (pc := 41) hG (q_arr hΛ o0 rfl (by decide)) (by decide) d_Mo_restore_41 (fun S41 eS41 => ?_)
      replace h := h S41 eS41
      refine pw_aload_n (pc := 42) hG d_Mo_restore_42 rfl ?_
      refine g10_0 (pc := 43) hG m_802 d_Mo_restore_43 o0 ?_
      refine pw_iconst (pc := 46) hG d_Mo_restore_46 ?_
      refine pw_aload_n (pc := 47) hG d_Mo_restore_47 rfl ?_
      refine g10_7 (pc := 48) hG m_809 d_Mo_restore_48 o0 ?_
      refine pw_iload_n (pc := 51) hG d_Mo_restore_51 rfl ?_
      refine pw_iconst (pc := 52) hG d_Mo_restore_52 ?_
      refine pw_iadd (pc := 53) hG d_Mo_restore_53 ?_
      obtain ⟨hi54, h⟩ := h
      refine pw_aI (pc := 54) hG (q_arr hΛ o0 rfl (by decide)) hi54 d_Mo_restore_54 ?_
      refine pw_sI (pc := 55) hG (q_arr hΛ o0 rfl (by decide)) (by decide) d_Mo_restore_55 (fun S55 eS55 => ?_)
      replace h := h S55 eS55
      refine pw_aload_n (pc := 56) hG d_Mo_restore_56 rfl ?_
      refine pw_aload_n (pc := 57) hG d_Mo_restore_57 rfl ?_
      refine g10_7 (pc := 58) hG m_809 d_Mo_restore_58 o0 ?_
      refine pw_iload_n (pc := 61) hG d_Mo_restore_61 rfl ?_
      refine pw_iconst (pc := 62) hG d_Mo_restore_62 ?_
      refine pw_iadd (pc := 63) hG d_Mo_restore_63 ?_
      obtain ⟨hi64, h⟩ := h
      refine pw_aI (pc := 64) hG (q_arr hΛ o0 rfl (by decide)) hi64 d_Mo_restore_64 ?_
      refine p10_4 (pc := 65) hG m_806 d_Mo_restore_65 o0 (fun S65 eS65 => ?_)
      replace h := h S65 eS65
      refine pw_aload_n (pc := 68) hG d_Mo_restore_68 rfl ?_
      refine pw_aload_n (pc := 69) hG d_Mo_restore_69 rfl ?_
      refine g10_7 (pc := 70) hG m_809 d_Mo_restore_70 o0 ?_
      refine pw_iload_n (pc := 73) hG d_Mo_restore_73 rfl ?_
      refine pw_iconst (pc := 74) hG d_Mo_restore_74 ?_
      refine pw_iadd (pc := 75) hG d_Mo_restore_75 ?_
      obtain ⟨hi76, h⟩ := h
      refine pw_aI (pc := 76) hG (q_arr hΛ o0 rfl (by decide)) hi76 d_Mo_restore_76 ?_
      refine p10_5 (pc := 77) hG m_807 d_Mo_restore_77 o0 (fun S77 eS77 => ?_)
      replace h := h S77 eS77
      refine pw_iconst (pc := 80) hG d_Mo_restore_80 ?_
      refine pw_ist_n (pc := 81) hG d_Mo_restore_81 (by decide) rfl ?_
      obtain ⟨n81, h⟩ := h
      exact pw_sub hG [0, 2, 3] rfl (b_Mo_restore_82 hG hR n81 v0 x29 0 S77 o0 h)
    · replace h := hb18 hc18
      refine pw_bipush (pc := 21) hG d_Mo_restore_21 (by decide) ?_
      exact hR 23 _ _ _ d_Mo_restore_23 h
  · replace h := hb6 hc6
    refine pw_bipush (pc := 9) hG d_Mo_restore_9 (by decide) ?_
    exact hR 11 _ _ _ d_Mo_restore_11 h
theorem ct_Mo_restore (l : Launch) (Δ : QDl) {Λ : QLay} (hΛ : LayOk Λ) {v0 : Nat} {v1 : Int} {S : QMem} {Q : Int → QMem → Prop} (o0 : qob Λ 10 v0) (h : w_Mo_restore Λ v0 v1 S Q) : QCt l y_Mo_restore c_Mo_restore 4 (some .int) 3 65 Δ Λ [.ref v0, vI v1] S (qI Q) :=
  QCt.mk (own := "TreeDifferModel") hΛ (by decide) rfl rfl (Nat.le_of_ble_eq_true rfl) (fun G hG ri rz rv rj ra => b_Mo_restore_0 hG (fun pc lv x S d hq => ri pc lv x S rfl d ⟨x, rfl, hq⟩) v0 v1 S o0 h)
theorem k_Mo_more : QSf y_Mo_more c_Mo_more 3 (some .long) "TreeDifferModel" 2 := ⟨m_1252, m_11, m_1253, by decide +kernel⟩
theorem b_Mo_more_0 {Λ : QLay} {G : Nat → List (Nat × Value) → List Value → QMem → Prop} {Q : Int → QMem → Prop} (hG : QAct c_Mo_more "TreeDifferModel" 3 { frames := 0, cells := 0, slots := 0, locals := 0 } Λ G) (hR : RtJ c_Mo_more G Q) (v0 : Int) (v2 : Int) (S : QMem) (h : w_Mo_more Λ v0 v2 S Q) : G 0 [(0, vJ v0), (2, vI v2)] [] S := by
  have hΛ := hG.lay
  unfold w_Mo_more at h
  refine pw_ldc2 (n := 31) (pc := 0) hG m_1254 d_Mo_more_0 ?_
  refine pw_lload_n (pc := 3) hG d_Mo_more_3 rfl ?_
  refine pw_lmul (pc := 4) hG d_Mo_more_4 ?_
  refine pw_iload_n (pc := 5) hG d_Mo_more_5 rfl ?_
  obtain ⟨hr6, h⟩ := h
  refine pw_i2l (pc := 6) hG d_Mo_more_6 hr6 ?_
  refine pw_ladd (pc := 7) hG d_Mo_more_7 ?_
  exact hR 8 _ _ _ d_Mo_more_8 h
theorem ct_Mo_more (l : Launch) (Δ : QDl) {Λ : QLay} (hΛ : LayOk Λ) {v0 : Int} {v2 : Int} {S : QMem} {Q : Int → QMem → Prop} (h : w_Mo_more Λ v0 v2 S Q) : QCt l y_Mo_more c_Mo_more 3 (some .long) 0 0 Δ Λ [vJ v0, vI v2] S (qJ Q) :=
  QCt.mk (own := "TreeDifferModel") hΛ (by decide) rfl rfl (Nat.le_of_ble_eq_true rfl) (fun G hG ri rz rv rj ra => b_Mo_more_0 hG (fun pc lv x S d hq => rj pc lv x S rfl d ⟨x, rfl, hq⟩) v0 v2 S  h)
theorem k_Mo_checksum : QVf y_Mo_checksum c_Mo_checksum 4 (some .long) "TreeDifferModel" 0 := ⟨m_1247, m_1248, m_11, m_1249, by decide +kernel⟩
theorem b_Mo_checksum_59 {Λ : QLay} {G : Nat → List (Nat × Value) → List Value → QMem → Prop} {Q : Int → QMem → Prop} (hG : QAct c_Mo_checksum "TreeDifferModel" 4 { frames := 8, cells := 0, slots := 0, locals := 180 } Λ G) (hR : RtJ c_Mo_checksum G Q) {K28 : Nat → Int → Int → QMem → Prop} (hK28 : ∀ (v0 : Nat) (v1 : Int) (v3 : Int) (S : QMem), qob Λ 10 v0 → K28 v0 v1 v3 S → G 28 [(0, .ref v0), (1, vJ v1), (3, vI v3)] [] S) (v0 : Nat) (v3 : Int) (s0 : Int) (s1 : Int) (S : QMem) (o_v0 : qob Λ 10 v0) (h : w_Mo_checksum_59 Λ K28 Q v0 v3 s0 s1 S) : G 59 [(0, .ref v0), (3, vI v3)] [vI s1, vJ s0] S := by
  have hΛ := hG.lay
  unfold w_Mo_checksum_59 at h
  refine pw_scallj (pc := 59) hG (fun l Δ => ct_Mo_more l Δ hΛ  h) m_1251 k_Mo_more rfl ⟨by decide, by decide⟩ (Nat.le_of_ble_eq_true rfl) d_Mo_checksum_59 rfl (fun r59 S59 h => ?_)
  refine pw_aload_n (pc := 62) hG d_Mo_checksum_62 rfl ?_
  refine g10_23 (pc := 63) hG m_825 d_Mo_checksum_63 o_v0 ?_
  refine pw_iload_n (pc := 66) hG d_Mo_checksum_66 rfl ?_
  obtain ⟨hi67, h⟩ := h
  refine pw_aI (pc := 67) hG (q_arr hΛ o_v0 rfl (by decide)) hi67 d_Mo_checksum_67 ?_
  refine pw_scallj (pc := 68) hG (fun l Δ => ct_Mo_more l Δ hΛ  h) m_1251 k_Mo_more rfl ⟨by decide, by decide⟩ (Nat.le_of_ble_eq_true rfl) d_Mo_checksum_68 rfl (fun r68 S68 h => ?_)
  refine pw_lstore_n (pc := 71) hG d_Mo_checksum_71 (by decide) (fun x71 ex71 => ⟨_, rfl, ?_⟩)
  replace h := h x71 ex71
  refine pw_iinc0 (pc := 72) hG d_Mo_checksum_72 rfl (by decide) rfl ?_
  refine pw_goto (tgt := 28) (pc := 75) hG d_Mo_checksum_75 (by decide) ?_
  exact pw_sub hG [0, 1, 3] rfl (hK28 v0 x71 (v3 + 1) S68 o_v0 h)
theorem b_Mo_checksum_141 {Λ : QLay} {G : Nat → List (Nat × Value) → List Value → QMem → Prop} {Q : Int → QMem → Prop} (hG : QAct c_Mo_checksum "TreeDifferModel" 4 { frames := 8, cells := 0, slots := 0, locals := 180 } Λ G) (hR : RtJ c_Mo_checksum G Q) : ∀ (n : Nat) (v0 : Nat) (v1 : Int) (v3 : Int) (S : QMem), qob Λ 10 v0 → w_Mo_checksum_141 Λ Q n v0 v1 v3 S → G 141 [(0, .ref v0), (1, vJ v1), (3, vI v3)] [] S := by
  have hΛ := hG.lay
  intro n
  induction n with
  | zero => intro v0 v1 v3 S o_v0 h; exact h.elim
  | succ n ih =>
    intro v0 v1 v3 S o_v0 h
    rw [w_Mo_checksum_141] at h
    refine pw_iload_n (pc := 141) hG d_Mo_checksum_141 rfl ?_
    refine pw_aload_n (pc := 142) hG d_Mo_checksum_142 rfl ?_
    refine g10_42 (pc := 143) hG m_844 d_Mo_checksum_143 o_v0 ?_
    obtain ⟨hrx146, hry146, ha146, hb146⟩ := h
    refine pw_icmp_ge (tgt := 166) (pc := 146) hG d_Mo_checksum_146 (by decide) hrx146 hry146 (fun hc146 => ?_) (fun hc146 => ?_)
    · replace h := ha146 hc146
      refine pw_lload_n (pc := 166) hG d_Mo_checksum_166 rfl ?_
      exact hR 167 _ _ _ d_Mo_checksum_167 h
    · replace h := hb146 hc146
      refine pw_lload_n (pc := 149) hG d_Mo_checksum_149 rfl ?_
      refine pw_aload_n (pc := 150) hG d_Mo_checksum_150 rfl ?_
      refine g10_41 (pc := 151) hG m_843 d_Mo_checksum_151 o_v0 ?_
      refine pw_iload_n (pc := 154) hG d_Mo_checksum_154 rfl ?_
      obtain ⟨hi155, h⟩ := h
      refine pw_aI (pc := 155) hG (q_arr hΛ o_v0 rfl (by decide)) hi155 d_Mo_checksum_155 ?_
      refine pw_scallj (pc := 156) hG (fun l Δ => ct_Mo_more l Δ hΛ  h) m_1251 k_Mo_more rfl ⟨by decide, by decide⟩ (Nat.le_of_ble_eq_true rfl) d_Mo_checksum_156 rfl (fun r156 S156 h => ?_)
      refine pw_lstore_n (pc := 159) hG d_Mo_checksum_159 (by decide) (fun x159 ex159 => ⟨_, rfl, ?_⟩)
      replace h := h x159 ex159
      refine pw_iinc0 (pc := 160) hG d_Mo_checksum_160 rfl (by decide) rfl ?_
      refine pw_goto (tgt := 141) (pc := 163) hG d_Mo_checksum_163 (by decide) ?_
      exact pw_sub hG [0, 1, 3] rfl (ih v0 x159 (v3 + 1) S156 o_v0 h)
theorem b_Mo_checksum_89 {Λ : QLay} {G : Nat → List (Nat × Value) → List Value → QMem → Prop} {Q : Int → QMem → Prop} (hG : QAct c_Mo_checksum "TreeDifferModel" 4 { frames := 8, cells := 0, slots := 0, locals := 180 } Λ G) (hR : RtJ c_Mo_checksum G Q) : ∀ (n : Nat) (v0 : Nat) (v1 : Int) (v3 : Int) (S : QMem), qob Λ 10 v0 → w_Mo_checksum_89 Λ Q n v0 v1 v3 S → G 89 [(0, .ref v0), (1, vJ v1), (3, vI v3)] [] S := by
  have hΛ := hG.lay
  intro n
  induction n with
  | zero => intro v0 v1 v3 S o_v0 h; exact h.elim
  | succ n ih =>
    intro v0 v1 v3 S o_v0 h
    rw [w_Mo_checksum_89] at h
    refine pw_iload_n (pc := 89) hG d_Mo_checksum_89 rfl ?_
    refine pw_bipush (pc := 90) hG d_Mo_checksum_90 (by decide) ?_
    refine pw_aload_n (pc := 92) hG d_Mo_checksum_92 rfl ?_
    refine g10_31 (pc := 93) hG m_833 d_Mo_checksum_93 o_v0 ?_
    refine pw_imul (pc := 96) hG d_Mo_checksum_96 ?_
    obtain ⟨hrx97, hry97, ha97, hb97⟩ := h
    refine pw_icmp_ge (tgt := 117) (pc := 97) hG d_Mo_checksum_97 (by decide) hrx97 hry97 (fun hc97 => ?_) (fun hc97 => ?_)
    · replace h := ha97 hc97
      refine pw_lload_n (pc := 117) hG d_Mo_checksum_117 rfl ?_
      refine pw_aload_n (pc := 118) hG d_Mo_checksum_118 rfl ?_
      refine pw_calli (pc := 119) hG (fun l Δ => ct_Mo_distance l Δ hΛ o_v0 h) o_v0 rfl (by decide) m_1255 k_Mo_distance rfl ⟨by decide, by decide⟩ (Nat.le_of_ble_eq_true rfl) d_Mo_checksum_119 rfl (fun r119 S119 h => ?_)
      refine pw_scallj (pc := 122) hG (fun l Δ => ct_Mo_more l Δ hΛ  h) m_1251 k_Mo_more rfl ⟨by decide, by decide⟩ (Nat.le_of_ble_eq_true rfl) d_Mo_checksum_122 rfl (fun r122 S122 h => ?_)
      refine pw_lstore_n (pc := 125) hG d_Mo_checksum_125 (by decide) (fun x125 ex125 => ⟨_, rfl, ?_⟩)
      replace h := h x125 ex125
      refine pw_aload_n (pc := 126) hG d_Mo_checksum_126 rfl ?_
      refine pw_callv (pc := 127) hG (fun l Δ => ct_Mo_drafts l Δ hΛ o_v0 h) o_v0 rfl (by decide) m_1222 k_Mo_drafts rfl ⟨by decide, by decide⟩ (Nat.le_of_ble_eq_true rfl) d_Mo_checksum_127 rfl (fun S127 h => ?_)
      refine pw_lload_n (pc := 130) hG d_Mo_checksum_130 rfl ?_
      refine pw_aload_n (pc := 131) hG d_Mo_checksum_131 rfl ?_
      refine g10_42 (pc := 132) hG m_844 d_Mo_checksum_132 o_v0 ?_
      refine pw_scallj (pc := 135) hG (fun l Δ => ct_Mo_more l Δ hΛ  h) m_1251 k_Mo_more rfl ⟨by decide, by decide⟩ (Nat.le_of_ble_eq_true rfl) d_Mo_checksum_135 rfl (fun r135 S135 h => ?_)
      refine pw_lstore_n (pc := 138) hG d_Mo_checksum_138 (by decide) (fun x138 ex138 => ⟨_, rfl, ?_⟩)
      replace h := h x138 ex138
      refine pw_iconst (pc := 139) hG d_Mo_checksum_139 ?_
      refine pw_ist_n (pc := 140) hG d_Mo_checksum_140 (by decide) rfl ?_
      obtain ⟨n140, h⟩ := h
      exact pw_sub hG [0, 1, 3] rfl (b_Mo_checksum_141 hG hR n140 v0 x138 0 S135 o_v0 h)
    · replace h := hb97 hc97
      refine pw_lload_n (pc := 100) hG d_Mo_checksum_100 rfl ?_
      refine pw_aload_n (pc := 101) hG d_Mo_checksum_101 rfl ?_
      refine g10_30 (pc := 102) hG m_832 d_Mo_checksum_102 o_v0 ?_
      refine pw_iload_n (pc := 105) hG d_Mo_checksum_105 rfl ?_
      obtain ⟨hi106, h⟩ := h
      refine pw_aI (pc := 106) hG (q_arr hΛ o_v0 rfl (by decide)) hi106 d_Mo_checksum_106 ?_
      refine pw_scallj (pc := 107) hG (fun l Δ => ct_Mo_more l Δ hΛ  h) m_1251 k_Mo_more rfl ⟨by decide, by decide⟩ (Nat.le_of_ble_eq_true rfl) d_Mo_checksum_107 rfl (fun r107 S107 h => ?_)
      refine pw_lstore_n (pc := 110) hG d_Mo_checksum_110 (by decide) (fun x110 ex110 => ⟨_, rfl, ?_⟩)
      replace h := h x110 ex110
      refine pw_iinc0 (pc := 111) hG d_Mo_checksum_111 rfl (by decide) rfl ?_
      refine pw_goto (tgt := 89) (pc := 114) hG d_Mo_checksum_114 (by decide) ?_
      exact pw_sub hG [0, 1, 3] rfl (ih v0 x110 (v3 + 1) S107 o_v0 h)
theorem b_Mo_checksum_28 {Λ : QLay} {G : Nat → List (Nat × Value) → List Value → QMem → Prop} {Q : Int → QMem → Prop} (hG : QAct c_Mo_checksum "TreeDifferModel" 4 { frames := 8, cells := 0, slots := 0, locals := 180 } Λ G) (hR : RtJ c_Mo_checksum G Q) : ∀ (n : Nat) (v0 : Nat) (v1 : Int) (v3 : Int) (S : QMem), qob Λ 10 v0 → w_Mo_checksum_28 Λ Q n v0 v1 v3 S → G 28 [(0, .ref v0), (1, vJ v1), (3, vI v3)] [] S := by
  have hΛ := hG.lay
  intro n
  induction n with
  | zero => intro v0 v1 v3 S o_v0 h; exact h.elim
  | succ n ih =>
    intro v0 v1 v3 S o_v0 h
    rw [w_Mo_checksum_28] at h
    refine pw_iload_n (pc := 28) hG d_Mo_checksum_28 rfl ?_
    refine pw_aload_n (pc := 29) hG d_Mo_checksum_29 rfl ?_
    refine g10_0 (pc := 30) hG m_802 d_Mo_checksum_30 o_v0 ?_
    refine pw_iconst (pc := 33) hG d_Mo_checksum_33 ?_
    refine pw_aI (pc := 34) hG (q_arr hΛ o_v0 rfl (by decide)) (by decide) d_Mo_checksum_34 ?_
    obtain ⟨hrx35, hry35, ha35, hb35⟩ := h
    refine pw_icmp_ge (tgt := 78) (pc := 35) hG d_Mo_checksum_35 (by decide) hrx35 hry35 (fun hc35 => ?_) (fun hc35 => ?_)
    · replace h := ha35 hc35
      refine pw_lload_n (pc := 78) hG d_Mo_checksum_78 rfl ?_
      refine pw_aload_n (pc := 79) hG d_Mo_checksum_79 rfl ?_
      refine g10_31 (pc := 80) hG m_833 d_Mo_checksum_80 o_v0 ?_
      refine pw_scallj (pc := 83) hG (fun l Δ => ct_Mo_more l Δ hΛ  h) m_1251 k_Mo_more rfl ⟨by decide, by decide⟩ (Nat.le_of_ble_eq_true rfl) d_Mo_checksum_83 rfl (fun r83 S83 h => ?_)
      refine pw_lstore_n (pc := 86) hG d_Mo_checksum_86 (by decide) (fun x86 ex86 => ⟨_, rfl, ?_⟩)
      replace h := h x86 ex86
      refine pw_iconst (pc := 87) hG d_Mo_checksum_87 ?_
      refine pw_ist_n (pc := 88) hG d_Mo_checksum_88 (by decide) rfl ?_
      obtain ⟨n88, h⟩ := h
      exact pw_sub hG [0, 1, 3] rfl (b_Mo_checksum_89 hG hR n88 v0 x86 0 S83 o_v0 h)
    · replace h := hb35 hc35
      refine pw_lload_n (pc := 38) hG d_Mo_checksum_38 rfl ?_
      refine pw_aload_n (pc := 39) hG d_Mo_checksum_39 rfl ?_
      refine g10_21 (pc := 40) hG m_823 d_Mo_checksum_40 o_v0 ?_
      refine pw_iload_n (pc := 43) hG d_Mo_checksum_43 rfl ?_
      obtain ⟨hi44, h⟩ := h
      refine pw_aI (pc := 44) hG (q_arr hΛ o_v0 rfl (by decide)) hi44 d_Mo_checksum_44 ?_
      obtain ⟨hrx45, ha45, hb45⟩ := h
      refine pw_if_ge (tgt := 53) (pc := 45) hG d_Mo_checksum_45 (by decide) hrx45 (fun hc45 => ?_) (fun hc45 => ?_)
      · replace h := ha45 hc45
        refine pw_aload_n (pc := 53) hG d_Mo_checksum_53 rfl ?_
        refine g10_21 (pc := 54) hG m_823 d_Mo_checksum_54 o_v0 ?_
        refine pw_iload_n (pc := 57) hG d_Mo_checksum_57 rfl ?_
        obtain ⟨hi58, h⟩ := h
        refine pw_aI (pc := 58) hG (q_arr hΛ o_v0 rfl (by decide)) hi58 d_Mo_checksum_58 ?_
        exact pw_sub hG [0, 3] rfl (b_Mo_checksum_59 hG hR ih v0 v3 v1 (S.1 v0 21 v3) S o_v0 h)
      · replace h := hb45 hc45
        refine pw_bipush (pc := 48) hG d_Mo_checksum_48 (by decide) ?_
        refine pw_goto (tgt := 59) (pc := 50) hG d_Mo_checksum_50 (by decide) ?_
        exact pw_sub hG [0, 3] rfl (b_Mo_checksum_59 hG hR ih v0 v3 v1 (-15) S o_v0 h)
theorem b_Mo_checksum_0 {Λ : QLay} {G : Nat → List (Nat × Value) → List Value → QMem → Prop} {Q : Int → QMem → Prop} (hG : QAct c_Mo_checksum "TreeDifferModel" 4 { frames := 8, cells := 0, slots := 0, locals := 180 } Λ G) (hR : RtJ c_Mo_checksum G Q) (v0 : Nat) (S : QMem) (o0 : qob Λ 10 v0) (h : w_Mo_checksum Λ v0 S Q) : G 0 [(0, .ref v0)] [] S := by
  have hΛ := hG.lay
  unfold w_Mo_checksum at h
  refine pw_ldc2 (n := 71) (pc := 0) hG m_1250 d_Mo_checksum_0 ?_
  refine pw_aload_n (pc := 3) hG d_Mo_checksum_3 rfl ?_
  refine g10_0 (pc := 4) hG m_802 d_Mo_checksum_4 o0 ?_
  refine pw_iconst (pc := 7) hG d_Mo_checksum_7 ?_
  refine pw_aI (pc := 8) hG (q_arr hΛ o0 rfl (by decide)) (by decide) d_Mo_checksum_8 ?_
  refine pw_scallj (pc := 9) hG (fun l Δ => ct_Mo_more l Δ hΛ  h) m_1251 k_Mo_more rfl ⟨by decide, by decide⟩ (Nat.le_of_ble_eq_true rfl) d_Mo_checksum_9 rfl (fun r9 S9 h => ?_)
  refine pw_aload_n (pc := 12) hG d_Mo_checksum_12 rfl ?_
  refine g10_0 (pc := 13) hG m_802 d_Mo_checksum_13 o0 ?_
  refine pw_iconst (pc := 16) hG d_Mo_checksum_16 ?_
  refine pw_aI (pc := 17) hG (q_arr hΛ o0 rfl (by decide)) (by decide) d_Mo_checksum_17 ?_
  refine pw_scallj (pc := 18) hG (fun l Δ => ct_Mo_more l Δ hΛ  h) m_1251 k_Mo_more rfl ⟨by decide, by decide⟩ (Nat.le_of_ble_eq_true rfl) d_Mo_checksum_18 rfl (fun r18 S18 h => ?_)
  refine pw_lstore_n (pc := 21) hG d_Mo_checksum_21 (by decide) (fun x21 ex21 => ⟨_, rfl, ?_⟩)
  replace h := h x21 ex21
  refine pw_aload_n (pc := 22) hG d_Mo_checksum_22 rfl ?_
  refine pw_callv (pc := 23) hG (fun l Δ => ct_Mo_finds l Δ hΛ o0 h) o0 rfl (by decide) m_1037 k_Mo_finds rfl ⟨by decide, by decide⟩ (Nat.le_of_ble_eq_true rfl) d_Mo_checksum_23 rfl (fun S23 h => ?_)
  refine pw_iconst (pc := 26) hG d_Mo_checksum_26 ?_
  refine pw_ist_n (pc := 27) hG d_Mo_checksum_27 (by decide) rfl ?_
  obtain ⟨n27, h⟩ := h
  exact pw_sub hG [0, 1, 3] rfl (b_Mo_checksum_28 hG hR n27 v0 x21 0 S23 o0 h)
theorem ct_Mo_checksum (l : Launch) (Δ : QDl) {Λ : QLay} (hΛ : LayOk Λ) {v0 : Nat} {S : QMem} {Q : Int → QMem → Prop} (o0 : qob Λ 10 v0) (h : w_Mo_checksum Λ v0 S Q) : QCt l y_Mo_checksum c_Mo_checksum 4 (some .long) 8 180 Δ Λ [.ref v0] S (qJ Q) :=
  QCt.mk (own := "TreeDifferModel") hΛ (by decide) rfl rfl (Nat.le_of_ble_eq_true rfl) (fun G hG ri rz rv rj ra => b_Mo_checksum_0 hG (fun pc lv x S d hq => rj pc lv x S rfl d ⟨x, rfl, hq⟩) v0 S o0 h)
