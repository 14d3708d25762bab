theorem k_Mo_equal : QVf y_Mo_equal c_Mo_equal 3 (some .int) "TreeDifferModel" 2 := ⟨m_1022, m_1023, m_11, m_1024, by decide +kernel⟩
theorem b_Mo_equal_0 {Λ : QLay} {G : Nat → List (Nat × Value) → List Value → QMem → Prop} {Q : Int → QMem → Prop} (hG : QAct c_Mo_equal "TreeDifferModel" 3 { frames := 3, cells := 0, slots := 0, locals := 70 } Λ G) (hR : RtI c_Mo_equal G Q) (v0 : Nat) (v1 : Int) (v2 : Int) (S : QMem) (o0 : qob Λ 10 v0) (h : w_Mo_equal Λ v0 v1 v2 S Q) : G 0 [(0, .ref v0), (1, vI v1), (2, vI v2)] [] S := by
  have hΛ := hG.lay
  unfold w_Mo_equal at h
  refine pw_aload_n (pc := 0) hG d_Mo_equal_0 rfl ?_
  refine pw_iconst (pc := 1) hG d_Mo_equal_1 ?_
  refine pw_iload_n (pc := 2) hG d_Mo_equal_2 rfl ?_
  refine pw_calli (pc := 3) hG (fun l Δ => ct_Mo_isNode l Δ hΛ o0 h) o0 rfl (by decide) m_997 k_Mo_isNode rfl ⟨by decide, by decide⟩ (Nat.le_of_ble_eq_true rfl) d_Mo_equal_3 rfl (fun r3 S3 h => ?_)
  obtain ⟨hrx6, ha6, hb6⟩ := h
  refine pw_if_eq (tgt := 18) (pc := 6) hG d_Mo_equal_6 (by decide) hrx6 (fun hc6 => ?_) (fun hc6 => ?_)
  · replace h := ha6 hc6
    refine pw_bipush (pc := 18) hG d_Mo_equal_18 (by decide) ?_
    exact hR 20 _ _ _ d_Mo_equal_20 h
  · replace h := hb6 hc6
    refine pw_aload_n (pc := 9) hG d_Mo_equal_9 rfl ?_
    refine pw_iconst (pc := 10) hG d_Mo_equal_10 ?_
    refine pw_iload_n (pc := 11) hG d_Mo_equal_11 rfl ?_
    refine pw_calli (pc := 12) hG (fun l Δ => ct_Mo_isNode l Δ hΛ o0 h) o0 rfl (by decide) m_997 k_Mo_isNode rfl ⟨by decide, by decide⟩ (Nat.le_of_ble_eq_true rfl) d_Mo_equal_12 rfl (fun r12 S12 h => ?_)
    obtain ⟨hrx15, ha15, hb15⟩ := h
    refine pw_if_ne (tgt := 21) (pc := 15) hG d_Mo_equal_15 (by decide) hrx15 (fun hc15 => ?_) (fun hc15 => ?_)
    · replace h := ha15 hc15
      refine pw_aload_n (pc := 21) hG d_Mo_equal_21 rfl ?_
      refine pw_iload_n (pc := 22) hG d_Mo_equal_22 rfl ?_
      refine pw_iload_n (pc := 23) hG d_Mo_equal_23 rfl ?_
      refine pw_calli (pc := 24) hG (fun l Δ => ct_Mo_areEqual l Δ hΛ o0 h) o0 rfl (by decide) m_1025 k_Mo_areEqual rfl ⟨by decide, by decide⟩ (Nat.le_of_ble_eq_true rfl) d_Mo_equal_24 rfl (fun r24 S24 h => ?_)
      obtain ⟨hrx27, ha27, hb27⟩ := h
      refine pw_if_eq (tgt := 34) (pc := 27) hG d_Mo_equal_27 (by decide) hrx27 (fun hc27 => ?_) (fun hc27 => ?_)
      · replace h := ha27 hc27
        refine pw_iconst (pc := 34) hG d_Mo_equal_34 ?_
        exact hR 35 _ _ _ d_Mo_equal_35 h
      · replace h := hb27 hc27
        refine pw_iconst (pc := 30) hG d_Mo_equal_30 ?_
        refine pw_goto (tgt := 35) (pc := 31) hG d_Mo_equal_31 (by decide) ?_
        exact hR 35 _ _ _ d_Mo_equal_35 h
    · replace h := hb15 hc15
      refine pw_bipush (pc := 18) hG d_Mo_equal_18 (by decide) ?_
      exact hR 20 _ _ _ d_Mo_equal_20 h
theorem ct_Mo_equal (l : Launch) (Δ : QDl) {Λ : QLay} (hΛ : LayOk Λ) {v0 : Nat} {v1 : Int} {v2 : Int} {S : QMem} {Q : Int → QMem → Prop} (o0 : qob Λ 10 v0) (h : w_Mo_equal Λ v0 v1 v2 S Q) : QCt l y_Mo_equal c_Mo_equal 3 (some .int) 3 70 Δ Λ [.ref v0, vI v1, vI v2] S (qI Q) :=
  QCt.mk (own := "TreeDifferModel") hΛ (by decide) rfl rfl (Nat.le_of_ble_eq_true rfl) (fun G hG ri rz rv rj ra => b_Mo_equal_0 hG (fun pc lv x S d hq => ri pc lv x S rfl d ⟨x, rfl, hq⟩) v0 v1 v2 S o0 h)
theorem k_Mo_joins : QVf y_Mo_joins c_Mo_joins 4 none "TreeDifferModel" 3 := ⟨m_1063, m_p56, m_11, m_1064, by decide +kernel⟩
theorem b_Mo_joins_0 {Λ : QLay} {G : Nat → List (Nat × Value) → List Value → QMem → Prop} {Q : QMem → Prop} (hG : QAct c_Mo_joins "TreeDifferModel" 4 { frames := 0, cells := 0, slots := 0, locals := 0 } Λ G) (hR : RtV c_Mo_joins G Q) (v0 : Nat) (v1 : Int) (v2 : Int) (v3 : Int) (S : QMem) (o0 : qob Λ 10 v0) (h : w_Mo_joins Λ v0 v1 v2 v3 S Q) : G 0 [(0, .ref v0), (1, vI v1), (2, vI v2), (3, vI v3)] [] S := by
  have hΛ := hG.lay
  unfold w_Mo_joins at h
  refine pw_aload_n (pc := 0) hG d_Mo_joins_0 rfl ?_
  refine g10_21 (pc := 1) hG m_823 d_Mo_joins_1 o0 ?_
  refine pw_iload_n (pc := 4) hG d_Mo_joins_4 rfl ?_
  refine pw_iload_n (pc := 5) hG d_Mo_joins_5 rfl ?_
  obtain ⟨hi6, h⟩ := h
  refine pw_sI (pc := 6) hG (q_arr hΛ o0 rfl (by decide)) hi6 d_Mo_joins_6 (fun S6 eS6 => ?_)
  replace h := h S6 eS6
  refine pw_aload_n (pc := 7) hG d_Mo_joins_7 rfl ?_
  refine g10_22 (pc := 8) hG m_824 d_Mo_joins_8 o0 ?_
  refine pw_iload_n (pc := 11) hG d_Mo_joins_11 rfl ?_
  refine pw_iload_n (pc := 12) hG d_Mo_joins_12 rfl ?_
  obtain ⟨hi13, h⟩ := h
  refine pw_sI (pc := 13) hG (q_arr hΛ o0 rfl (by decide)) hi13 d_Mo_joins_13 (fun S13 eS13 => ?_)
  replace h := h S13 eS13
  refine pw_aload_n (pc := 14) hG d_Mo_joins_14 rfl ?_
  refine g10_23 (pc := 15) hG m_825 d_Mo_joins_15 o0 ?_
  refine pw_iload_n (pc := 18) hG d_Mo_joins_18 rfl ?_
  refine pw_iload_n (pc := 19) hG d_Mo_joins_19 rfl ?_
  obtain ⟨hi20, h⟩ := h
  refine pw_sI (pc := 20) hG (q_arr hΛ o0 rfl (by decide)) hi20 d_Mo_joins_20 (fun S20 eS20 => ?_)
  replace h := h S20 eS20
  exact hR 21 _ _ d_Mo_joins_21 h
theorem ct_Mo_joins (l : Launch) (Δ : QDl) {Λ : QLay} (hΛ : LayOk Λ) {v0 : Nat} {v1 : Int} {v2 : Int} {v3 : Int} {S : QMem} {Q : QMem → Prop} (o0 : qob Λ 10 v0) (h : w_Mo_joins Λ v0 v1 v2 v3 S Q) : QCt l y_Mo_joins c_Mo_joins 4 none 0 0 Δ Λ [.ref v0, vI v1, vI v2, vI v3] S (qV Q) :=
  QCt.mk (own := "TreeDifferModel") hΛ (by decide) rfl rfl (Nat.le_of_ble_eq_true rfl) (fun G hG ri rz rv rj ra => b_Mo_joins_0 hG (fun pc lv S d hq => rv pc lv S rfl d ⟨rfl, hq⟩) v0 v1 v2 v3 S o0 h)
theorem k_Mo_kinship : QVf y_Mo_kinship c_Mo_kinship 6 (some .int) "TreeDifferModel" 2 := ⟨m_1055, m_p54, m_11, m_1056, by decide +kernel⟩
theorem b_Mo_kinship_26 {Λ : QLay} {G : Nat → List (Nat × Value) → List Value → QMem → Prop} {Q : Int → QMem → Prop} (hG : QAct c_Mo_kinship "TreeDifferModel" 6 { frames := 1, cells := 0, slots := 0, locals := 21 } Λ G) (hR : RtI c_Mo_kinship G Q) : ∀ (n : Nat) (v0 : Nat) (v3 : Int) (v4 : Int) (v5 : Int) (S : QMem), qob Λ 10 v0 → w_Mo_kinship_26 Λ Q n v0 v3 v4 v5 S → G 26 [(0, .ref v0), (3, vI v3), (4, vI v4), (5, vI v5)] [] S := by
  have hΛ := hG.lay
  intro n
  induction n with
  | zero => intro v0 v3 v4 v5 S o_v0 h; exact h.elim
  | succ n ih =>
    intro v0 v3 v4 v5 S o_v0 h
    rw [w_Mo_kinship_26] at h
    refine pw_iload (pc := 26) hG d_Mo_kinship_26 rfl ?_
    obtain ⟨hrx28, ha28, hb28⟩ := h
    refine pw_if_lt (tgt := 93) (pc := 28) hG d_Mo_kinship_28 (by decide) hrx28 (fun hc28 => ?_) (fun hc28 => ?_)
    · replace h := ha28 hc28
      refine pw_iload_n (pc := 93) hG d_Mo_kinship_93 rfl ?_
      exact hR 94 _ _ _ d_Mo_kinship_94 h
    · replace h := hb28 hc28
      refine pw_iload (pc := 31) hG d_Mo_kinship_31 rfl ?_
      obtain ⟨hrx33, ha33, hb33⟩ := h
      refine pw_if_lt (tgt := 93) (pc := 33) hG d_Mo_kinship_33 (by decide) hrx33 (fun hc33 => ?_) (fun hc33 => ?_)
      · replace h := ha33 hc33
        refine pw_iload_n (pc := 93) hG d_Mo_kinship_93 rfl ?_
        exact hR 94 _ _ _ d_Mo_kinship_94 h
      · replace h := hb33 hc33
        refine pw_aload_n (pc := 36) hG d_Mo_kinship_36 rfl ?_
        refine g10_1 (pc := 37) hG m_803 d_Mo_kinship_37 o_v0 ?_
        refine pw_iconst (pc := 40) hG d_Mo_kinship_40 ?_
        refine pw_iload (pc := 41) hG d_Mo_kinship_41 rfl ?_
        refine pw_scalli (pc := 43) hG (fun l Δ => ct_Mo_at l Δ hΛ  h) m_791 k_Mo_at rfl ⟨by decide, by decide⟩ (Nat.le_of_ble_eq_true rfl) d_Mo_kinship_43 rfl (fun r43 S43 h => ?_)
        obtain ⟨hi46, h⟩ := h
        refine pw_aI (pc := 46) hG (q_arr hΛ o_v0 rfl (by decide)) hi46 d_Mo_kinship_46 ?_
        refine pw_aload_n (pc := 47) hG d_Mo_kinship_47 rfl ?_
        refine g10_1 (pc := 48) hG m_803 d_Mo_kinship_48 o_v0 ?_
        refine pw_iconst (pc := 51) hG d_Mo_kinship_51 ?_
        refine pw_iload (pc := 52) hG d_Mo_kinship_52 rfl ?_
        refine pw_scalli (pc := 54) hG (fun l Δ => ct_Mo_at l Δ hΛ  h) m_791 k_Mo_at rfl ⟨by decide, by decide⟩ (Nat.le_of_ble_eq_true rfl) d_Mo_kinship_54 rfl (fun r54 S54 h => ?_)
        obtain ⟨hi57, h⟩ := h
        refine pw_aI (pc := 57) hG (q_arr hΛ o_v0 rfl (by decide)) hi57 d_Mo_kinship_57 ?_
        obtain ⟨hrx58, hry58, ha58, hb58⟩ := h
        refine pw_icmp_ne (tgt := 93) (pc := 58) hG d_Mo_kinship_58 (by decide) hrx58 hry58 (fun hc58 => ?_) (fun hc58 => ?_)
        · replace h := ha58 hc58
          refine pw_iload_n (pc := 93) hG d_Mo_kinship_93 rfl ?_
          exact hR 94 _ _ _ d_Mo_kinship_94 h
        · replace h := hb58 hc58
          refine pw_iinc0 (pc := 61) hG d_Mo_kinship_61 rfl (by decide) rfl ?_
          refine pw_aload_n (pc := 64) hG d_Mo_kinship_64 rfl ?_
          refine g10_3 (pc := 65) hG m_805 d_Mo_kinship_65 o_v0 ?_
          refine pw_iconst (pc := 68) hG d_Mo_kinship_68 ?_
          refine pw_iload (pc := 69) hG d_Mo_kinship_69 rfl ?_
          refine pw_scalli (pc := 71) hG (fun l Δ => ct_Mo_at l Δ hΛ  h) m_791 k_Mo_at rfl ⟨by decide, by decide⟩ (Nat.le_of_ble_eq_true rfl) d_Mo_kinship_71 rfl (fun r71 S71 h => ?_)
          obtain ⟨hi74, h⟩ := h
          refine pw_aI (pc := 74) hG (q_arr hΛ o_v0 rfl (by decide)) hi74 d_Mo_kinship_74 ?_
          refine pw_istore (pc := 75) hG d_Mo_kinship_75 (by decide) (fun x75 ex75 => ⟨_, rfl, ?_⟩)
          replace h := h x75 ex75
          refine pw_aload_n (pc := 77) hG d_Mo_kinship_77 rfl ?_
          refine g10_3 (pc := 78) hG m_805 d_Mo_kinship_78 o_v0 ?_
          refine pw_iconst (pc := 81) hG d_Mo_kinship_81 ?_
          refine pw_iload (pc := 82) hG d_Mo_kinship_82 rfl ?_
          refine pw_scalli (pc := 84) hG (fun l Δ => ct_Mo_at l Δ hΛ  h) m_791 k_Mo_at rfl ⟨by decide, by decide⟩ (Nat.le_of_ble_eq_true rfl) d_Mo_kinship_84 rfl (fun r84 S84 h => ?_)
          obtain ⟨hi87, h⟩ := h
          refine pw_aI (pc := 87) hG (q_arr hΛ o_v0 rfl (by decide)) hi87 d_Mo_kinship_87 ?_
          refine pw_istore (pc := 88) hG d_Mo_kinship_88 (by decide) (fun x88 ex88 => ⟨_, rfl, ?_⟩)
          replace h := h x88 ex88
          refine pw_goto (tgt := 26) (pc := 90) hG d_Mo_kinship_90 (by decide) ?_
          exact pw_sub hG [0, 3, 4, 5] rfl (ih v0 (v3 + 1) x75 x88 S84 o_v0 h)
theorem b_Mo_kinship_0 {Λ : QLay} {G : Nat → List (Nat × Value) → List Value → QMem → Prop} {Q : Int → QMem → Prop} (hG : QAct c_Mo_kinship "TreeDifferModel" 6 { frames := 1, cells := 0, slots := 0, locals := 21 } Λ G) (hR : RtI c_Mo_kinship G Q) (v0 : Nat) (v1 : Int) (v2 : Int) (S : QMem) (o0 : qob Λ 10 v0) (h : w_Mo_kinship Λ v0 v1 v2 S Q) : G 0 [(0, .ref v0), (1, vI v1), (2, vI v2)] [] S := by
  have hΛ := hG.lay
  unfold w_Mo_kinship at h
  refine pw_iconst (pc := 0) hG d_Mo_kinship_0 ?_
  refine pw_ist_n (pc := 1) hG d_Mo_kinship_1 (by decide) rfl ?_
  refine pw_aload_n (pc := 2) hG d_Mo_kinship_2 rfl ?_
  refine g10_3 (pc := 3) hG m_805 d_Mo_kinship_3 o0 ?_
  refine pw_iconst (pc := 6) hG d_Mo_kinship_6 ?_
  refine pw_iload_n (pc := 7) hG d_Mo_kinship_7 rfl ?_
  refine pw_scalli (pc := 8) hG (fun l Δ => ct_Mo_at l Δ hΛ  h) m_791 k_Mo_at rfl ⟨by decide, by decide⟩ (Nat.le_of_ble_eq_true rfl) d_Mo_kinship_8 rfl (fun r8 S8 h => ?_)
  obtain ⟨hi11, h⟩ := h
  refine pw_aI (pc := 11) hG (q_arr hΛ o0 rfl (by decide)) hi11 d_Mo_kinship_11 ?_
  refine pw_istore (pc := 12) hG d_Mo_kinship_12 (by decide) (fun x12 ex12 => ⟨_, rfl, ?_⟩)
  replace h := h x12 ex12
  refine pw_aload_n (pc := 14) hG d_Mo_kinship_14 rfl ?_
  refine g10_3 (pc := 15) hG m_805 d_Mo_kinship_15 o0 ?_
  refine pw_iconst (pc := 18) hG d_Mo_kinship_18 ?_
  refine pw_iload_n (pc := 19) hG d_Mo_kinship_19 rfl ?_
  refine pw_scalli (pc := 20) hG (fun l Δ => ct_Mo_at l Δ hΛ  h) m_791 k_Mo_at rfl ⟨by decide, by decide⟩ (Nat.le_of_ble_eq_true rfl) d_Mo_kinship_20 rfl (fun r20 S20 h => ?_)
  obtain ⟨hi23, h⟩ := h
  refine pw_aI (pc := 23) hG (q_arr hΛ o0 rfl (by decide)) hi23 d_Mo_kinship_23 ?_
  refine pw_istore (pc := 24) hG d_Mo_kinship_24 (by decide) (fun x24 ex24 => ⟨_, rfl, ?_⟩)
  replace h := h x24 ex24
  obtain ⟨n24, h⟩ := h
  exact pw_sub hG [0, 3, 4, 5] rfl (b_Mo_kinship_26 hG hR n24 v0 0 x12 x24 S20 o0 h)
theorem ct_Mo_kinship (l : Launch) (Δ : QDl) {Λ : QLay} (hΛ : LayOk Λ) {v0 : Nat} {v1 : Int} {v2 : Int} {S : QMem} {Q : Int → QMem → Prop} (o0 : qob Λ 10 v0) (h : w_Mo_kinship Λ v0 v1 v2 S Q) : QCt l y_Mo_kinship c_Mo_kinship 6 (some .int) 1 21 Δ Λ [.ref v0, vI v1, vI v2] S (qI Q) :=
  QCt.mk (own := "TreeDifferModel") hΛ (by decide) rfl rfl (Nat.le_of_ble_eq_true rfl) (fun G hG ri rz rv rj ra => b_Mo_kinship_0 hG (fun pc lv x S d hq => ri pc lv x S rfl d ⟨x, rfl, hq⟩) v0 v1 v2 S o0 h)
theorem k_Mo_bestPair : QVf y_Mo_bestPair c_Mo_bestPair 9 (some .int) "TreeDifferModel" 1 := ⟨m_1051, m_p53, m_11, m_1052, by decide +kernel⟩
theorem b_Mo_bestPair_153 {Λ : QLay} {G : Nat → List (Nat × Value) → List Value → QMem → Prop} {Q : Int → QMem → Prop} (hG : QAct c_Mo_bestPair "TreeDifferModel" 9 { frames := 3, cells := 0, slots := 0, locals := 70 } Λ G) (hR : RtI c_Mo_bestPair G Q) {K10 : Nat → Int → Int → Int → Int → Int → QMem → Prop} {K24 : Nat → Int → Int → Int → Int → Int → Int → QMem → Prop} (hK10 : ∀ (v0 : Nat) (v1 : Int) (v2 : Int) (v3 : Int) (v4 : Int) (v5 : Int) (S : QMem), qob Λ 10 v0 → K10 v0 v1 v2 v3 v4 v5 S → G 10 [(0, .ref v0), (1, vI v1), (2, vI v2), (3, vI v3), (4, vI v4), (5, vI v5)] [] S) (hK24 : ∀ (v0 : Nat) (v1 : Int) (v2 : Int) (v3 : Int) (v4 : Int) (v5 : Int) (v6 : Int) (S : QMem), qob Λ 10 v0 → K24 v0 v1 v2 v3 v4 v5 v6 S → G 24 [(0, .ref v0), (1, vI v1), (2, vI v2), (3, vI v3), (4, vI v4), (5, vI v5), (6, vI v6)] [] S) (v0 : Nat) (v1 : Int) (v5 : Int) (v6 : Int) (v7 : Int) (v8 : Int) (S : QMem) (o_v0 : qob Λ 10 v0) (h : w_Mo_bestPair_153 Λ K10 K24 Q v0 v1 v5 v6 v7 v8 S) : G 153 [(0, .ref v0), (1, vI v1), (5, vI v5), (6, vI v6), (7, vI v7), (8, vI v8)] [] S := by
  have hΛ := hG.lay
  unfold w_Mo_bestPair_153 at h
  refine pw_bipush (pc := 153) hG d_Mo_bestPair_153 (by decide) ?_
  refine pw_iload (pc := 155) hG d_Mo_bestPair_155 rfl ?_
  refine pw_imul (pc := 157) hG d_Mo_bestPair_157 ?_
  refine pw_iload (pc := 158) hG d_Mo_bestPair_158 rfl ?_
  refine pw_iadd (pc := 160) hG d_Mo_bestPair_160 ?_
  refine pw_istore_n (pc := 161) hG d_Mo_bestPair_161 (by decide) (fun x161 ex161 => ⟨_, rfl, ?_⟩)
  replace h := h x161 ex161
  refine pw_iload (pc := 162) hG d_Mo_bestPair_162 rfl ?_
  refine pw_ist_n (pc := 164) hG d_Mo_bestPair_164 (by decide) rfl ?_
  refine pw_iload (pc := 165) hG d_Mo_bestPair_165 rfl ?_
  refine pw_ist (pc := 167) hG d_Mo_bestPair_167 (by decide) rfl ?_
  refine pw_iinc0 (pc := 169) hG d_Mo_bestPair_169 rfl (by decide) rfl ?_
  refine pw_goto (tgt := 24) (pc := 172) hG d_Mo_bestPair_172 (by decide) ?_
  exact pw_sub hG [0, 1, 2, 3, 4, 5, 6] rfl (hK24 v0 v1 x161 v7 v8 v5 (v6 + 1) S o_v0 h)
theorem b_Mo_bestPair_128 {Λ : QLay} {G : Nat → List (Nat × Value) → List Value → QMem → Prop} {Q : Int → QMem → Prop} (hG : QAct c_Mo_bestPair "TreeDifferModel" 9 { frames := 3, cells := 0, slots := 0, locals := 70 } Λ G) (hR : RtI c_Mo_bestPair G Q) {K10 : Nat → Int → Int → Int → Int → Int → QMem → Prop} {K24 : Nat → Int → Int → Int → Int → Int → Int → QMem → Prop} (hK10 : ∀ (v0 : Nat) (v1 : Int) (v2 : Int) (v3 : Int) (v4 : Int) (v5 : Int) (S : QMem), qob Λ 10 v0 → K10 v0 v1 v2 v3 v4 v5 S → G 10 [(0, .ref v0), (1, vI v1), (2, vI v2), (3, vI v3), (4, vI v4), (5, vI v5)] [] S) (hK24 : ∀ (v0 : Nat) (v1 : Int) (v2 : Int) (v3 : Int) (v4 : Int) (v5 : Int) (v6 : Int) (S : QMem), qob Λ 10 v0 → K24 v0 v1 v2 v3 v4 v5 v6 S → G 24 [(0, .ref v0), (1, vI v1), (2, vI v2), (3, vI v3), (4, vI v4), (5, vI v5), (6, vI v6)] [] S) (v0 : Nat) (v1 : Int) (v2 : Int) (v3 : Int) (v4 : Int) (v5 : Int) (v6 : Int) (v7 : Int) (s0 : Int) (S : QMem) (o_v0 : qob Λ 10 v0) (h : w_Mo_bestPair_128 Λ K10 K24 Q v0 v1 v2 v3 v4 v5 v6 v7 s0 S) : G 128 [(0, .ref v0), (1, vI v1), (2, vI v2), (3, vI v3), (4, vI v4), (5, vI v5), (6, vI v6), (7, vI v7)] [vI s0] S := by
  have hΛ := hG.lay
  unfold w_Mo_bestPair_128 at h
  refine pw_ist (pc := 128) hG d_Mo_bestPair_128 (by decide) rfl ?_
  refine pw_iload_n (pc := 130) hG d_Mo_bestPair_130 rfl ?_
  obtain ⟨hrx131, ha131, hb131⟩ := h
  refine pw_if_lt (tgt := 153) (pc := 131) hG d_Mo_bestPair_131 (by decide) hrx131 (fun hc131 => ?_) (fun hc131 => ?_)
  · replace h := ha131 hc131
    exact pw_sub hG [0, 1, 5, 6, 7, 8] rfl (b_Mo_bestPair_153 hG hR hK10 hK24 v0 v1 v5 v6 v7 s0 S o_v0 h)
  · replace h := hb131 hc131
    refine pw_iload (pc := 134) hG d_Mo_bestPair_134 rfl ?_
    refine pw_iload_n (pc := 136) hG d_Mo_bestPair_136 rfl ?_
    obtain ⟨hrx137, hry137, ha137, hb137⟩ := h
    refine pw_icmp_gt (tgt := 153) (pc := 137) hG d_Mo_bestPair_137 (by decide) hrx137 hry137 (fun hc137 => ?_) (fun hc137 => ?_)
    · replace h := ha137 hc137
      exact pw_sub hG [0, 1, 5, 6, 7, 8] rfl (b_Mo_bestPair_153 hG hR hK10 hK24 v0 v1 v5 v6 v7 s0 S o_v0 h)
    · replace h := hb137 hc137
      refine pw_iload (pc := 140) hG d_Mo_bestPair_140 rfl ?_
      refine pw_iload_n (pc := 142) hG d_Mo_bestPair_142 rfl ?_
      obtain ⟨hrx143, hry143, ha143, hb143⟩ := h
      refine pw_icmp_ne (tgt := 169) (pc := 143) hG d_Mo_bestPair_143 (by decide) hrx143 hry143 (fun hc143 => ?_) (fun hc143 => ?_)
      · replace h := ha143 hc143
        refine pw_iinc0 (pc := 169) hG d_Mo_bestPair_169 rfl (by decide) rfl ?_
        refine pw_goto (tgt := 24) (pc := 172) hG d_Mo_bestPair_172 (by decide) ?_
        exact pw_sub hG [0, 1, 2, 3, 4, 5, 6] rfl (hK24 v0 v1 v2 v3 v4 v5 (v6 + 1) S o_v0 h)
      · replace h := hb143 hc143
        refine pw_iload (pc := 146) hG d_Mo_bestPair_146 rfl ?_
        refine pw_iload (pc := 148) hG d_Mo_bestPair_148 rfl ?_
        obtain ⟨hrx150, hry150, ha150, hb150⟩ := h
        refine pw_icmp_ge (tgt := 169) (pc := 150) hG d_Mo_bestPair_150 (by decide) hrx150 hry150 (fun hc150 => ?_) (fun hc150 => ?_)
        · replace h := ha150 hc150
          refine pw_iinc0 (pc := 169) hG d_Mo_bestPair_169 rfl (by decide) rfl ?_
          refine pw_goto (tgt := 24) (pc := 172) hG d_Mo_bestPair_172 (by decide) ?_
          exact pw_sub hG [0, 1, 2, 3, 4, 5, 6] rfl (hK24 v0 v1 v2 v3 v4 v5 (v6 + 1) S o_v0 h)
        · replace h := hb150 hc150
          exact pw_sub hG [0, 1, 5, 6, 7, 8] rfl (b_Mo_bestPair_153 hG hR hK10 hK24 v0 v1 v5 v6 v7 s0 S o_v0 h)
theorem b_Mo_bestPair_24 {Λ : QLay} {G : Nat → List (Nat × Value) → List Value → QMem → Prop} {Q : Int → QMem → Prop} (hG : QAct c_Mo_bestPair "TreeDifferModel" 9 { frames := 3, cells := 0, slots := 0, locals := 70 } Λ G) (hR : RtI c_Mo_bestPair G Q) {K10 : Nat → Int → Int → Int → Int → Int → QMem → Prop} (hK10 : ∀ (v0 : Nat) (v1 : Int) (v2 : Int) (v3 : Int) (v4 : Int) (v5 : Int) (S : QMem), qob Λ 10 v0 → K10 v0 v1 v2 v3 v4 v5 S → G 10 [(0, .ref v0), (1, vI v1), (2, vI v2), (3, vI v3), (4, vI v4), (5, vI v5)] [] S) : ∀ (n : Nat) (v0 : Nat) (v1 : Int) (v2 : Int) (v3 : Int) (v4 : Int) (v5 : Int) (v6 : Int) (S : QMem), qob Λ 10 v0 → w_Mo_bestPair_24 Λ K10 Q n v0 v1 v2 v3 v4 v5 v6 S → G 24 [(0, .ref v0), (1, vI v1), (2, vI v2), (3, vI v3), (4, vI v4), (5, vI v5), (6, vI v6)] [] S := by
  have hΛ := hG.lay
  intro n
  induction n with
  | zero => intro v0 v1 v2 v3 v4 v5 v6 S o_v0 h; exact h.elim
  | succ n ih =>
    intro v0 v1 v2 v3 v4 v5 v6 S o_v0 h
    rw [w_Mo_bestPair_24] at h
    refine pw_iload (pc := 24) hG d_Mo_bestPair_24 rfl ?_
    refine pw_aload_n (pc := 26) hG d_Mo_bestPair_26 rfl ?_
    refine g10_0 (pc := 27) hG m_802 d_Mo_bestPair_27 o_v0 ?_
    refine pw_iconst (pc := 30) hG d_Mo_bestPair_30 ?_
    refine pw_aI (pc := 31) hG (q_arr hΛ o_v0 rfl (by decide)) (by decide) d_Mo_bestPair_31 ?_
    obtain ⟨hrx32, hry32, ha32, hb32⟩ := h
    refine pw_icmp_ge (tgt := 175) (pc := 32) hG d_Mo_bestPair_32 (by decide) hrx32 hry32 (fun hc32 => ?_) (fun hc32 => ?_)
    · replace h := ha32 hc32
      refine pw_iinc0 (pc := 175) hG d_Mo_bestPair_175 rfl (by decide) rfl ?_
      refine pw_goto (tgt := 10) (pc := 178) hG d_Mo_bestPair_178 (by decide) ?_
      exact pw_sub hG [0, 1, 2, 3, 4, 5] rfl (hK10 v0 v1 v2 v3 v4 (v5 + 1) S o_v0 h)
    · replace h := hb32 hc32
      refine pw_aload_n (pc := 35) hG d_Mo_bestPair_35 rfl ?_
      refine g10_21 (pc := 36) hG m_823 d_Mo_bestPair_36 o_v0 ?_
      refine pw_iload (pc := 39) hG d_Mo_bestPair_39 rfl ?_
      obtain ⟨hi41, h⟩ := h
      refine pw_aI (pc := 41) hG (q_arr hΛ o_v0 rfl (by decide)) hi41 d_Mo_bestPair_41 ?_
      obtain ⟨hrx42, ha42, hb42⟩ := h
      refine pw_if_ge (tgt := 175) (pc := 42) hG d_Mo_bestPair_42 (by decide) hrx42 (fun hc42 => ?_) (fun hc42 => ?_)
      · replace h := ha42 hc42
        refine pw_iinc0 (pc := 175) hG d_Mo_bestPair_175 rfl (by decide) rfl ?_
        refine pw_goto (tgt := 10) (pc := 178) hG d_Mo_bestPair_178 (by decide) ?_
        exact pw_sub hG [0, 1, 2, 3, 4, 5] rfl (hK10 v0 v1 v2 v3 v4 (v5 + 1) S o_v0 h)
      · replace h := hb42 hc42
        refine pw_aload_n (pc := 45) hG d_Mo_bestPair_45 rfl ?_
        refine pw_iconst (pc := 46) hG d_Mo_bestPair_46 ?_
        refine pw_iload (pc := 47) hG d_Mo_bestPair_47 rfl ?_
        refine pw_calli (pc := 49) hG (fun l Δ => ct_Mo_height l Δ hΛ o_v0 h) o_v0 rfl (by decide) m_1005 k_Mo_height rfl ⟨by decide, by decide⟩ (Nat.le_of_ble_eq_true rfl) d_Mo_bestPair_49 rfl (fun r49 S49 h => ?_)
        refine pw_iload_n (pc := 52) hG d_Mo_bestPair_52 rfl ?_
        obtain ⟨hrx53, hry53, ha53, hb53⟩ := h
        refine pw_icmp_ne (tgt := 175) (pc := 53) hG d_Mo_bestPair_53 (by decide) hrx53 hry53 (fun hc53 => ?_) (fun hc53 => ?_)
        · replace h := ha53 hc53
          refine pw_iinc0 (pc := 175) hG d_Mo_bestPair_175 rfl (by decide) rfl ?_
          refine pw_goto (tgt := 10) (pc := 178) hG d_Mo_bestPair_178 (by decide) ?_
          exact pw_sub hG [0, 1, 2, 3, 4, 5] rfl (hK10 v0 v1 v2 v3 v4 (v5 + 1) S49 o_v0 h)
        · replace h := hb53 hc53
          refine pw_aload_n (pc := 56) hG d_Mo_bestPair_56 rfl ?_
          refine g10_22 (pc := 57) hG m_824 d_Mo_bestPair_57 o_v0 ?_
          refine pw_iload (pc := 60) hG d_Mo_bestPair_60 rfl ?_
          obtain ⟨hi62, h⟩ := h
          refine pw_aI (pc := 62) hG (q_arr hΛ o_v0 rfl (by decide)) hi62 d_Mo_bestPair_62 ?_
          obtain ⟨hrx63, ha63, hb63⟩ := h
          refine pw_if_ge (tgt := 169) (pc := 63) hG d_Mo_bestPair_63 (by decide) hrx63 (fun hc63 => ?_) (fun hc63 => ?_)
          · replace h := ha63 hc63
            refine pw_iinc0 (pc := 169) hG d_Mo_bestPair_169 rfl (by decide) rfl ?_
            refine pw_goto (tgt := 24) (pc := 172) hG d_Mo_bestPair_172 (by decide) ?_
            exact pw_sub hG [0, 1, 2, 3, 4, 5, 6] rfl (ih v0 v1 v2 v3 v4 v5 (v6 + 1) S49 o_v0 h)
          · replace h := hb63 hc63
            refine pw_aload_n (pc := 66) hG d_Mo_bestPair_66 rfl ?_
            refine pw_iconst (pc := 67) hG d_Mo_bestPair_67 ?_
            refine pw_iload (pc := 68) hG d_Mo_bestPair_68 rfl ?_
            refine pw_calli (pc := 70) hG (fun l Δ => ct_Mo_height l Δ hΛ o_v0 h) o_v0 rfl (by decide) m_1005 k_Mo_height rfl ⟨by decide, by decide⟩ (Nat.le_of_ble_eq_true rfl) d_Mo_bestPair_70 rfl (fun r70 S70 h => ?_)
            refine pw_iload_n (pc := 73) hG d_Mo_bestPair_73 rfl ?_
            obtain ⟨hrx74, hry74, ha74, hb74⟩ := h
            refine pw_icmp_ne (tgt := 169) (pc := 74) hG d_Mo_bestPair_74 (by decide) hrx74 hry74 (fun hc74 => ?_) (fun hc74 => ?_)
            · replace h := ha74 hc74
              refine pw_iinc0 (pc := 169) hG d_Mo_bestPair_169 rfl (by decide) rfl ?_
              refine pw_goto (tgt := 24) (pc := 172) hG d_Mo_bestPair_172 (by decide) ?_
              exact pw_sub hG [0, 1, 2, 3, 4, 5, 6] rfl (ih v0 v1 v2 v3 v4 v5 (v6 + 1) S70 o_v0 h)
            · replace h := hb74 hc74
              refine pw_aload_n (pc := 77) hG d_Mo_bestPair_77 rfl ?_
              refine pw_iload (pc := 78) hG d_Mo_bestPair_78 rfl ?_
              refine pw_iload (pc := 80) hG d_Mo_bestPair_80 rfl ?_
              refine pw_calli (pc := 82) hG (fun l Δ => ct_Mo_areEqual l Δ hΛ o_v0 h) o_v0 rfl (by decide) m_1025 k_Mo_areEqual rfl ⟨by decide, by decide⟩ (Nat.le_of_ble_eq_true rfl) d_Mo_bestPair_82 rfl (fun r82 S82 h => ?_)
              obtain ⟨hrx85, ha85, hb85⟩ := h
              refine pw_if_eq (tgt := 169) (pc := 85) hG d_Mo_bestPair_85 (by decide) hrx85 (fun hc85 => ?_) (fun hc85 => ?_)
              · replace h := ha85 hc85
                refine pw_iinc0 (pc := 169) hG d_Mo_bestPair_169 rfl (by decide) rfl ?_
                refine pw_goto (tgt := 24) (pc := 172) hG d_Mo_bestPair_172 (by decide) ?_
                exact pw_sub hG [0, 1, 2, 3, 4, 5, 6] rfl (ih v0 v1 v2 v3 v4 v5 (v6 + 1) S82 o_v0 h)
              · replace h := hb85 hc85
                refine pw_aload_n (pc := 88) hG d_Mo_bestPair_88 rfl ?_
                refine pw_iload (pc := 89) hG d_Mo_bestPair_89 rfl ?_
                refine pw_iload (pc := 91) hG d_Mo_bestPair_91 rfl ?_
                refine pw_calli (pc := 93) hG (fun l Δ => ct_Mo_kinship l Δ hΛ o_v0 h) o_v0 rfl (by decide) m_1053 k_Mo_kinship rfl ⟨by decide, by decide⟩ (Nat.le_of_ble_eq_true rfl) d_Mo_bestPair_93 rfl (fun r93 S93 h => ?_)
                refine pw_ist (pc := 96) hG d_Mo_bestPair_96 (by decide) rfl ?_
                refine pw_aload_n (pc := 98) hG d_Mo_bestPair_98 rfl ?_
                refine pw_iconst (pc := 99) hG d_Mo_bestPair_99 ?_
                refine pw_iload (pc := 100) hG d_Mo_bestPair_100 rfl ?_
                refine pw_calli (pc := 102) hG (fun l Δ => ct_Mo_placeOf l Δ hΛ o_v0 h) o_v0 rfl (by decide) m_1057 k_Mo_placeOf rfl ⟨by decide, by decide⟩ (Nat.le_of_ble_eq_true rfl) d_Mo_bestPair_102 rfl (fun r102 S102 h => ?_)
                refine pw_aload_n (pc := 105) hG d_Mo_bestPair_105 rfl ?_
                refine pw_iconst (pc := 106) hG d_Mo_bestPair_106 ?_
                refine pw_iload (pc := 107) hG d_Mo_bestPair_107 rfl ?_
                refine pw_calli (pc := 109) hG (fun l Δ => ct_Mo_placeOf l Δ hΛ o_v0 h) o_v0 rfl (by decide) m_1057 k_Mo_placeOf rfl ⟨by decide, by decide⟩ (Nat.le_of_ble_eq_true rfl) d_Mo_bestPair_109 rfl (fun r109 S109 h => ?_)
                refine pw_isub (pc := 112) hG d_Mo_bestPair_112 ?_
                refine pw_istore (pc := 113) hG d_Mo_bestPair_113 (by decide) (fun x113 ex113 => ⟨_, rfl, ?_⟩)
                replace h := h x113 ex113
                refine pw_iload (pc := 115) hG d_Mo_bestPair_115 rfl ?_
                obtain ⟨hrx117, ha117, hb117⟩ := h
                refine pw_if_ge (tgt := 126) (pc := 117) hG d_Mo_bestPair_117 (by decide) hrx117 (fun hc117 => ?_) (fun hc117 => ?_)
                · replace h := ha117 hc117
                  refine pw_iload (pc := 126) hG d_Mo_bestPair_126 rfl ?_
                  exact pw_sub hG [0, 1, 2, 3, 4, 5, 6, 7] rfl (b_Mo_bestPair_128 hG hR hK10 ih v0 v1 v2 v3 v4 v5 v6 r93 x113 S109 o_v0 h)
                · replace h := hb117 hc117
                  refine pw_iload (pc := 120) hG d_Mo_bestPair_120 rfl ?_
                  refine pw_ineg (pc := 122) hG d_Mo_bestPair_122 ?_
                  refine pw_goto (tgt := 128) (pc := 123) hG d_Mo_bestPair_123 (by decide) ?_
                  exact pw_sub hG [0, 1, 2, 3, 4, 5, 6, 7] rfl (b_Mo_bestPair_128 hG hR hK10 ih v0 v1 v2 v3 v4 v5 v6 r93 (-x113) S109 o_v0 h)
theorem b_Mo_bestPair_10 {Λ : QLay} {G : Nat → List (Nat × Value) → List Value → QMem → Prop} {Q : Int → QMem → Prop} (hG : QAct c_Mo_bestPair "TreeDifferModel" 9 { frames := 3, cells := 0, slots := 0, locals := 70 } Λ G) (hR : RtI c_Mo_bestPair G Q) : ∀ (n : Nat) (v0 : Nat) (v1 : Int) (v2 : Int) (v3 : Int) (v4 : Int) (v5 : Int) (S : QMem), qob Λ 10 v0 → w_Mo_bestPair_10 Λ Q n v0 v1 v2 v3 v4 v5 S → G 10 [(0, .ref v0), (1, vI v1), (2, vI v2), (3, vI v3), (4, vI v4), (5, vI v5)] [] S := by
  have hΛ := hG.lay
  intro n
  induction n with
  | zero => intro v0 v1 v2 v3 v4 v5 S o_v0 h; exact h.elim
  | succ n ih =>
    intro v0 v1 v2 v3 v4 v5 S o_v0 h
    rw [w_Mo_bestPair_10] at h
    refine pw_iload (pc := 10) hG d_Mo_bestPair_10 rfl ?_
    refine pw_aload_n (pc := 12) hG d_Mo_bestPair_12 rfl ?_
    refine g10_0 (pc := 13) hG m_802 d_Mo_bestPair_13 o_v0 ?_
    refine pw_iconst (pc := 16) hG d_Mo_bestPair_16 ?_
    refine pw_aI (pc := 17) hG (q_arr hΛ o_v0 rfl (by decide)) (by decide) d_Mo_bestPair_17 ?_
    obtain ⟨hrx18, hry18, ha18, hb18⟩ := h
    refine pw_icmp_ge (tgt := 181) (pc := 18) hG d_Mo_bestPair_18 (by decide) hrx18 hry18 (fun hc18 => ?_) (fun hc18 => ?_)
    · replace h := ha18 hc18
      refine pw_iload_n (pc := 181) hG d_Mo_bestPair_181 rfl ?_
      exact hR 182 _ _ _ d_Mo_bestPair_182 h
    · replace h := hb18 hc18
      refine pw_iconst (pc := 21) hG d_Mo_bestPair_21 ?_
      refine pw_ist (pc := 22) hG d_Mo_bestPair_22 (by decide) rfl ?_
      obtain ⟨n22, h⟩ := h
      exact pw_sub hG [0, 1, 2, 3, 4, 5, 6] rfl (b_Mo_bestPair_24 hG hR ih n22 v0 v1 v2 v3 v4 v5 0 S o_v0 h)
theorem b_Mo_bestPair_0 {Λ : QLay} {G : Nat → List (Nat × Value) → List Value → QMem → Prop} {Q : Int → QMem → Prop} (hG : QAct c_Mo_bestPair "TreeDifferModel" 9 { frames := 3, cells := 0, slots := 0, locals := 70 } Λ G) (hR : RtI c_Mo_bestPair G Q) (v0 : Nat) (v1 : Int) (S : QMem) (o0 : qob Λ 10 v0) (h : w_Mo_bestPair Λ v0 v1 S Q) : G 0 [(0, .ref v0), (1, vI v1)] [] S := by
  have hΛ := hG.lay
  unfold w_Mo_bestPair at h
  refine pw_iconst (pc := 0) hG d_Mo_bestPair_0 ?_
  refine pw_ist_n (pc := 1) hG d_Mo_bestPair_1 (by decide) rfl ?_
  refine pw_iconst (pc := 2) hG d_Mo_bestPair_2 ?_
  refine pw_ist_n (pc := 3) hG d_Mo_bestPair_3 (by decide) rfl ?_
  refine pw_iconst (pc := 4) hG d_Mo_bestPair_4 ?_
  refine pw_ist (pc := 5) hG d_Mo_bestPair_5 (by decide) rfl ?_
  refine pw_iconst (pc := 7) hG d_Mo_bestPair_7 ?_
  refine pw_ist (pc := 8) hG d_Mo_bestPair_8 (by decide) rfl ?_
  obtain ⟨n8, h⟩ := h
  exact pw_sub hG [0, 1, 2, 3, 4, 5] rfl (b_Mo_bestPair_10 hG hR n8 v0 v1 (-1) 0 0 0 S o0 h)
theorem ct_Mo_bestPair (l : Launch) (Δ : QDl) {Λ : QLay} (hΛ : LayOk Λ) {v0 : Nat} {v1 : Int} {S : QMem} {Q : Int → QMem → Prop} (o0 : qob Λ 10 v0) (h : w_Mo_bestPair Λ v0 v1 S Q) : QCt l y_Mo_bestPair c_Mo_bestPair 9 (some .int) 3 70 Δ Λ [.ref v0, vI v1] S (qI Q) :=
  QCt.mk (own := "TreeDifferModel") hΛ (by decide) rfl rfl (Nat.le_of_ble_eq_true rfl) (fun G hG ri rz rv rj ra => b_Mo_bestPair_0 hG (fun pc lv x S d hq => ri pc lv x S rfl d ⟨x, rfl, hq⟩) v0 v1 S o0 h)
theorem k_Mo_matchesDown : QVf y_Mo_matchesDown c_Mo_matchesDown 5 none "TreeDifferModel" 0 := ⟨m_1047, m_p52, m_11, m_1048, by decide +kernel⟩
theorem b_Mo_matchesDown_34 {Λ : QLay} {G : Nat → List (Nat × Value) → List Value → QMem → Prop} {Q : QMem → Prop} (hG : QAct c_Mo_matchesDown "TreeDifferModel" 5 { frames := 4, cells := 0, slots := 0, locals := 98 } Λ G) (hR : RtV c_Mo_matchesDown G Q) {K3 : Nat → Int → QMem → Prop} {K17 : Nat → Int → Int → QMem → Prop} (hK3 : ∀ (v0 : Nat) (v1 : Int) (S : QMem), qob Λ 10 v0 → K3 v0 v1 S → G 3 [(0, .ref v0), (1, vI v1)] [] S) (hK17 : ∀ (v0 : Nat) (v1 : Int) (v2 : Int) (S : QMem), qob Λ 10 v0 → K17 v0 v1 v2 S → G 17 [(0, .ref v0), (1, vI v1), (2, vI v2)] [] S) : ∀ (n : Nat) (v0 : Nat) (v1 : Int) (v2 : Int) (v3 : Int) (v4 : Int) (S : QMem), qob Λ 10 v0 → w_Mo_matchesDown_34 Λ K3 K17 Q n v0 v1 v2 v3 v4 S → G 34 [(0, .ref v0), (1, vI v1), (2, vI v2), (3, vI v3), (4, vI v4)] [] S := by
  have hΛ := hG.lay
  intro n
  induction n with
  | zero => intro v0 v1 v2 v3 v4 S o_v0 h; exact h.elim
  | succ n ih =>
    intro v0 v1 v2 v3 v4 S o_v0 h
    rw [w_Mo_matchesDown_34] at h
    refine pw_iload (pc := 34) hG d_Mo_matchesDown_34 rfl ?_
    refine pw_iload_n (pc := 36) hG d_Mo_matchesDown_36 rfl ?_
    obtain ⟨hrx37, hry37, ha37, hb37⟩ := h
    refine pw_icmp_ge (tgt := 65) (pc := 37) hG d_Mo_matchesDown_37 (by decide) hrx37 hry37 (fun hc37 => ?_) (fun hc37 => ?_)
    · replace h := ha37 hc37
      refine pw_aload_n (pc := 65) hG d_Mo_matchesDown_65 rfl ?_
      refine pw_iload_n (pc := 66) hG d_Mo_matchesDown_66 rfl ?_
      refine pw_calli (pc := 67) hG (fun l Δ => ct_Mo_bestPair l Δ hΛ o_v0 h) o_v0 rfl (by decide) m_1049 k_Mo_bestPair rfl ⟨by decide, by decide⟩ (Nat.le_of_ble_eq_true rfl) d_Mo_matchesDown_67 rfl (fun r67 S67 h => ?_)
      refine pw_ist_n (pc := 70) hG d_Mo_matchesDown_70 (by decide) rfl ?_
      refine pw_goto (tgt := 17) (pc := 71) hG d_Mo_matchesDown_71 (by decide) ?_
      exact pw_sub hG [0, 1, 2] rfl (hK17 v0 v1 r67 S67 o_v0 h)
    · replace h := hb37 hc37
      refine pw_aload_n (pc := 40) hG d_Mo_matchesDown_40 rfl ?_
      refine pw_iload_n (pc := 41) hG d_Mo_matchesDown_41 rfl ?_
      refine pw_bipush (pc := 42) hG d_Mo_matchesDown_42 (by decide) ?_
      obtain ⟨hx44, h⟩ := h
      refine pw_idiv (pc := 44) hG d_Mo_matchesDown_44 hx44 ⟨by decide, q_lit rfl⟩ ?_
      refine pw_iload (pc := 45) hG d_Mo_matchesDown_45 rfl ?_
      refine pw_iadd (pc := 47) hG d_Mo_matchesDown_47 ?_
      refine pw_iload_n (pc := 48) hG d_Mo_matchesDown_48 rfl ?_
      refine pw_bipush (pc := 49) hG d_Mo_matchesDown_49 (by decide) ?_
      obtain ⟨hx51, h⟩ := h
      refine pw_irem (pc := 51) hG d_Mo_matchesDown_51 hx51 ⟨by decide, q_lit rfl⟩ ?_
      refine pw_iload (pc := 52) hG d_Mo_matchesDown_52 rfl ?_
      refine pw_iadd (pc := 54) hG d_Mo_matchesDown_54 ?_
      refine pw_iconst (pc := 55) hG d_Mo_matchesDown_55 ?_
      refine pw_callv (pc := 56) hG (fun l Δ => ct_Mo_joins l Δ hΛ o_v0 h) o_v0 rfl (by decide) m_1061 k_Mo_joins rfl ⟨by decide, by decide⟩ (Nat.le_of_ble_eq_true rfl) d_Mo_matchesDown_56 rfl (fun S56 h => ?_)
      refine pw_iinc0 (pc := 59) hG d_Mo_matchesDown_59 rfl (by decide) rfl ?_
      refine pw_goto (tgt := 34) (pc := 62) hG d_Mo_matchesDown_62 (by decide) ?_
      exact pw_sub hG [0, 1, 2, 3, 4] rfl (ih v0 v1 v2 v3 (v4 + 1) S56 o_v0 h)
theorem b_Mo_matchesDown_17 {Λ : QLay} {G : Nat → List (Nat × Value) → List Value → QMem → Prop} {Q : QMem → Prop} (hG : QAct c_Mo_matchesDown "TreeDifferModel" 5 { frames := 4, cells := 0, slots := 0, locals := 98 } Λ G) (hR : RtV c_Mo_matchesDown G Q) {K3 : Nat → Int → QMem → Prop} (hK3 : ∀ (v0 : Nat) (v1 : Int) (S : QMem), qob Λ 10 v0 → K3 v0 v1 S → G 3 [(0, .ref v0), (1, vI v1)] [] S) : ∀ (n : Nat) (v0 : Nat) (v1 : Int) (v2 : Int) (S : QMem), qob Λ 10 v0 → w_Mo_matchesDown_17 Λ K3 Q n v0 v1 v2 S → G 17 [(0, .ref v0), (1, vI v1), (2, vI v2)] [] S := by
  have hΛ := hG.lay
  intro n
  induction n with
  | zero => intro v0 v1 v2 S o_v0 h; exact h.elim
  | succ n ih =>
    intro v0 v1 v2 S o_v0 h
    rw [w_Mo_matchesDown_17] at h
    refine pw_iload_n (pc := 17) hG d_Mo_matchesDown_17 rfl ?_
    obtain ⟨hrx18, ha18, hb18⟩ := h
    refine pw_if_lt (tgt := 74) (pc := 18) hG d_Mo_matchesDown_18 (by decide) hrx18 (fun hc18 => ?_) (fun hc18 => ?_)
    · replace h := ha18 hc18
      refine pw_iinc0 (pc := 74) hG d_Mo_matchesDown_74 rfl (by decide) rfl ?_
      refine pw_goto (tgt := 3) (pc := 77) hG d_Mo_matchesDown_77 (by decide) ?_
      exact pw_sub hG [0, 1] rfl (hK3 v0 (v1 + (-1)) S o_v0 h)
    · replace h := hb18 hc18
      refine pw_aload_n (pc := 21) hG d_Mo_matchesDown_21 rfl ?_
      refine pw_iconst (pc := 22) hG d_Mo_matchesDown_22 ?_
      refine pw_iload_n (pc := 23) hG d_Mo_matchesDown_23 rfl ?_
      refine pw_bipush (pc := 24) hG d_Mo_matchesDown_24 (by decide) ?_
      obtain ⟨hx26, h⟩ := h
      refine pw_idiv (pc := 26) hG d_Mo_matchesDown_26 hx26 ⟨by decide, q_lit rfl⟩ ?_
      refine pw_calli (pc := 27) hG (fun l Δ => ct_Mo_size l Δ hΛ o_v0 h) o_v0 rfl (by decide) m_1009 k_Mo_size rfl ⟨by decide, by decide⟩ (Nat.le_of_ble_eq_true rfl) d_Mo_matchesDown_27 rfl (fun r27 S27 h => ?_)
      refine pw_ist_n (pc := 30) hG d_Mo_matchesDown_30 (by decide) rfl ?_
      refine pw_iconst (pc := 31) hG d_Mo_matchesDown_31 ?_
      refine pw_ist (pc := 32) hG d_Mo_matchesDown_32 (by decide) rfl ?_
      obtain ⟨n32, h⟩ := h
      exact pw_sub hG [0, 1, 2, 3, 4] rfl (b_Mo_matchesDown_34 hG hR hK3 ih n32 v0 v1 v2 r27 0 S27 o_v0 h)
theorem b_Mo_matchesDown_3 {Λ : QLay} {G : Nat → List (Nat × Value) → List Value → QMem → Prop} {Q : QMem → Prop} (hG : QAct c_Mo_matchesDown "TreeDifferModel" 5 { frames := 4, cells := 0, slots := 0, locals := 98 } Λ G) (hR : RtV c_Mo_matchesDown G Q) : ∀ (n : Nat) (v0 : Nat) (v1 : Int) (S : QMem), qob Λ 10 v0 → w_Mo_matchesDown_3 Λ Q n v0 v1 S → G 3 [(0, .ref v0), (1, vI v1)] [] S := by
  have hΛ := hG.lay
  intro n
  induction n with
  | zero => intro v0 v1 S o_v0 h; exact h.elim
  | succ n ih =>
    intro v0 v1 S o_v0 h
    rw [w_Mo_matchesDown_3] at h
    refine pw_iload_n (pc := 3) hG d_Mo_matchesDown_3 rfl ?_
    refine pw_aload_n (pc := 4) hG d_Mo_matchesDown_4 rfl ?_
    refine g10_4 (pc := 5) hG m_806 d_Mo_matchesDown_5 o_v0 ?_
    obtain ⟨hrx8, hry8, ha8, hb8⟩ := h
    refine pw_icmp_lt (tgt := 80) (pc := 8) hG d_Mo_matchesDown_8 (by decide) hrx8 hry8 (fun hc8 => ?_) (fun hc8 => ?_)
    · replace h := ha8 hc8
      exact hR 80 _ _ d_Mo_matchesDown_80 h
    · replace h := hb8 hc8
      refine pw_aload_n (pc := 11) hG d_Mo_matchesDown_11 rfl ?_
      refine pw_iload_n (pc := 12) hG d_Mo_matchesDown_12 rfl ?_
      refine pw_calli (pc := 13) hG (fun l Δ => ct_Mo_bestPair l Δ hΛ o_v0 h) o_v0 rfl (by decide) m_1049 k_Mo_bestPair rfl ⟨by decide, by decide⟩ (Nat.le_of_ble_eq_true rfl) d_Mo_matchesDown_13 rfl (fun r13 S13 h => ?_)
      refine pw_ist_n (pc := 16) hG d_Mo_matchesDown_16 (by decide) rfl ?_
      obtain ⟨n16, h⟩ := h
      exact pw_sub hG [0, 1, 2] rfl (b_Mo_matchesDown_17 hG hR ih n16 v0 v1 r13 S13 o_v0 h)
theorem b_Mo_matchesDown_0 {Λ : QLay} {G : Nat → List (Nat × Value) → List Value → QMem → Prop} {Q : QMem → Prop} (hG : QAct c_Mo_matchesDown "TreeDifferModel" 5 { frames := 4, cells := 0, slots := 0, locals := 98 } Λ G) (hR : RtV c_Mo_matchesDown G Q) (v0 : Nat) (S : QMem) (o0 : qob Λ 10 v0) (h : w_Mo_matchesDown Λ v0 S Q) : G 0 [(0, .ref v0)] [] S := by
  have hΛ := hG.lay
  unfold w_Mo_matchesDown at h
  refine pw_bipush (pc := 0) hG d_Mo_matchesDown_0 (by decide) ?_
  refine pw_ist_n (pc := 2) hG d_Mo_matchesDown_2 (by decide) rfl ?_
  obtain ⟨n2, h⟩ := h
  exact pw_sub hG [0, 1] rfl (b_Mo_matchesDown_3 hG hR n2 v0 24 S o0 h)
theorem ct_Mo_matchesDown (l : Launch) (Δ : QDl) {Λ : QLay} (hΛ : LayOk Λ) {v0 : Nat} {S : QMem} {Q : QMem → Prop} (o0 : qob Λ 10 v0) (h : w_Mo_matchesDown Λ v0 S Q) : QCt l y_Mo_matchesDown c_Mo_matchesDown 5 none 4 98 Δ Λ [.ref v0] S (qV Q) :=
  QCt.mk (own := "TreeDifferModel") hΛ (by decide) rfl rfl (Nat.le_of_ble_eq_true rfl) (fun G hG ri rz rv rj ra => b_Mo_matchesDown_0 hG (fun pc lv S d hq => rv pc lv S rfl d ⟨rfl, hq⟩) v0 S o0 h)
theorem k_Mo_common : QVf y_Mo_common c_Mo_common 5 (some .int) "TreeDifferModel" 2 := ⟨m_1075, m_p59, m_11, m_1076, by decide +kernel⟩
theorem b_Mo_common_7 {Λ : QLay} {G : Nat → List (Nat × Value) → List Value → QMem → Prop} {Q : Int → QMem → Prop} (hG : QAct c_Mo_common "TreeDifferModel" 5 { frames := 3, cells := 0, slots := 0, locals := 66 } Λ G) (hR : RtI c_Mo_common G Q) : ∀ (n : Nat) (v0 : Nat) (v1 : Int) (v2 : Int) (v3 : Int) (v4 : Int) (S : QMem), qob Λ 10 v0 → w_Mo_common_7 Λ Q n v0 v1 v2 v3 v4 S → G 7 [(0, .ref v0), (1, vI v1), (2, vI v2), (3, vI v3), (4, vI v4)] [] S := by
  have hΛ := hG.lay
  intro n
  induction n with
  | zero => intro v0 v1 v2 v3 v4 S o_v0 h; exact h.elim
  | succ n ih =>
    intro v0 v1 v2 v3 v4 S o_v0 h
    rw [w_Mo_common_7] at h
    refine pw_iload (pc := 7) hG d_Mo_common_7 rfl ?_
    refine pw_iload_n (pc := 9) hG d_Mo_common_9 rfl ?_
    refine pw_aload_n (pc := 10) hG d_Mo_common_10 rfl ?_
    refine pw_iconst (pc := 11) hG d_Mo_common_11 ?_
    refine pw_iload_n (pc := 12) hG d_Mo_common_12 rfl ?_
    refine pw_calli (pc := 13) hG (fun l Δ => ct_Mo_size l Δ hΛ o_v0 h) o_v0 rfl (by decide) m_1009 k_Mo_size rfl ⟨by decide, by decide⟩ (Nat.le_of_ble_eq_true rfl) d_Mo_common_13 rfl (fun r13 S13 h => ?_)
    refine pw_iadd (pc := 16) hG d_Mo_common_16 ?_
    obtain ⟨hrx17, hry17, ha17, hb17⟩ := h
    refine pw_icmp_ge (tgt := 60) (pc := 17) hG d_Mo_common_17 (by decide) hrx17 hry17 (fun hc17 => ?_) (fun hc17 => ?_)
    · replace h := ha17 hc17
      refine pw_iload_n (pc := 60) hG d_Mo_common_60 rfl ?_
      exact hR 61 _ _ _ d_Mo_common_61 h
    · replace h := hb17 hc17
      refine pw_iload_n (pc := 20) hG d_Mo_common_20 rfl ?_
      refine pw_aload_n (pc := 21) hG d_Mo_common_21 rfl ?_
      refine g10_21 (pc := 22) hG m_823 d_Mo_common_22 o_v0 ?_
      refine pw_iload (pc := 25) hG d_Mo_common_25 rfl ?_
      obtain ⟨hi27, h⟩ := h
      refine pw_aI (pc := 27) hG (q_arr hΛ o_v0 rfl (by decide)) hi27 d_Mo_common_27 ?_
      obtain ⟨hrx28, ha28, hb28⟩ := h
      refine pw_if_lt (tgt := 51) (pc := 28) hG d_Mo_common_28 (by decide) hrx28 (fun hc28 => ?_) (fun hc28 => ?_)
      · replace h := ha28 hc28
        refine pw_iconst (pc := 51) hG d_Mo_common_51 ?_
        refine pw_iadd (pc := 52) hG d_Mo_common_52 ?_
        refine pw_istore_n (pc := 53) hG d_Mo_common_53 (by decide) (fun x53 ex53 => ⟨_, rfl, ?_⟩)
        replace h := h x53 ex53
        refine pw_iinc0 (pc := 54) hG d_Mo_common_54 rfl (by decide) rfl ?_
        refine pw_goto (tgt := 7) (pc := 57) hG d_Mo_common_57 (by decide) ?_
        exact pw_sub hG [0, 1, 2, 3, 4] rfl (ih v0 v1 v2 x53 (v4 + 1) S13 o_v0 h)
      · replace h := hb28 hc28
        refine pw_aload_n (pc := 31) hG d_Mo_common_31 rfl ?_
        refine pw_iconst (pc := 32) hG d_Mo_common_32 ?_
        refine pw_aload_n (pc := 33) hG d_Mo_common_33 rfl ?_
        refine g10_21 (pc := 34) hG m_823 d_Mo_common_34 o_v0 ?_
        refine pw_iload (pc := 37) hG d_Mo_common_37 rfl ?_
        obtain ⟨hi39, h⟩ := h
        refine pw_aI (pc := 39) hG (q_arr hΛ o_v0 rfl (by decide)) hi39 d_Mo_common_39 ?_
        refine pw_iload_n (pc := 40) hG d_Mo_common_40 rfl ?_
        refine pw_calli (pc := 41) hG (fun l Δ => ct_Mo_isBelow l Δ hΛ o_v0 h) o_v0 rfl (by decide) m_1077 k_Mo_isBelow rfl ⟨by decide, by decide⟩ (Nat.le_of_ble_eq_true rfl) d_Mo_common_41 rfl (fun r41 S41 h => ?_)
        obtain ⟨hrx44, ha44, hb44⟩ := h
        refine pw_if_eq (tgt := 51) (pc := 44) hG d_Mo_common_44 (by decide) hrx44 (fun hc44 => ?_) (fun hc44 => ?_)
        · replace h := ha44 hc44
          refine pw_iconst (pc := 51) hG d_Mo_common_51 ?_
          refine pw_iadd (pc := 52) hG d_Mo_common_52 ?_
          refine pw_istore_n (pc := 53) hG d_Mo_common_53 (by decide) (fun x53 ex53 => ⟨_, rfl, ?_⟩)
          replace h := h x53 ex53
          refine pw_iinc0 (pc := 54) hG d_Mo_common_54 rfl (by decide) rfl ?_
          refine pw_goto (tgt := 7) (pc := 57) hG d_Mo_common_57 (by decide) ?_
          exact pw_sub hG [0, 1, 2, 3, 4] rfl (ih v0 v1 v2 x53 (v4 + 1) S41 o_v0 h)
        · replace h := hb44 hc44
          refine pw_iconst (pc := 47) hG d_Mo_common_47 ?_
          refine pw_goto (tgt := 52) (pc := 48) hG d_Mo_common_48 (by decide) ?_
          refine pw_iadd (pc := 52) hG d_Mo_common_52 ?_
          refine pw_istore_n (pc := 53) hG d_Mo_common_53 (by decide) (fun x53 ex53 => ⟨_, rfl, ?_⟩)
          replace h := h x53 ex53
          refine pw_iinc0 (pc := 54) hG d_Mo_common_54 rfl (by decide) rfl ?_
          refine pw_goto (tgt := 7) (pc := 57) hG d_Mo_common_57 (by decide) ?_
          exact pw_sub hG [0, 1, 2, 3, 4] rfl (ih v0 v1 v2 x53 (v4 + 1) S41 o_v0 h)
theorem b_Mo_common_0 {Λ : QLay} {G : Nat → List (Nat × Value) → List Value → QMem → Prop} {Q : Int → QMem → Prop} (hG : QAct c_Mo_common "TreeDifferModel" 5 { frames := 3, cells := 0, slots := 0, locals := 66 } Λ G) (hR : RtI c_Mo_common G Q) (v0 : Nat) (v1 : Int) (v2 : Int) (S : QMem) (o0 : qob Λ 10 v0) (h : w_Mo_common Λ v0 v1 v2 S Q) : G 0 [(0, .ref v0), (1, vI v1), (2, vI v2)] [] S := by
  have hΛ := hG.lay
  unfold w_Mo_common at h
  refine pw_iconst (pc := 0) hG d_Mo_common_0 ?_
  refine pw_ist_n (pc := 1) hG d_Mo_common_1 (by decide) rfl ?_
  refine pw_iload_n (pc := 2) hG d_Mo_common_2 rfl ?_
  refine pw_iconst (pc := 3) hG d_Mo_common_3 ?_
  refine pw_iadd (pc := 4) hG d_Mo_common_4 ?_
  refine pw_istore (pc := 5) hG d_Mo_common_5 (by decide) (fun x5 ex5 => ⟨_, rfl, ?_⟩)
  replace h := h x5 ex5
  obtain ⟨n5, h⟩ := h
  exact pw_sub hG [0, 1, 2, 3, 4] rfl (b_Mo_common_7 hG hR n5 v0 v1 v2 0 x5 S o0 h)
theorem ct_Mo_common (l : Launch) (Δ : QDl) {Λ : QLay} (hΛ : LayOk Λ) {v0 : Nat} {v1 : Int} {v2 : Int} {S : QMem} {Q : Int → QMem → Prop} (o0 : qob Λ 10 v0) (h : w_Mo_common Λ v0 v1 v2 S Q) : QCt l y_Mo_common c_Mo_common 5 (some .int) 3 66 Δ Λ [.ref v0, vI v1, vI v2] S (qI Q) :=
  QCt.mk (own := "TreeDifferModel") hΛ (by decide) rfl rfl (Nat.le_of_ble_eq_true rfl) (fun G hG ri rz rv rj ra => b_Mo_common_0 hG (fun pc lv x S d hq => ri pc lv x S rfl d ⟨x, rfl, hq⟩) v0 v1 v2 S o0 h)
theorem k_Mo_both : QVf y_Mo_both c_Mo_both 3 (some .int) "TreeDifferModel" 2 := ⟨m_1083, m_p61, m_11, m_1084, by decide +kernel⟩
theorem b_Mo_both_0 {Λ : QLay} {G : Nat → List (Nat × Value) → List Value → QMem → Prop} {Q : Int → QMem → Prop} (hG : QAct c_Mo_both "TreeDifferModel" 3 { frames := 2, cells := 0, slots := 0, locals := 43 } Λ G) (hR : RtI c_Mo_both G Q) (v0 : Nat) (v1 : Int) (v2 : Int) (S : QMem) (o0 : qob Λ 10 v0) (h : w_Mo_both Λ v0 v1 v2 S Q) : G 0 [(0, .ref v0), (1, vI v1), (2, vI v2)] [] S := by
  have hΛ := hG.lay
  unfold w_Mo_both at h
  refine pw_aload_n (pc := 0) hG d_Mo_both_0 rfl ?_
  refine pw_iconst (pc := 1) hG d_Mo_both_1 ?_
  refine pw_iload_n (pc := 2) hG d_Mo_both_2 rfl ?_
  refine pw_calli (pc := 3) hG (fun l Δ => ct_Mo_size l Δ hΛ o0 h) o0 rfl (by decide) m_1009 k_Mo_size rfl ⟨by decide, by decide⟩ (Nat.le_of_ble_eq_true rfl) d_Mo_both_3 rfl (fun r3 S3 h => ?_)
  refine pw_aload_n (pc := 6) hG d_Mo_both_6 rfl ?_
  refine pw_iconst (pc := 7) hG d_Mo_both_7 ?_
  refine pw_iload_n (pc := 8) hG d_Mo_both_8 rfl ?_
  refine pw_calli (pc := 9) hG (fun l Δ => ct_Mo_size l Δ hΛ o0 h) o0 rfl (by decide) m_1009 k_Mo_size rfl ⟨by decide, by decide⟩ (Nat.le_of_ble_eq_true rfl) d_Mo_both_9 rfl (fun r9 S9 h => ?_)
  refine pw_iadd (pc := 12) hG d_Mo_both_12 ?_
  refine pw_iconst (pc := 13) hG d_Mo_both_13 ?_
  refine pw_isub (pc := 14) hG d_Mo_both_14 ?_
  exact hR 15 _ _ _ d_Mo_both_15 h
theorem ct_Mo_both (l : Launch) (Δ : QDl) {Λ : QLay} (hΛ : LayOk Λ) {v0 : Nat} {v1 : Int} {v2 : Int} {S : QMem} {Q : Int → QMem → Prop} (o0 : qob Λ 10 v0) (h : w_Mo_both Λ v0 v1 v2 S Q) : QCt l y_Mo_both c_Mo_both 3 (some .int) 2 43 Δ Λ [.ref v0, vI v1, vI v2] S (qI Q) :=
  QCt.mk (own := "TreeDifferModel") hΛ (by decide) rfl rfl (Nat.le_of_ble_eq_true rfl) (fun G hG ri rz rv rj ra => b_Mo_both_0 hG (fun pc lv x S d hq => ri pc lv x S rfl d ⟨x, rfl, hq⟩) v0 v1 v2 S o0 h)
theorem k_Mo_matchesUp : QVf y_Mo_matchesUp c_Mo_matchesUp 5 none "TreeDifferModel" 1 := ⟨m_1071, m_p58, m_11, m_1072, by decide +kernel⟩
theorem b_Mo_matchesUp_70 {Λ : QLay} {G : Nat → List (Nat × Value) → List Value → QMem → Prop} {Q : QMem → Prop} (hG : QAct c_Mo_matchesUp "TreeDifferModel" 5 { frames := 4, cells := 0, slots := 0, locals := 90 } Λ G) (hR : RtV c_Mo_matchesUp G Q) {K4 : Nat → Int → Int → Int → QMem → Prop} (hK4 : ∀ (v0 : Nat) (v1 : Int) (v2 : Int) (v3 : Int) (S : QMem), qob Λ 10 v0 → K4 v0 v1 v2 v3 S → G 4 [(0, .ref v0), (1, vI v1), (2, vI v2), (3, vI v3)] [] S) (v0 : Nat) (v1 : Int) (v2 : Int) (v3 : Int) (s0 : Int) (S : QMem) (o_v0 : qob Λ 10 v0) (h : w_Mo_matchesUp_70 Λ K4 Q v0 v1 v2 v3 s0 S) : G 70 [(0, .ref v0), (1, vI v1), (2, vI v2), (3, vI v3)] [vI s0] S := by
  have hΛ := hG.lay
  unfold w_Mo_matchesUp_70 at h
  refine pw_ist (pc := 70) hG d_Mo_matchesUp_70 (by decide) rfl ?_
  refine pw_iload (pc := 72) hG d_Mo_matchesUp_72 rfl ?_
  obtain ⟨hrx74, ha74, hb74⟩ := h
  refine pw_if_eq (tgt := 112) (pc := 74) hG d_Mo_matchesUp_74 (by decide) hrx74 (fun hc74 => ?_) (fun hc74 => ?_)
  · replace h := ha74 hc74
    refine pw_iinc0 (pc := 112) hG d_Mo_matchesUp_112 rfl (by decide) rfl ?_
    refine pw_goto (tgt := 4) (pc := 115) hG d_Mo_matchesUp_115 (by decide) ?_
    exact pw_sub hG [0, 1, 2, 3] rfl (hK4 v0 v1 v2 (v3 + 1) S o_v0 h)
  · replace h := hb74 hc74
    refine pw_iload_n (pc := 77) hG d_Mo_matchesUp_77 rfl ?_
    obtain ⟨hrx78, ha78, hb78⟩ := h
    refine pw_if_lt (tgt := 110) (pc := 78) hG d_Mo_matchesUp_78 (by decide) hrx78 (fun hc78 => ?_) (fun hc78 => ?_)
    · replace h := ha78 hc78
      refine pw_iload_n (pc := 110) hG d_Mo_matchesUp_110 rfl ?_
      refine pw_ist_n (pc := 111) hG d_Mo_matchesUp_111 (by decide) rfl ?_
      refine pw_iinc0 (pc := 112) hG d_Mo_matchesUp_112 rfl (by decide) rfl ?_
      refine pw_goto (tgt := 4) (pc := 115) hG d_Mo_matchesUp_115 (by decide) ?_
      exact pw_sub hG [0, 1, 2, 3] rfl (hK4 v0 v1 v3 (v3 + 1) S o_v0 h)
    · replace h := hb78 hc78
      refine pw_aload_n (pc := 81) hG d_Mo_matchesUp_81 rfl ?_
      refine pw_iload_n (pc := 82) hG d_Mo_matchesUp_82 rfl ?_
      refine pw_iload_n (pc := 83) hG d_Mo_matchesUp_83 rfl ?_
      refine pw_calli (pc := 84) hG (fun l Δ => ct_Mo_common l Δ hΛ o_v0 h) o_v0 rfl (by decide) m_1073 k_Mo_common rfl ⟨by decide, by decide⟩ (Nat.le_of_ble_eq_true rfl) d_Mo_matchesUp_84 rfl (fun r84 S84 h => ?_)
      refine pw_aload_n (pc := 87) hG d_Mo_matchesUp_87 rfl ?_
      refine pw_iload_n (pc := 88) hG d_Mo_matchesUp_88 rfl ?_
      refine pw_iload_n (pc := 89) hG d_Mo_matchesUp_89 rfl ?_
      refine pw_calli (pc := 90) hG (fun l Δ => ct_Mo_both l Δ hΛ o_v0 h) o_v0 rfl (by decide) m_1081 k_Mo_both rfl ⟨by decide, by decide⟩ (Nat.le_of_ble_eq_true rfl) d_Mo_matchesUp_90 rfl (fun r90 S90 h => ?_)
      refine pw_imul (pc := 93) hG d_Mo_matchesUp_93 ?_
      refine pw_aload_n (pc := 94) hG d_Mo_matchesUp_94 rfl ?_
      refine pw_iload_n (pc := 95) hG d_Mo_matchesUp_95 rfl ?_
      refine pw_iload_n (pc := 96) hG d_Mo_matchesUp_96 rfl ?_
      refine pw_calli (pc := 97) hG (fun l Δ => ct_Mo_common l Δ hΛ o_v0 h) o_v0 rfl (by decide) m_1073 k_Mo_common rfl ⟨by decide, by decide⟩ (Nat.le_of_ble_eq_true rfl) d_Mo_matchesUp_97 rfl (fun r97 S97 h => ?_)
      refine pw_aload_n (pc := 100) hG d_Mo_matchesUp_100 rfl ?_
      refine pw_iload_n (pc := 101) hG d_Mo_matchesUp_101 rfl ?_
      refine pw_iload_n (pc := 102) hG d_Mo_matchesUp_102 rfl ?_
      refine pw_calli (pc := 103) hG (fun l Δ => ct_Mo_both l Δ hΛ o_v0 h) o_v0 rfl (by decide) m_1081 k_Mo_both rfl ⟨by decide, by decide⟩ (Nat.le_of_ble_eq_true rfl) d_Mo_matchesUp_103 rfl (fun r103 S103 h => ?_)
      refine pw_imul (pc := 106) hG d_Mo_matchesUp_106 ?_
      obtain ⟨hrx107, hry107, ha107, hb107⟩ := h
      refine pw_icmp_le (tgt := 112) (pc := 107) hG d_Mo_matchesUp_107 (by decide) hrx107 hry107 (fun hc107 => ?_) (fun hc107 => ?_)
      · replace h := ha107 hc107
        refine pw_iinc0 (pc := 112) hG d_Mo_matchesUp_112 rfl (by decide) rfl ?_
        refine pw_goto (tgt := 4) (pc := 115) hG d_Mo_matchesUp_115 (by decide) ?_
        exact pw_sub hG [0, 1, 2, 3] rfl (hK4 v0 v1 v2 (v3 + 1) S103 o_v0 h)
      · replace h := hb107 hc107
        refine pw_iload_n (pc := 110) hG d_Mo_matchesUp_110 rfl ?_
        refine pw_ist_n (pc := 111) hG d_Mo_matchesUp_111 (by decide) rfl ?_
        refine pw_iinc0 (pc := 112) hG d_Mo_matchesUp_112 rfl (by decide) rfl ?_
        refine pw_goto (tgt := 4) (pc := 115) hG d_Mo_matchesUp_115 (by decide) ?_
        exact pw_sub hG [0, 1, 2, 3] rfl (hK4 v0 v1 v3 (v3 + 1) S103 o_v0 h)
theorem b_Mo_matchesUp_69 {Λ : QLay} {G : Nat → List (Nat × Value) → List Value → QMem → Prop} {Q : QMem → Prop} (hG : QAct c_Mo_matchesUp "TreeDifferModel" 5 { frames := 4, cells := 0, slots := 0, locals := 90 } Λ G) (hR : RtV c_Mo_matchesUp G Q) {K4 : Nat → Int → Int → Int → QMem → Prop} (hK4 : ∀ (v0 : Nat) (v1 : Int) (v2 : Int) (v3 : Int) (S : QMem), qob Λ 10 v0 → K4 v0 v1 v2 v3 S → G 4 [(0, .ref v0), (1, vI v1), (2, vI v2), (3, vI v3)] [] S) (v0 : Nat) (v1 : Int) (v2 : Int) (v3 : Int) (S : QMem) (o_v0 : qob Λ 10 v0) (h : w_Mo_matchesUp_69 Λ K4 Q v0 v1 v2 v3 S) : G 69 [(0, .ref v0), (1, vI v1), (2, vI v2), (3, vI v3)] [] S := by
  have hΛ := hG.lay
  unfold w_Mo_matchesUp_69 at h
  refine pw_iconst (pc := 69) hG d_Mo_matchesUp_69 ?_
  exact pw_sub hG [0, 1, 2, 3] rfl (b_Mo_matchesUp_70 hG hR hK4 v0 v1 v2 v3 0 S o_v0 h)
theorem b_Mo_matchesUp_4 {Λ : QLay} {G : Nat → List (Nat × Value) → List Value → QMem → Prop} {Q : QMem → Prop} (hG : QAct c_Mo_matchesUp "TreeDifferModel" 5 { frames := 4, cells := 0, slots := 0, locals := 90 } Λ G) (hR : RtV c_Mo_matchesUp G Q) : ∀ (n : Nat) (v0 : Nat) (v1 : Int) (v2 : Int) (v3 : Int) (S : QMem), qob Λ 10 v0 → w_Mo_matchesUp_4 Λ Q n v0 v1 v2 v3 S → G 4 [(0, .ref v0), (1, vI v1), (2, vI v2), (3, vI v3)] [] S := by
  have hΛ := hG.lay
  intro n
  induction n with
  | zero => intro v0 v1 v2 v3 S o_v0 h; exact h.elim
  | succ n ih =>
    intro v0 v1 v2 v3 S o_v0 h
    rw [w_Mo_matchesUp_4] at h
    refine pw_iload_n (pc := 4) hG d_Mo_matchesUp_4 rfl ?_
    refine pw_aload_n (pc := 5) hG d_Mo_matchesUp_5 rfl ?_
    refine g10_0 (pc := 6) hG m_802 d_Mo_matchesUp_6 o_v0 ?_
    refine pw_iconst (pc := 9) hG d_Mo_matchesUp_9 ?_
    refine pw_aI (pc := 10) hG (q_arr hΛ o_v0 rfl (by decide)) (by decide) d_Mo_matchesUp_10 ?_
    obtain ⟨hrx11, hry11, ha11, hb11⟩ := h
    refine pw_icmp_ge (tgt := 118) (pc := 11) hG d_Mo_matchesUp_11 (by decide) hrx11 hry11 (fun hc11 => ?_) (fun hc11 => ?_)
    · replace h := ha11 hc11
      refine pw_iload_n (pc := 118) hG d_Mo_matchesUp_118 rfl ?_
      obtain ⟨hrx119, ha119, hb119⟩ := h
      refine pw_if_lt (tgt := 153) (pc := 119) hG d_Mo_matchesUp_119 (by decide) hrx119 (fun hc119 => ?_) (fun hc119 => ?_)
      · replace h := ha119 hc119
        exact hR 153 _ _ d_Mo_matchesUp_153 h
      · replace h := hb119 hc119
        refine pw_sipush (pc := 122) hG d_Mo_matchesUp_122 (by decide) ?_
        refine pw_aload_n (pc := 125) hG d_Mo_matchesUp_125 rfl ?_
        refine pw_iload_n (pc := 126) hG d_Mo_matchesUp_126 rfl ?_
        refine pw_iload_n (pc := 127) hG d_Mo_matchesUp_127 rfl ?_
        refine pw_calli (pc := 128) hG (fun l Δ => ct_Mo_common l Δ hΛ o_v0 h) o_v0 rfl (by decide) m_1073 k_Mo_common rfl ⟨by decide, by decide⟩ (Nat.le_of_ble_eq_true rfl) d_Mo_matchesUp_128 rfl (fun r128 S128 h => ?_)
        refine pw_imul (pc := 131) hG d_Mo_matchesUp_131 ?_
        refine pw_aload_n (pc := 132) hG d_Mo_matchesUp_132 rfl ?_
        refine g10_5 (pc := 133) hG m_807 d_Mo_matchesUp_133 o_v0 ?_
        refine pw_aload_n (pc := 136) hG d_Mo_matchesUp_136 rfl ?_
        refine pw_iload_n (pc := 137) hG d_Mo_matchesUp_137 rfl ?_
        refine pw_iload_n (pc := 138) hG d_Mo_matchesUp_138 rfl ?_
        refine pw_calli (pc := 139) hG (fun l Δ => ct_Mo_both l Δ hΛ o_v0 h) o_v0 rfl (by decide) m_1081 k_Mo_both rfl ⟨by decide, by decide⟩ (Nat.le_of_ble_eq_true rfl) d_Mo_matchesUp_139 rfl (fun r139 S139 h => ?_)
        refine pw_imul (pc := 142) hG d_Mo_matchesUp_142 ?_
        obtain ⟨hrx143, hry143, ha143, hb143⟩ := h
        refine pw_icmp_lt (tgt := 153) (pc := 143) hG d_Mo_matchesUp_143 (by decide) hrx143 hry143 (fun hc143 => ?_) (fun hc143 => ?_)
        · replace h := ha143 hc143
          exact hR 153 _ _ d_Mo_matchesUp_153 h
        · replace h := hb143 hc143
          refine pw_aload_n (pc := 146) hG d_Mo_matchesUp_146 rfl ?_
          refine pw_iload_n (pc := 147) hG d_Mo_matchesUp_147 rfl ?_
          refine pw_iload_n (pc := 148) hG d_Mo_matchesUp_148 rfl ?_
          refine pw_iconst (pc := 149) hG d_Mo_matchesUp_149 ?_
          refine pw_callv (pc := 150) hG (fun l Δ => ct_Mo_joins l Δ hΛ o_v0 h) o_v0 rfl (by decide) m_1061 k_Mo_joins rfl ⟨by decide, by decide⟩ (Nat.le_of_ble_eq_true rfl) d_Mo_matchesUp_150 rfl (fun S150 h => ?_)
          exact hR 153 _ _ d_Mo_matchesUp_153 h
    · replace h := hb11 hc11
      refine pw_aload_n (pc := 14) hG d_Mo_matchesUp_14 rfl ?_
      refine g10_22 (pc := 15) hG m_824 d_Mo_matchesUp_15 o_v0 ?_
      refine pw_iload_n (pc := 18) hG d_Mo_matchesUp_18 rfl ?_
      obtain ⟨hi19, h⟩ := h
      refine pw_aI (pc := 19) hG (q_arr hΛ o_v0 rfl (by decide)) hi19 d_Mo_matchesUp_19 ?_
      obtain ⟨hrx20, ha20, hb20⟩ := h
      refine pw_if_ge (tgt := 69) (pc := 20) hG d_Mo_matchesUp_20 (by decide) hrx20 (fun hc20 => ?_) (fun hc20 => ?_)
      · replace h := ha20 hc20
        exact pw_sub hG [0, 1, 2, 3] rfl (b_Mo_matchesUp_69 hG hR ih v0 v1 v2 v3 S o_v0 h)
      · replace h := hb20 hc20
        refine pw_aload_n (pc := 23) hG d_Mo_matchesUp_23 rfl ?_
        refine pw_iconst (pc := 24) hG d_Mo_matchesUp_24 ?_
        refine pw_iload_n (pc := 25) hG d_Mo_matchesUp_25 rfl ?_
        refine pw_calli (pc := 26) hG (fun l Δ => ct_Mo_size l Δ hΛ o_v0 h) o_v0 rfl (by decide) m_1009 k_Mo_size rfl ⟨by decide, by decide⟩ (Nat.le_of_ble_eq_true rfl) d_Mo_matchesUp_26 rfl (fun r26 S26 h => ?_)
        refine pw_iconst (pc := 29) hG d_Mo_matchesUp_29 ?_
        obtain ⟨hrx30, ha30, hb30⟩ := h
        refine pw_icmp_le (tgt := 69) (pc := 30) hG d_Mo_matchesUp_30 (by decide) hrx30 (q_lit rfl) (fun hc30 => ?_) (fun hc30 => ?_)
        · replace h := ha30 hc30
          exact pw_sub hG [0, 1, 2, 3] rfl (b_Mo_matchesUp_69 hG hR ih v0 v1 v2 v3 S26 o_v0 h)
        · replace h := hb30 hc30
          refine pw_aload_n (pc := 33) hG d_Mo_matchesUp_33 rfl ?_
          refine g10_1 (pc := 34) hG m_803 d_Mo_matchesUp_34 o_v0 ?_
          refine pw_iconst (pc := 37) hG d_Mo_matchesUp_37 ?_
          refine pw_iload_n (pc := 38) hG d_Mo_matchesUp_38 rfl ?_
          refine pw_scalli (pc := 39) hG (fun l Δ => ct_Mo_at l Δ hΛ  h) m_791 k_Mo_at rfl ⟨by decide, by decide⟩ (Nat.le_of_ble_eq_true rfl) d_Mo_matchesUp_39 rfl (fun r39 S39 h => ?_)
          obtain ⟨hi42, h⟩ := h
          refine pw_aI (pc := 42) hG (q_arr hΛ o_v0 rfl (by decide)) hi42 d_Mo_matchesUp_42 ?_
          refine pw_aload_n (pc := 43) hG d_Mo_matchesUp_43 rfl ?_
          refine g10_1 (pc := 44) hG m_803 d_Mo_matchesUp_44 o_v0 ?_
          refine pw_iconst (pc := 47) hG d_Mo_matchesUp_47 ?_
          refine pw_iload_n (pc := 48) hG d_Mo_matchesUp_48 rfl ?_
          refine pw_scalli (pc := 49) hG (fun l Δ => ct_Mo_at l Δ hΛ  h) m_791 k_Mo_at rfl ⟨by decide, by decide⟩ (Nat.le_of_ble_eq_true rfl) d_Mo_matchesUp_49 rfl (fun r49 S49 h => ?_)
          obtain ⟨hi52, h⟩ := h
          refine pw_aI (pc := 52) hG (q_arr hΛ o_v0 rfl (by decide)) hi52 d_Mo_matchesUp_52 ?_
          obtain ⟨hrx53, hry53, ha53, hb53⟩ := h
          refine pw_icmp_ne (tgt := 69) (pc := 53) hG d_Mo_matchesUp_53 (by decide) hrx53 hry53 (fun hc53 => ?_) (fun hc53 => ?_)
          · replace h := ha53 hc53
            exact pw_sub hG [0, 1, 2, 3] rfl (b_Mo_matchesUp_69 hG hR ih v0 v1 v2 v3 S49 o_v0 h)
          · replace h := hb53 hc53
            refine pw_aload_n (pc := 56) hG d_Mo_matchesUp_56 rfl ?_
            refine pw_iload_n (pc := 57) hG d_Mo_matchesUp_57 rfl ?_
            refine pw_iload_n (pc := 58) hG d_Mo_matchesUp_58 rfl ?_
            refine pw_calli (pc := 59) hG (fun l Δ => ct_Mo_common l Δ hΛ o_v0 h) o_v0 rfl (by decide) m_1073 k_Mo_common rfl ⟨by decide, by decide⟩ (Nat.le_of_ble_eq_true rfl) d_Mo_matchesUp_59 rfl (fun r59 S59 h => ?_)
            obtain ⟨hrx62, ha62, hb62⟩ := h
            refine pw_if_le (tgt := 69) (pc := 62) hG d_Mo_matchesUp_62 (by decide) hrx62 (fun hc62 => ?_) (fun hc62 => ?_)
            · replace h := ha62 hc62
              exact pw_sub hG [0, 1, 2, 3] rfl (b_Mo_matchesUp_69 hG hR ih v0 v1 v2 v3 S59 o_v0 h)
            · replace h := hb62 hc62
              refine pw_iconst (pc := 65) hG d_Mo_matchesUp_65 ?_
              refine pw_goto (tgt := 70) (pc := 66) hG d_Mo_matchesUp_66 (by decide) ?_
              exact pw_sub hG [0, 1, 2, 3] rfl (b_Mo_matchesUp_70 hG hR ih v0 v1 v2 v3 1 S59 o_v0 h)
theorem b_Mo_matchesUp_0 {Λ : QLay} {G : Nat → List (Nat × Value) → List Value → QMem → Prop} {Q : QMem → Prop} (hG : QAct c_Mo_matchesUp "TreeDifferModel" 5 { frames := 4, cells := 0, slots := 0, locals := 90 } Λ G) (hR : RtV c_Mo_matchesUp G Q) (v0 : Nat) (v1 : Int) (S : QMem) (o0 : qob Λ 10 v0) (h : w_Mo_matchesUp Λ v0 v1 S Q) : G 0 [(0, .ref v0), (1, vI v1)] [] S := by
  have hΛ := hG.lay
  unfold w_Mo_matchesUp at h
  refine pw_iconst (pc := 0) hG d_Mo_matchesUp_0 ?_
  refine pw_ist_n (pc := 1) hG d_Mo_matchesUp_1 (by decide) rfl ?_
  refine pw_iconst (pc := 2) hG d_Mo_matchesUp_2 ?_
  refine pw_ist_n (pc := 3) hG d_Mo_matchesUp_3 (by decide) rfl ?_
  obtain ⟨n3, h⟩ := h
  exact pw_sub hG [0, 1, 2, 3] rfl (b_Mo_matchesUp_4 hG hR n3 v0 v1 (-1) 0 S o0 h)
theorem ct_Mo_matchesUp (l : Launch) (Δ : QDl) {Λ : QLay} (hΛ : LayOk Λ) {v0 : Nat} {v1 : Int} {S : QMem} {Q : QMem → Prop} (o0 : qob Λ 10 v0) (h : w_Mo_matchesUp Λ v0 v1 S Q) : QCt l y_Mo_matchesUp c_Mo_matchesUp 5 none 4 90 Δ Λ [.ref v0, vI v1] S (qV Q) :=
  QCt.mk (own := "TreeDifferModel") hΛ (by decide) rfl rfl (Nat.le_of_ble_eq_true rfl) (fun G hG ri rz rv rj ra => b_Mo_matchesUp_0 hG (fun pc lv S d hq => rv pc lv S rfl d ⟨rfl, hq⟩) v0 v1 S o0 h)
theorem k_Mo_findPost : QVf y_Mo_findPost c_Mo_findPost 4 none "TreeDifferModel" 1 := ⟨m_1067, m_p57, m_11, m_1068, by decide +kernel⟩
theorem b_Mo_findPost_81 {Λ : QLay} {G : Nat → List (Nat × Value) → List Value → QMem → Prop} {Q : QMem → Prop} (hG : QAct c_Mo_findPost "TreeDifferModel" 4 { frames := 1, cells := 0, slots := 0, locals := 21 } Λ G) (hR : RtV c_Mo_findPost G Q) {K9 : Nat → Int → Int → Int → QMem → Prop} (hK9 : ∀ (v0 : Nat) (v1 : Int) (v2 : Int) (v3 : Int) (S : QMem), qob Λ 10 v0 → K9 v0 v1 v2 v3 S → G 9 [(0, .ref v0), (1, vI v1), (2, vI v2), (3, vI v3)] [] S) (v0 : Nat) (v1 : Int) (v2 : Int) (v3 : Int) (S : QMem) (o_v0 : qob Λ 10 v0) (h : w_Mo_findPost_81 Λ K9 Q v0 v1 v2 v3 S) : G 81 [(0, .ref v0), (1, vI v1), (2, vI v2), (3, vI v3)] [] S := by
  have hΛ := hG.lay
  unfold w_Mo_findPost_81 at h
  refine pw_aload_n (pc := 81) hG d_Mo_findPost_81 rfl ?_
  refine g10_14 (pc := 82) hG m_816 d_Mo_findPost_82 o_v0 ?_
  refine pw_aload_n (pc := 85) hG d_Mo_findPost_85 rfl ?_
  refine g10_15 (pc := 86) hG m_817 d_Mo_findPost_86 o_v0 ?_
  refine pw_iload_n (pc := 89) hG d_Mo_findPost_89 rfl ?_
  obtain ⟨hi90, h⟩ := h
  refine pw_sI (pc := 90) hG (q_arr hΛ o_v0 rfl (by decide)) hi90 d_Mo_findPost_90 (fun S90 eS90 => ?_)
  replace h := h S90 eS90
  refine pw_aload_n (pc := 91) hG d_Mo_findPost_91 rfl ?_
  refine pw_dup (pc := 92) hG d_Mo_findPost_92 rfl ?_
  refine g10_15 (pc := 93) hG m_817 d_Mo_findPost_93 o_v0 ?_
  refine pw_iconst (pc := 96) hG d_Mo_findPost_96 ?_
  refine pw_iadd (pc := 97) hG d_Mo_findPost_97 ?_
  refine p10_15 (pc := 98) hG m_817 d_Mo_findPost_98 o_v0 (fun S98 eS98 => ?_)
  replace h := h S98 eS98
  refine pw_iinc0 (pc := 101) hG d_Mo_findPost_101 rfl (by decide) rfl ?_
  refine pw_goto (tgt := 9) (pc := 104) hG d_Mo_findPost_104 (by decide) ?_
  exact pw_sub hG [0, 1, 2, 3] rfl (hK9 v0 v1 v2 (v3 + 1) S98 o_v0 h)
theorem b_Mo_findPost_19 {Λ : QLay} {G : Nat → List (Nat × Value) → List Value → QMem → Prop} {Q : QMem → Prop} (hG : QAct c_Mo_findPost "TreeDifferModel" 4 { frames := 1, cells := 0, slots := 0, locals := 21 } Λ G) (hR : RtV c_Mo_findPost G Q) {K9 : Nat → Int → Int → Int → QMem → Prop} (hK9 : ∀ (v0 : Nat) (v1 : Int) (v2 : Int) (v3 : Int) (S : QMem), qob Λ 10 v0 → K9 v0 v1 v2 v3 S → G 9 [(0, .ref v0), (1, vI v1), (2, vI v2), (3, vI v3)] [] S) : ∀ (n : Nat) (v0 : Nat) (v1 : Int) (v2 : Int) (v3 : Int) (S : QMem), qob Λ 10 v0 → w_Mo_findPost_19 Λ K9 Q n v0 v1 v2 v3 S → G 19 [(0, .ref v0), (1, vI v1), (2, vI v2), (3, vI v3)] [] S := by
  have hΛ := hG.lay
  intro n
  induction n with
  | zero => intro v0 v1 v2 v3 S o_v0 h; exact h.elim
  | succ n ih =>
    intro v0 v1 v2 v3 S o_v0 h
    rw [w_Mo_findPost_19] at h
    refine pw_aload_n (pc := 19) hG d_Mo_findPost_19 rfl ?_
    refine g10_15 (pc := 20) hG m_817 d_Mo_findPost_20 o_v0 ?_
    obtain ⟨hrx23, ha23, hb23⟩ := h
    refine pw_if_le (tgt := 81) (pc := 23) hG d_Mo_findPost_23 (by decide) hrx23 (fun hc23 => ?_) (fun hc23 => ?_)
    · replace h := ha23 hc23
      exact pw_sub hG [0, 1, 2, 3] rfl (b_Mo_findPost_81 hG hR hK9 v0 v1 v2 v3 S o_v0 h)
    · replace h := hb23 hc23
      refine pw_aload_n (pc := 26) hG d_Mo_findPost_26 rfl ?_
      refine g10_14 (pc := 27) hG m_816 d_Mo_findPost_27 o_v0 ?_
      refine pw_aload_n (pc := 30) hG d_Mo_findPost_30 rfl ?_
      refine g10_15 (pc := 31) hG m_817 d_Mo_findPost_31 o_v0 ?_
      refine pw_iconst (pc := 34) hG d_Mo_findPost_34 ?_
      refine pw_isub (pc := 35) hG d_Mo_findPost_35 ?_
      obtain ⟨hi36, h⟩ := h
      refine pw_aI (pc := 36) hG (q_arr hΛ o_v0 rfl (by decide)) hi36 d_Mo_findPost_36 ?_
      refine pw_aload_n (pc := 37) hG d_Mo_findPost_37 rfl ?_
      refine g10_3 (pc := 38) hG m_805 d_Mo_findPost_38 o_v0 ?_
      refine pw_iload_n (pc := 41) hG d_Mo_findPost_41 rfl ?_
      refine pw_iload_n (pc := 42) hG d_Mo_findPost_42 rfl ?_
      refine pw_scalli (pc := 43) hG (fun l Δ => ct_Mo_at l Δ hΛ  h) m_791 k_Mo_at rfl ⟨by decide, by decide⟩ (Nat.le_of_ble_eq_true rfl) d_Mo_findPost_43 rfl (fun r43 S43 h => ?_)
      obtain ⟨hi46, h⟩ := h
      refine pw_aI (pc := 46) hG (q_arr hΛ o_v0 rfl (by decide)) hi46 d_Mo_findPost_46 ?_
      obtain ⟨hrx47, hry47, ha47, hb47⟩ := h
      refine pw_icmp_eq (tgt := 81) (pc := 47) hG d_Mo_findPost_47 (by decide) hrx47 hry47 (fun hc47 => ?_) (fun hc47 => ?_)
      · replace h := ha47 hc47
        exact pw_sub hG [0, 1, 2, 3] rfl (b_Mo_findPost_81 hG hR hK9 v0 v1 v2 v3 S43 o_v0 h)
      · replace h := hb47 hc47
        refine pw_aload_n (pc := 50) hG d_Mo_findPost_50 rfl ?_
        refine pw_dup (pc := 51) hG d_Mo_findPost_51 rfl ?_
        refine g10_15 (pc := 52) hG m_817 d_Mo_findPost_52 o_v0 ?_
        refine pw_iconst (pc := 55) hG d_Mo_findPost_55 ?_
        refine pw_isub (pc := 56) hG d_Mo_findPost_56 ?_
        refine p10_15 (pc := 57) hG m_817 d_Mo_findPost_57 o_v0 (fun S57 eS57 => ?_)
        replace h := h S57 eS57
        refine pw_aload_n (pc := 60) hG d_Mo_findPost_60 rfl ?_
        refine g10_24 (pc := 61) hG m_826 d_Mo_findPost_61 o_v0 ?_
        refine pw_iload_n (pc := 64) hG d_Mo_findPost_64 rfl ?_
        refine pw_aload_n (pc := 65) hG d_Mo_findPost_65 rfl ?_
        refine g10_14 (pc := 66) hG m_816 d_Mo_findPost_66 o_v0 ?_
        refine pw_aload_n (pc := 69) hG d_Mo_findPost_69 rfl ?_
        refine g10_15 (pc := 70) hG m_817 d_Mo_findPost_70 o_v0 ?_
        obtain ⟨hi73, h⟩ := h
        refine pw_aI (pc := 73) hG (q_arr hΛ o_v0 rfl (by decide)) hi73 d_Mo_findPost_73 ?_
        obtain ⟨hi74, h⟩ := h
        refine pw_sI (pc := 74) hG (q_arr hΛ o_v0 rfl (by decide)) hi74 d_Mo_findPost_74 (fun S74 eS74 => ?_)
        replace h := h S74 eS74
        refine pw_iinc0 (pc := 75) hG d_Mo_findPost_75 rfl (by decide) rfl ?_
        refine pw_goto (tgt := 19) (pc := 78) hG d_Mo_findPost_78 (by decide) ?_
        exact pw_sub hG [0, 1, 2, 3] rfl (ih v0 v1 (v2 + 1) v3 S74 o_v0 h)
theorem b_Mo_findPost_107 {Λ : QLay} {G : Nat → List (Nat × Value) → List Value → QMem → Prop} {Q : QMem → Prop} (hG : QAct c_Mo_findPost "TreeDifferModel" 4 { frames := 1, cells := 0, slots := 0, locals := 21 } Λ G) (hR : RtV c_Mo_findPost G Q) : ∀ (n : Nat) (v0 : Nat) (v2 : Int) (S : QMem), qob Λ 10 v0 → w_Mo_findPost_107 Λ Q n v0 v2 S → G 107 [(0, .ref v0), (2, vI v2)] [] S := by
  have hΛ := hG.lay
  intro n
  induction n with
  | zero => intro v0 v2 S o_v0 h; exact h.elim
  | succ n ih =>
    intro v0 v2 S o_v0 h
    rw [w_Mo_findPost_107] at h
    refine pw_aload_n (pc := 107) hG d_Mo_findPost_107 rfl ?_
    refine g10_15 (pc := 108) hG m_817 d_Mo_findPost_108 o_v0 ?_
    obtain ⟨hrx111, ha111, hb111⟩ := h
    refine pw_if_le (tgt := 145) (pc := 111) hG d_Mo_findPost_111 (by decide) hrx111 (fun hc111 => ?_) (fun hc111 => ?_)
    · replace h := ha111 hc111
      exact hR 145 _ _ d_Mo_findPost_145 h
    · replace h := hb111 hc111
      refine pw_aload_n (pc := 114) hG d_Mo_findPost_114 rfl ?_
      refine pw_dup (pc := 115) hG d_Mo_findPost_115 rfl ?_
      refine g10_15 (pc := 116) hG m_817 d_Mo_findPost_116 o_v0 ?_
      refine pw_iconst (pc := 119) hG d_Mo_findPost_119 ?_
      refine pw_isub (pc := 120) hG d_Mo_findPost_120 ?_
      refine p10_15 (pc := 121) hG m_817 d_Mo_findPost_121 o_v0 (fun S121 eS121 => ?_)
      replace h := h S121 eS121
      refine pw_aload_n (pc := 124) hG d_Mo_findPost_124 rfl ?_
      refine g10_24 (pc := 125) hG m_826 d_Mo_findPost_125 o_v0 ?_
      refine pw_iload_n (pc := 128) hG d_Mo_findPost_128 rfl ?_
      refine pw_aload_n (pc := 129) hG d_Mo_findPost_129 rfl ?_
      refine g10_14 (pc := 130) hG m_816 d_Mo_findPost_130 o_v0 ?_
      refine pw_aload_n (pc := 133) hG d_Mo_findPost_133 rfl ?_
      refine g10_15 (pc := 134) hG m_817 d_Mo_findPost_134 o_v0 ?_
      obtain ⟨hi137, h⟩ := h
      refine pw_aI (pc := 137) hG (q_arr hΛ o_v0 rfl (by decide)) hi137 d_Mo_findPost_137 ?_
      obtain ⟨hi138, h⟩ := h
      refine pw_sI (pc := 138) hG (q_arr hΛ o_v0 rfl (by decide)) hi138 d_Mo_findPost_138 (fun S138 eS138 => ?_)
      replace h := h S138 eS138
      refine pw_iinc0 (pc := 139) hG d_Mo_findPost_139 rfl (by decide) rfl ?_
      refine pw_goto (tgt := 107) (pc := 142) hG d_Mo_findPost_142 (by decide) ?_
      exact pw_sub hG [0, 2] rfl (ih v0 (v2 + 1) S138 o_v0 h)
theorem b_Mo_findPost_9 {Λ : QLay} {G : Nat → List (Nat × Value) → List Value → QMem → Prop} {Q : QMem → Prop} (hG : QAct c_Mo_findPost "TreeDifferModel" 4 { frames := 1, cells := 0, slots := 0, locals := 21 } Λ G) (hR : RtV c_Mo_findPost G Q) : ∀ (n : Nat) (v0 : Nat) (v1 : Int) (v2 : Int) (v3 : Int) (S : QMem), qob Λ 10 v0 → w_Mo_findPost_9 Λ Q n v0 v1 v2 v3 S → G 9 [(0, .ref v0), (1, vI v1), (2, vI v2), (3, vI v3)] [] S := by
  have hΛ := hG.lay
  intro n
  induction n with
  | zero => intro v0 v1 v2 v3 S o_v0 h; exact h.elim
  | succ n ih =>
    intro v0 v1 v2 v3 S o_v0 h
    rw [w_Mo_findPost_9] at h
    refine pw_iload_n (pc := 9) hG d_Mo_findPost_9 rfl ?_
    refine pw_aload_n (pc := 10) hG d_Mo_findPost_10 rfl ?_
    refine g10_0 (pc := 11) hG m_802 d_Mo_findPost_11 o_v0 ?_
    refine pw_iload_n (pc := 14) hG d_Mo_findPost_14 rfl ?_
    obtain ⟨hi15, h⟩ := h
    refine pw_aI (pc := 15) hG (q_arr hΛ o_v0 rfl (by decide)) hi15 d_Mo_findPost_15 ?_
    obtain ⟨hrx16, hry16, ha16, hb16⟩ := h
    refine pw_icmp_ge (tgt := 107) (pc := 16) hG d_Mo_findPost_16 (by decide) hrx16 hry16 (fun hc16 => ?_) (fun hc16 => ?_)
    · replace h := ha16 hc16
      obtain ⟨n16, h⟩ := h
      exact pw_sub hG [0, 2] rfl (b_Mo_findPost_107 hG hR n16 v0 v2 S o_v0 h)
    · replace h := hb16 hc16
      obtain ⟨n16, h⟩ := h
      exact pw_sub hG [0, 1, 2, 3] rfl (b_Mo_findPost_19 hG hR ih n16 v0 v1 v2 v3 S o_v0 h)
theorem b_Mo_findPost_0 {Λ : QLay} {G : Nat → List (Nat × Value) → List Value → QMem → Prop} {Q : QMem → Prop} (hG : QAct c_Mo_findPost "TreeDifferModel" 4 { frames := 1, cells := 0, slots := 0, locals := 21 } Λ G) (hR : RtV c_Mo_findPost G Q) (v0 : Nat) (v1 : Int) (S : QMem) (o0 : qob Λ 10 v0) (h : w_Mo_findPost Λ v0 v1 S Q) : G 0 [(0, .ref v0), (1, vI v1)] [] S := by
  have hΛ := hG.lay
  unfold w_Mo_findPost at h
  refine pw_iconst (pc := 0) hG d_Mo_findPost_0 ?_
  refine pw_ist_n (pc := 1) hG d_Mo_findPost_1 (by decide) rfl ?_
  refine pw_aload_n (pc := 2) hG d_Mo_findPost_2 rfl ?_
  refine pw_iconst (pc := 3) hG d_Mo_findPost_3 ?_
  refine p10_15 (pc := 4) hG m_817 d_Mo_findPost_4 o0 (fun S4 eS4 => ?_)
  replace h := h S4 eS4
  refine pw_iconst (pc := 7) hG d_Mo_findPost_7 ?_
  refine pw_ist_n (pc := 8) hG d_Mo_findPost_8 (by decide) rfl ?_
  obtain ⟨n8, h⟩ := h
  exact pw_sub hG [0, 1, 2, 3] rfl (b_Mo_findPost_9 hG hR n8 v0 v1 0 0 S4 o0 h)
theorem ct_Mo_findPost (l : Launch) (Δ : QDl) {Λ : QLay} (hΛ : LayOk Λ) {v0 : Nat} {v1 : Int} {S : QMem} {Q : QMem → Prop} (o0 : qob Λ 10 v0) (h : w_Mo_findPost Λ v0 v1 S Q) : QCt l y_Mo_findPost c_Mo_findPost 4 none 1 21 Δ Λ [.ref v0, vI v1] S (qV Q) :=
  QCt.mk (own := "TreeDifferModel") hΛ (by decide) rfl rfl (Nat.le_of_ble_eq_true rfl) (fun G hG ri rz rv rj ra => b_Mo_findPost_0 hG (fun pc lv S d hq => rv pc lv S rfl d ⟨rfl, hq⟩) v0 v1 S o0 h)
theorem k_Mo_matches : QVf y_Mo_matches c_Mo_matches 2 none "TreeDifferModel" 0 := ⟨m_1043, m_p51, m_11, m_1044, by decide +kernel⟩
theorem b_Mo_matches_47 {Λ : QLay} {G : Nat → List (Nat × Value) → List Value → QMem → Prop} {Q : QMem → Prop} (hG : QAct c_Mo_matches "TreeDifferModel" 2 { frames := 5, cells := 0, slots := 0, locals := 122 } Λ G) (hR : RtV c_Mo_matches G Q) : ∀ (n : Nat) (v0 : Nat) (v1 : Int) (S : QMem), qob Λ 10 v0 → w_Mo_matches_47 Λ Q n v0 v1 S → G 47 [(0, .ref v0), (1, vI v1)] [] S := by
  have hΛ := hG.lay
  intro n
  induction n with
  | zero => intro v0 v1 S o_v0 h; exact h.elim
  | succ n ih =>
    intro v0 v1 S o_v0 h
    rw [w_Mo_matches_47] at h
    refine pw_iload_n (pc := 47) hG d_Mo_matches_47 rfl ?_
    refine pw_aload_n (pc := 48) hG d_Mo_matches_48 rfl ?_
    refine g10_0 (pc := 49) hG m_802 d_Mo_matches_49 o_v0 ?_
    refine pw_iconst (pc := 52) hG d_Mo_matches_52 ?_
    refine pw_aI (pc := 53) hG (q_arr hΛ o_v0 rfl (by decide)) (by decide) d_Mo_matches_53 ?_
    obtain ⟨hrx54, hry54, ha54, hb54⟩ := h
    refine pw_icmp_ge (tgt := 102) (pc := 54) hG d_Mo_matches_54 (by decide) hrx54 hry54 (fun hc54 => ?_) (fun hc54 => ?_)
    · replace h := ha54 hc54
      refine pw_aload_n (pc := 102) hG d_Mo_matches_102 rfl ?_
      refine g10_21 (pc := 103) hG m_823 d_Mo_matches_103 o_v0 ?_
      refine pw_iconst (pc := 106) hG d_Mo_matches_106 ?_
      refine pw_aI (pc := 107) hG (q_arr hΛ o_v0 rfl (by decide)) (by decide) d_Mo_matches_107 ?_
      obtain ⟨hrx108, ha108, hb108⟩ := h
      refine pw_if_ge (tgt := 150) (pc := 108) hG d_Mo_matches_108 (by decide) hrx108 (fun hc108 => ?_) (fun hc108 => ?_)
      · replace h := ha108 hc108
        exact hR 150 _ _ d_Mo_matches_150 h
      · replace h := hb108 hc108
        refine pw_aload_n (pc := 111) hG d_Mo_matches_111 rfl ?_
        refine g10_22 (pc := 112) hG m_824 d_Mo_matches_112 o_v0 ?_
        refine pw_iconst (pc := 115) hG d_Mo_matches_115 ?_
        refine pw_aI (pc := 116) hG (q_arr hΛ o_v0 rfl (by decide)) (by decide) d_Mo_matches_116 ?_
        obtain ⟨hrx117, ha117, hb117⟩ := h
        refine pw_if_ge (tgt := 150) (pc := 117) hG d_Mo_matches_117 (by decide) hrx117 (fun hc117 => ?_) (fun hc117 => ?_)
        · replace h := ha117 hc117
          exact hR 150 _ _ d_Mo_matches_150 h
        · replace h := hb117 hc117
          refine pw_aload_n (pc := 120) hG d_Mo_matches_120 rfl ?_
          refine g10_1 (pc := 121) hG m_803 d_Mo_matches_121 o_v0 ?_
          refine pw_iconst (pc := 124) hG d_Mo_matches_124 ?_
          refine pw_iconst (pc := 125) hG d_Mo_matches_125 ?_
          refine pw_scalli (pc := 126) hG (fun l Δ => ct_Mo_at l Δ hΛ  h) m_791 k_Mo_at rfl ⟨by decide, by decide⟩ (Nat.le_of_ble_eq_true rfl) d_Mo_matches_126 rfl (fun r126 S126 h => ?_)
          obtain ⟨hi129, h⟩ := h
          refine pw_aI (pc := 129) hG (q_arr hΛ o_v0 rfl (by decide)) hi129 d_Mo_matches_129 ?_
          refine pw_aload_n (pc := 130) hG d_Mo_matches_130 rfl ?_
          refine g10_1 (pc := 131) hG m_803 d_Mo_matches_131 o_v0 ?_
          refine pw_iconst (pc := 134) hG d_Mo_matches_134 ?_
          refine pw_iconst (pc := 135) hG d_Mo_matches_135 ?_
          refine pw_scalli (pc := 136) hG (fun l Δ => ct_Mo_at l Δ hΛ  h) m_791 k_Mo_at rfl ⟨by decide, by decide⟩ (Nat.le_of_ble_eq_true rfl) d_Mo_matches_136 rfl (fun r136 S136 h => ?_)
          obtain ⟨hi139, h⟩ := h
          refine pw_aI (pc := 139) hG (q_arr hΛ o_v0 rfl (by decide)) hi139 d_Mo_matches_139 ?_
          obtain ⟨hrx140, hry140, ha140, hb140⟩ := h
          refine pw_icmp_ne (tgt := 150) (pc := 140) hG d_Mo_matches_140 (by decide) hrx140 hry140 (fun hc140 => ?_) (fun hc140 => ?_)
          · replace h := ha140 hc140
            exact hR 150 _ _ d_Mo_matches_150 h
          · replace h := hb140 hc140
            refine pw_aload_n (pc := 143) hG d_Mo_matches_143 rfl ?_
            refine pw_iconst (pc := 144) hG d_Mo_matches_144 ?_
            refine pw_iconst (pc := 145) hG d_Mo_matches_145 ?_
            refine pw_iconst (pc := 146) hG d_Mo_matches_146 ?_
            refine pw_callv (pc := 147) hG (fun l Δ => ct_Mo_joins l Δ hΛ o_v0 h) o_v0 rfl (by decide) m_1061 k_Mo_joins rfl ⟨by decide, by decide⟩ (Nat.le_of_ble_eq_true rfl) d_Mo_matches_147 rfl (fun S147 h => ?_)
            exact hR 150 _ _ d_Mo_matches_150 h
    · replace h := hb54 hc54
      refine pw_aload_n (pc := 57) hG d_Mo_matches_57 rfl ?_
      refine g10_21 (pc := 58) hG m_823 d_Mo_matches_58 o_v0 ?_
      refine pw_aload_n (pc := 61) hG d_Mo_matches_61 rfl ?_
      refine g10_24 (pc := 62) hG m_826 d_Mo_matches_62 o_v0 ?_
      refine pw_iload_n (pc := 65) hG d_Mo_matches_65 rfl ?_
      obtain ⟨hi66, h⟩ := h
      refine pw_aI (pc := 66) hG (q_arr hΛ o_v0 rfl (by decide)) hi66 d_Mo_matches_66 ?_
      obtain ⟨hi67, h⟩ := h
      refine pw_aI (pc := 67) hG (q_arr hΛ o_v0 rfl (by decide)) hi67 d_Mo_matches_67 ?_
      obtain ⟨hrx68, ha68, hb68⟩ := h
      refine pw_if_ge (tgt := 96) (pc := 68) hG d_Mo_matches_68 (by decide) hrx68 (fun hc68 => ?_) (fun hc68 => ?_)
      · replace h := ha68 hc68
        refine pw_iinc0 (pc := 96) hG d_Mo_matches_96 rfl (by decide) rfl ?_
        refine pw_goto (tgt := 47) (pc := 99) hG d_Mo_matches_99 (by decide) ?_
        exact pw_sub hG [0, 1] rfl (ih v0 (v1 + 1) S o_v0 h)
      · replace h := hb68 hc68
        refine pw_aload_n (pc := 71) hG d_Mo_matches_71 rfl ?_
        refine pw_iconst (pc := 72) hG d_Mo_matches_72 ?_
        refine pw_aload_n (pc := 73) hG d_Mo_matches_73 rfl ?_
        refine g10_24 (pc := 74) hG m_826 d_Mo_matches_74 o_v0 ?_
        refine pw_iload_n (pc := 77) hG d_Mo_matches_77 rfl ?_
        obtain ⟨hi78, h⟩ := h
        refine pw_aI (pc := 78) hG (q_arr hΛ o_v0 rfl (by decide)) hi78 d_Mo_matches_78 ?_
        refine pw_calli (pc := 79) hG (fun l Δ => ct_Mo_size l Δ hΛ o_v0 h) o_v0 rfl (by decide) m_1009 k_Mo_size rfl ⟨by decide, by decide⟩ (Nat.le_of_ble_eq_true rfl) d_Mo_matches_79 rfl (fun r79 S79 h => ?_)
        refine pw_iconst (pc := 82) hG d_Mo_matches_82 ?_
        obtain ⟨hrx83, ha83, hb83⟩ := h
        refine pw_icmp_le (tgt := 96) (pc := 83) hG d_Mo_matches_83 (by decide) hrx83 (q_lit rfl) (fun hc83 => ?_) (fun hc83 => ?_)
        · replace h := ha83 hc83
          refine pw_iinc0 (pc := 96) hG d_Mo_matches_96 rfl (by decide) rfl ?_
          refine pw_goto (tgt := 47) (pc := 99) hG d_Mo_matches_99 (by decide) ?_
          exact pw_sub hG [0, 1] rfl (ih v0 (v1 + 1) S79 o_v0 h)
        · replace h := hb83 hc83
          refine pw_aload_n (pc := 86) hG d_Mo_matches_86 rfl ?_
          refine pw_aload_n (pc := 87) hG d_Mo_matches_87 rfl ?_
          refine g10_24 (pc := 88) hG m_826 d_Mo_matches_88 o_v0 ?_
          refine pw_iload_n (pc := 91) hG d_Mo_matches_91 rfl ?_
          obtain ⟨hi92, h⟩ := h
          refine pw_aI (pc := 92) hG (q_arr hΛ o_v0 rfl (by decide)) hi92 d_Mo_matches_92 ?_
          refine pw_callv (pc := 93) hG (fun l Δ => ct_Mo_matchesUp l Δ hΛ o_v0 h) o_v0 rfl (by decide) m_1069 k_Mo_matchesUp rfl ⟨by decide, by decide⟩ (Nat.le_of_ble_eq_true rfl) d_Mo_matches_93 rfl (fun S93 h => ?_)
          refine pw_iinc0 (pc := 96) hG d_Mo_matches_96 rfl (by decide) rfl ?_
          refine pw_goto (tgt := 47) (pc := 99) hG d_Mo_matches_99 (by decide) ?_
          exact pw_sub hG [0, 1] rfl (ih v0 (v1 + 1) S93 o_v0 h)
theorem b_Mo_matches_2 {Λ : QLay} {G : Nat → List (Nat × Value) → List Value → QMem → Prop} {Q : QMem → Prop} (hG : QAct c_Mo_matches "TreeDifferModel" 2 { frames := 5, cells := 0, slots := 0, locals := 122 } Λ G) (hR : RtV c_Mo_matches G Q) : ∀ (n : Nat) (v0 : Nat) (v1 : Int) (S : QMem), qob Λ 10 v0 → w_Mo_matches_2 Λ Q n v0 v1 S → G 2 [(0, .ref v0), (1, vI v1)] [] S := by
  have hΛ := hG.lay
  intro n
  induction n with
  | zero => intro v0 v1 S o_v0 h; exact h.elim
  | succ n ih =>
    intro v0 v1 S o_v0 h
    rw [w_Mo_matches_2] at h
    refine pw_iload_n (pc := 2) hG d_Mo_matches_2 rfl ?_
    refine pw_bipush (pc := 3) hG d_Mo_matches_3 (by decide) ?_
    obtain ⟨hrx5, ha5, hb5⟩ := h
    refine pw_icmp_ge (tgt := 36) (pc := 5) hG d_Mo_matches_5 (by decide) hrx5 (q_lit rfl) (fun hc5 => ?_) (fun hc5 => ?_)
    · replace h := ha5 hc5
      refine pw_aload_n (pc := 36) hG d_Mo_matches_36 rfl ?_
      refine pw_callv (pc := 37) hG (fun l Δ => ct_Mo_matchesDown l Δ hΛ o_v0 h) o_v0 rfl (by decide) m_1045 k_Mo_matchesDown rfl ⟨by decide, by decide⟩ (Nat.le_of_ble_eq_true rfl) d_Mo_matches_37 rfl (fun S37 h => ?_)
      refine pw_aload_n (pc := 40) hG d_Mo_matches_40 rfl ?_
      refine pw_iconst (pc := 41) hG d_Mo_matches_41 ?_
      refine pw_callv (pc := 42) hG (fun l Δ => ct_Mo_findPost l Δ hΛ o_v0 h) o_v0 rfl (by decide) m_1065 k_Mo_findPost rfl ⟨by decide, by decide⟩ (Nat.le_of_ble_eq_true rfl) d_Mo_matches_42 rfl (fun S42 h => ?_)
      refine pw_iconst (pc := 45) hG d_Mo_matches_45 ?_
      refine pw_ist_n (pc := 46) hG d_Mo_matches_46 (by decide) rfl ?_
      obtain ⟨n46, h⟩ := h
      exact pw_sub hG [0, 1] rfl (b_Mo_matches_47 hG hR n46 v0 0 S42 o_v0 h)
    · replace h := hb5 hc5
      refine pw_aload_n (pc := 8) hG d_Mo_matches_8 rfl ?_
      refine g10_21 (pc := 9) hG m_823 d_Mo_matches_9 o_v0 ?_
      refine pw_iload_n (pc := 12) hG d_Mo_matches_12 rfl ?_
      refine pw_iconst (pc := 13) hG d_Mo_matches_13 ?_
      obtain ⟨hi14, h⟩ := h
      refine pw_sI (pc := 14) hG (q_arr hΛ o_v0 rfl (by decide)) hi14 d_Mo_matches_14 (fun S14 eS14 => ?_)
      replace h := h S14 eS14
      refine pw_aload_n (pc := 15) hG d_Mo_matches_15 rfl ?_
      refine g10_22 (pc := 16) hG m_824 d_Mo_matches_16 o_v0 ?_
      refine pw_iload_n (pc := 19) hG d_Mo_matches_19 rfl ?_
      refine pw_iconst (pc := 20) hG d_Mo_matches_20 ?_
      obtain ⟨hi21, h⟩ := h
      refine pw_sI (pc := 21) hG (q_arr hΛ o_v0 rfl (by decide)) hi21 d_Mo_matches_21 (fun S21 eS21 => ?_)
      replace h := h S21 eS21
      refine pw_aload_n (pc := 22) hG d_Mo_matches_22 rfl ?_
      refine g10_23 (pc := 23) hG m_825 d_Mo_matches_23 o_v0 ?_
      refine pw_iload_n (pc := 26) hG d_Mo_matches_26 rfl ?_
      refine pw_bipush (pc := 27) hG d_Mo_matches_27 (by decide) ?_
      obtain ⟨hi29, h⟩ := h
      refine pw_sI (pc := 29) hG (q_arr hΛ o_v0 rfl (by decide)) hi29 d_Mo_matches_29 (fun S29 eS29 => ?_)
      replace h := h S29 eS29
      refine pw_iinc0 (pc := 30) hG d_Mo_matches_30 rfl (by decide) rfl ?_
      refine pw_goto (tgt := 2) (pc := 33) hG d_Mo_matches_33 (by decide) ?_
      exact pw_sub hG [0, 1] rfl (ih v0 (v1 + 1) S29 o_v0 h)
theorem b_Mo_matches_0 {Λ : QLay} {G : Nat → List (Nat × Value) → List Value → QMem → Prop} {Q : QMem → Prop} (hG : QAct c_Mo_matches "TreeDifferModel" 2 { frames := 5, cells := 0, slots := 0, locals := 122 } Λ G) (hR : RtV c_Mo_matches G Q) (v0 : Nat) (S : QMem) (o0 : qob Λ 10 v0) (h : w_Mo_matches Λ v0 S Q) : G 0 [(0, .ref v0)] [] S := by
  have hΛ := hG.lay
  unfold w_Mo_matches at h
  refine pw_iconst (pc := 0) hG d_Mo_matches_0 ?_
  refine pw_ist_n (pc := 1) hG d_Mo_matches_1 (by decide) rfl ?_
  obtain ⟨n1, h⟩ := h
  exact pw_sub hG [0, 1] rfl (b_Mo_matches_2 hG hR n1 v0 0 S o0 h)
theorem ct_Mo_matches (l : Launch) (Δ : QDl) {Λ : QLay} (hΛ : LayOk Λ) {v0 : Nat} {S : QMem} {Q : QMem → Prop} (o0 : qob Λ 10 v0) (h : w_Mo_matches Λ v0 S Q) : QCt l y_Mo_matches c_Mo_matches 2 none 5 122 Δ Λ [.ref v0] S (qV Q) :=
  QCt.mk (own := "TreeDifferModel") hΛ (by decide) rfl rfl (Nat.le_of_ble_eq_true rfl) (fun G hG ri rz rv rj ra => b_Mo_matches_0 hG (fun pc lv S d hq => rv pc lv S rfl d ⟨rfl, hq⟩) v0 S o0 h)
theorem k_Mo_setMatching : QVf y_Mo_setMatching c_Mo_setMatching 4 (some .int) "TreeDifferModel" 2 := ⟨m_1030, m_1031, m_11, m_1032, by decide +kernel⟩
theorem b_Mo_setMatching_0 {Λ : QLay} {G : Nat → List (Nat × Value) → List Value → QMem → Prop} {Q : Int → QMem → Prop} (hG : QAct c_Mo_setMatching "TreeDifferModel" 4 { frames := 3, cells := 0, slots := 0, locals := 65 } Λ G) (hR : RtI c_Mo_setMatching G Q) (v0 : Nat) (v1 : Int) (v2 : Int) (S : QMem) (o0 : qob Λ 10 v0) (h : w_Mo_setMatching Λ v0 v1 v2 S Q) : G 0 [(0, .ref v0), (1, vI v1), (2, vI v2)] [] S := by
  have hΛ := hG.lay
  unfold w_Mo_setMatching at h
  refine pw_iload_n (pc := 0) hG d_Mo_setMatching_0 rfl ?_
  refine pw_iconst (pc := 1) hG d_Mo_setMatching_1 ?_
  refine pw_bipush (pc := 2) hG d_Mo_setMatching_2 (by decide) ?_
  refine pw_scalli (pc := 4) hG (fun l Δ => ct_Mo_in l Δ hΛ  h) m_942 k_Mo_in rfl ⟨by decide, by decide⟩ (Nat.le_of_ble_eq_true rfl) d_Mo_setMatching_4 rfl (fun r4 S4 h => ?_)
  obtain ⟨hrx7, ha7, hb7⟩ := h
  refine pw_if_eq (tgt := 20) (pc := 7) hG d_Mo_setMatching_7 (by decide) hrx7 (fun hc7 => ?_) (fun hc7 => ?_)
  · replace h := ha7 hc7
    refine pw_bipush (pc := 20) hG d_Mo_setMatching_20 (by decide) ?_
    exact hR 22 _ _ _ d_Mo_setMatching_22 h
  · replace h := hb7 hc7
    refine pw_iload_n (pc := 10) hG d_Mo_setMatching_10 rfl ?_
    refine pw_iconst (pc := 11) hG d_Mo_setMatching_11 ?_
    refine pw_bipush (pc := 12) hG d_Mo_setMatching_12 (by decide) ?_
    refine pw_scalli (pc := 14) hG (fun l Δ => ct_Mo_in l Δ hΛ  h) m_942 k_Mo_in rfl ⟨by decide, by decide⟩ (Nat.le_of_ble_eq_true rfl) d_Mo_setMatching_14 rfl (fun r14 S14 h => ?_)
    obtain ⟨hrx17, ha17, hb17⟩ := h
    refine pw_if_ne (tgt := 23) (pc := 17) hG d_Mo_setMatching_17 (by decide) hrx17 (fun hc17 => ?_) (fun hc17 => ?_)
    · replace h := ha17 hc17
      refine pw_sipush (pc := 23) hG d_Mo_setMatching_23 (by decide) ?_
      refine pw_aload_n (pc := 26) hG d_Mo_setMatching_26 rfl ?_
      refine g10_4 (pc := 27) hG m_806 d_Mo_setMatching_27 o0 ?_
      refine pw_imul (pc := 30) hG d_Mo_setMatching_30 ?_
      refine pw_aload_n (pc := 31) hG d_Mo_setMatching_31 rfl ?_
      refine g10_5 (pc := 32) hG m_807 d_Mo_setMatching_32 o0 ?_
      refine pw_iadd (pc := 35) hG d_Mo_setMatching_35 ?_
      refine pw_istore_n (pc := 36) hG d_Mo_setMatching_36 (by decide) (fun x36 ex36 => ⟨_, rfl, ?_⟩)
      replace h := h x36 ex36
      refine pw_aload_n (pc := 37) hG d_Mo_setMatching_37 rfl ?_
      refine pw_iload_n (pc := 38) hG d_Mo_setMatching_38 rfl ?_
      refine p10_4 (pc := 39) hG m_806 d_Mo_setMatching_39 o0 (fun S39 eS39 => ?_)
      replace h := h S39 eS39
      refine pw_aload_n (pc := 42) hG d_Mo_setMatching_42 rfl ?_
      refine pw_iload_n (pc := 43) hG d_Mo_setMatching_43 rfl ?_
      refine p10_5 (pc := 44) hG m_807 d_Mo_setMatching_44 o0 (fun S44 eS44 => ?_)
      replace h := h S44 eS44
      refine pw_aload_n (pc := 47) hG d_Mo_setMatching_47 rfl ?_
      refine pw_callv (pc := 48) hG (fun l Δ => ct_Mo_changes l Δ hΛ o0 h) o0 rfl (by decide) m_794 k_Mo_changes rfl ⟨by decide, by decide⟩ (Nat.le_of_ble_eq_true rfl) d_Mo_setMatching_48 rfl (fun S48 h => ?_)
      refine pw_iload_n (pc := 51) hG d_Mo_setMatching_51 rfl ?_
      exact hR 52 _ _ _ d_Mo_setMatching_52 h
    · replace h := hb17 hc17
      refine pw_bipush (pc := 20) hG d_Mo_setMatching_20 (by decide) ?_
      exact hR 22 _ _ _ d_Mo_setMatching_22 h
theorem ct_Mo_setMatching (l : Launch) (Δ : QDl) {Λ : QLay} (hΛ : LayOk Λ) {v0 : Nat} {v1 : Int} {v2 : Int} {S : QMem} {Q : Int → QMem → Prop} (o0 : qob Λ 10 v0) (h : w_Mo_setMatching Λ v0 v1 v2 S Q) : QCt l y_Mo_setMatching c_Mo_setMatching 4 (some .int) 3 65 Δ Λ [.ref v0, vI v1, vI v2] S (qI Q) :=
  QCt.mk (own := "TreeDifferModel") hΛ (by decide) rfl rfl (Nat.le_of_ble_eq_true rfl) (fun G hG ri rz rv rj ra => b_Mo_setMatching_0 hG (fun pc lv x S d hq => ri pc lv x S rfl d ⟨x, rfl, hq⟩) v0 v1 v2 S o0 h)
theorem k_Mo_putsIn : QVf y_Mo_putsIn c_Mo_putsIn 5 none "TreeDifferModel" 3 := ⟨m_1095, m_p64, m_11, m_1096, by decide +kernel⟩
theorem b_Mo_putsIn_15 {Λ : QLay} {G : Nat → List (Nat × Value) → List Value → QMem → Prop} {Q : QMem → Prop} (hG : QAct c_Mo_putsIn "TreeDifferModel" 5 { frames := 0, cells := 0, slots := 0, locals := 0 } Λ G) (hR : RtV c_Mo_putsIn G Q) : ∀ (n : Nat) (v0 : Nat) (v1 : Int) (v2 : Int) (v3 : Int) (v4 : Int) (S : QMem), qob Λ 10 v0 → w_Mo_putsIn_15 Λ Q n v0 v1 v2 v3 v4 S → G 15 [(0, .ref v0), (1, vI v1), (2, vI v2), (3, vI v3), (4, vI v4)] [] S := by
  have hΛ := hG.lay
  intro n
  induction n with
  | zero => intro v0 v1 v2 v3 v4 S o_v0 h; exact h.elim
  | succ n ih =>
    intro v0 v1 v2 v3 v4 S o_v0 h
    rw [w_Mo_putsIn_15] at h
    refine pw_iload (pc := 15) hG d_Mo_putsIn_15 rfl ?_
    refine pw_iload_n (pc := 17) hG d_Mo_putsIn_17 rfl ?_
    obtain ⟨hrx18, hry18, ha18, hb18⟩ := h
    refine pw_icmp_le (tgt := 53) (pc := 18) hG d_Mo_putsIn_18 (by decide) hrx18 hry18 (fun hc18 => ?_) (fun hc18 => ?_)
    · replace h := ha18 hc18
      refine pw_aload_n (pc := 53) hG d_Mo_putsIn_53 rfl ?_
      refine g10_28 (pc := 54) hG m_830 d_Mo_putsIn_54 o_v0 ?_
      refine pw_bipush (pc := 57) hG d_Mo_putsIn_57 (by decide) ?_
      refine pw_iload_n (pc := 59) hG d_Mo_putsIn_59 rfl ?_
      refine pw_imul (pc := 60) hG d_Mo_putsIn_60 ?_
      refine pw_iload_n (pc := 61) hG d_Mo_putsIn_61 rfl ?_
      refine pw_iadd (pc := 62) hG d_Mo_putsIn_62 ?_
      refine pw_iload_n (pc := 63) hG d_Mo_putsIn_63 rfl ?_
      obtain ⟨hi64, h⟩ := h
      refine pw_sI (pc := 64) hG (q_arr hΛ o_v0 rfl (by decide)) hi64 d_Mo_putsIn_64 (fun S64 eS64 => ?_)
      replace h := h S64 eS64
      refine pw_aload_n (pc := 65) hG d_Mo_putsIn_65 rfl ?_
      refine g10_29 (pc := 66) hG m_831 d_Mo_putsIn_66 o_v0 ?_
      refine pw_iload_n (pc := 69) hG d_Mo_putsIn_69 rfl ?_
      refine pw_dup2 (pc := 70) hG d_Mo_putsIn_70 rfl rfl ?_
      obtain ⟨hi71, h⟩ := h
      refine pw_aI (pc := 71) hG (q_arr hΛ o_v0 rfl (by decide)) hi71 d_Mo_putsIn_71 ?_
      refine pw_iconst (pc := 72) hG d_Mo_putsIn_72 ?_
      refine pw_iadd (pc := 73) hG d_Mo_putsIn_73 ?_
      obtain ⟨hi74, h⟩ := h
      refine pw_sI (pc := 74) hG (q_arr hΛ o_v0 rfl (by decide)) hi74 d_Mo_putsIn_74 (fun S74 eS74 => ?_)
      replace h := h S74 eS74
      exact hR 75 _ _ d_Mo_putsIn_75 h
    · replace h := hb18 hc18
      refine pw_aload_n (pc := 21) hG d_Mo_putsIn_21 rfl ?_
      refine g10_28 (pc := 22) hG m_830 d_Mo_putsIn_22 o_v0 ?_
      refine pw_bipush (pc := 25) hG d_Mo_putsIn_25 (by decide) ?_
      refine pw_iload_n (pc := 27) hG d_Mo_putsIn_27 rfl ?_
      refine pw_imul (pc := 28) hG d_Mo_putsIn_28 ?_
      refine pw_iload (pc := 29) hG d_Mo_putsIn_29 rfl ?_
      refine pw_iadd (pc := 31) hG d_Mo_putsIn_31 ?_
      refine pw_aload_n (pc := 32) hG d_Mo_putsIn_32 rfl ?_
      refine g10_28 (pc := 33) hG m_830 d_Mo_putsIn_33 o_v0 ?_
      refine pw_bipush (pc := 36) hG d_Mo_putsIn_36 (by decide) ?_
      refine pw_iload_n (pc := 38) hG d_Mo_putsIn_38 rfl ?_
      refine pw_imul (pc := 39) hG d_Mo_putsIn_39 ?_
      refine pw_iload (pc := 40) hG d_Mo_putsIn_40 rfl ?_
      refine pw_iadd (pc := 42) hG d_Mo_putsIn_42 ?_
      refine pw_iconst (pc := 43) hG d_Mo_putsIn_43 ?_
      refine pw_isub (pc := 44) hG d_Mo_putsIn_44 ?_
      obtain ⟨hi45, h⟩ := h
      refine pw_aI (pc := 45) hG (q_arr hΛ o_v0 rfl (by decide)) hi45 d_Mo_putsIn_45 ?_
      obtain ⟨hi46, h⟩ := h
      refine pw_sI (pc := 46) hG (q_arr hΛ o_v0 rfl (by decide)) hi46 d_Mo_putsIn_46 (fun S46 eS46 => ?_)
      replace h := h S46 eS46
      refine pw_iinc0 (pc := 47) hG d_Mo_putsIn_47 rfl (by decide) rfl ?_
      refine pw_goto (tgt := 15) (pc := 50) hG d_Mo_putsIn_50 (by decide) ?_
      exact pw_sub hG [0, 1, 2, 3, 4] rfl (ih v0 v1 v2 v3 (v4 + (-1)) S46 o_v0 h)
theorem b_Mo_putsIn_0 {Λ : QLay} {G : Nat → List (Nat × Value) → List Value → QMem → Prop} {Q : QMem → Prop} (hG : QAct c_Mo_putsIn "TreeDifferModel" 5 { frames := 0, cells := 0, slots := 0, locals := 0 } Λ G) (hR : RtV c_Mo_putsIn G Q) (v0 : Nat) (v1 : Int) (v2 : Int) (v3 : Int) (S : QMem) (o0 : qob Λ 10 v0) (h : w_Mo_putsIn Λ v0 v1 v2 v3 S Q) : G 0 [(0, .ref v0), (1, vI v1), (2, vI v2), (3, vI v3)] [] S := by
  have hΛ := hG.lay
  unfold w_Mo_putsIn at h
  refine pw_aload_n (pc := 0) hG d_Mo_putsIn_0 rfl ?_
  refine g10_25 (pc := 1) hG m_827 d_Mo_putsIn_1 o0 ?_
  refine pw_iload_n (pc := 4) hG d_Mo_putsIn_4 rfl ?_
  refine pw_iload_n (pc := 5) hG d_Mo_putsIn_5 rfl ?_
  obtain ⟨hi6, h⟩ := h
  refine pw_sI (pc := 6) hG (q_arr hΛ o0 rfl (by decide)) hi6 d_Mo_putsIn_6 (fun S6 eS6 => ?_)
  replace h := h S6 eS6
  refine pw_aload_n (pc := 7) hG d_Mo_putsIn_7 rfl ?_
  refine g10_29 (pc := 8) hG m_831 d_Mo_putsIn_8 o0 ?_
  refine pw_iload_n (pc := 11) hG d_Mo_putsIn_11 rfl ?_
  obtain ⟨hi12, h⟩ := h
  refine pw_aI (pc := 12) hG (q_arr hΛ o0 rfl (by decide)) hi12 d_Mo_putsIn_12 ?_
  refine pw_istore (pc := 13) hG d_Mo_putsIn_13 (by decide) (fun x13 ex13 => ⟨_, rfl, ?_⟩)
  replace h := h x13 ex13
  obtain ⟨n13, h⟩ := h
  exact pw_sub hG [0, 1, 2, 3, 4] rfl (b_Mo_putsIn_15 hG hR n13 v0 v1 v2 v3 x13 S6 o0 h)
theorem ct_Mo_putsIn (l : Launch) (Δ : QDl) {Λ : QLay} (hΛ : LayOk Λ) {v0 : Nat} {v1 : Int} {v2 : Int} {v3 : Int} {S : QMem} {Q : QMem → Prop} (o0 : qob Λ 10 v0) (h : w_Mo_putsIn Λ v0 v1 v2 v3 S Q) : QCt l y_Mo_putsIn c_Mo_putsIn 5 none 0 0 Δ Λ [.ref v0, vI v1, vI v2, vI v3] S (qV Q) :=
  QCt.mk (own := "TreeDifferModel") hΛ (by decide) rfl rfl (Nat.le_of_ble_eq_true rfl) (fun G hG ri rz rv rj ra => b_Mo_putsIn_0 hG (fun pc lv S d hq => rv pc lv S rfl d ⟨rfl, hq⟩) v0 v1 v2 v3 S o0 h)
theorem k_Mo_copyBegins : QVf y_Mo_copyBegins c_Mo_copyBegins 4 none "TreeDifferModel" 1 := ⟨m_1091, m_p63, m_11, m_1092, by decide +kernel⟩
theorem b_Mo_copyBegins_110 {Λ : QLay} {G : Nat → List (Nat × Value) → List Value → QMem → Prop} {Q : QMem → Prop} (hG : QAct c_Mo_copyBegins "TreeDifferModel" 4 { frames := 1, cells := 0, slots := 0, locals := 24 } Λ G) (hR : RtV c_Mo_copyBegins G Q) {K31 : Nat → Int → Int → QMem → Prop} (hK31 : ∀ (v0 : Nat) (v1 : Int) (v2 : Int) (S : QMem), qob Λ 10 v0 → K31 v0 v1 v2 S → G 31 [(0, .ref v0), (1, vI v1), (2, vI v2)] [] S) (v0 : Nat) (v1 : Int) (v2 : Int) (s0 : Nat) (s1 : Int) (s2 : Int) (s3 : Nat) (s4 : Int) (S : QMem) (o_v0 : qob Λ 10 v0) (o_s0 : qob Λ 10 s0) (o_s3 : qob Λ 10 s3) (h : w_Mo_copyBegins_110 Λ K31 Q v0 v1 v2 s0 s1 s2 s3 s4 S) : G 110 [(0, .ref v0), (1, vI v1), (2, vI v2)] [vI s4, .ref (yA Λ s3 29), vI s2, vI s1, .ref s0] S := by
  have hΛ := hG.lay
  unfold w_Mo_copyBegins_110 at h
  obtain ⟨hi110, h⟩ := h
  refine pw_aI (pc := 110) hG (q_arr hΛ o_s3 rfl (by decide)) hi110 d_Mo_copyBegins_110 ?_
  refine pw_callv (pc := 111) hG (fun l Δ => ct_Mo_putsIn l Δ hΛ o_s0 h) o_s0 rfl (by decide) m_1093 k_Mo_putsIn rfl ⟨by decide, by decide⟩ (Nat.le_of_ble_eq_true rfl) d_Mo_copyBegins_111 rfl (fun S111 h => ?_)
  refine pw_iinc0 (pc := 114) hG d_Mo_copyBegins_114 rfl (by decide) rfl ?_
  refine pw_goto (tgt := 31) (pc := 117) hG d_Mo_copyBegins_117 (by decide) ?_
  exact pw_sub hG [0, 1, 2] rfl (hK31 v0 v1 (v2 + 1) S111 o_v0 h)
theorem b_Mo_copyBegins_96 {Λ : QLay} {G : Nat → List (Nat × Value) → List Value → QMem → Prop} {Q : QMem → Prop} (hG : QAct c_Mo_copyBegins "TreeDifferModel" 4 { frames := 1, cells := 0, slots := 0, locals := 24 } Λ G) (hR : RtV c_Mo_copyBegins G Q) {K31 : Nat → Int → Int → QMem → Prop} (hK31 : ∀ (v0 : Nat) (v1 : Int) (v2 : Int) (S : QMem), qob Λ 10 v0 → K31 v0 v1 v2 S → G 31 [(0, .ref v0), (1, vI v1), (2, vI v2)] [] S) (v0 : Nat) (v1 : Int) (v2 : Int) (v3 : Int) (s0 : Nat) (s1 : Int) (s2 : Int) (S : QMem) (o_v0 : qob Λ 10 v0) (o_s0 : qob Λ 10 s0) (h : w_Mo_copyBegins_96 Λ K31 Q v0 v1 v2 v3 s0 s1 s2 S) : G 96 [(0, .ref v0), (1, vI v1), (2, vI v2), (3, vI v3)] [vI s2, vI s1, .ref s0] S := by
  have hΛ := hG.lay
  unfold w_Mo_copyBegins_96 at h
  refine pw_aload_n (pc := 96) hG d_Mo_copyBegins_96 rfl ?_
  refine g10_29 (pc := 97) hG m_831 d_Mo_copyBegins_97 o_v0 ?_
  refine pw_iload_n (pc := 100) hG d_Mo_copyBegins_100 rfl ?_
  obtain ⟨hrx101, ha101, hb101⟩ := h
  refine pw_if_ge (tgt := 109) (pc := 101) hG d_Mo_copyBegins_101 (by decide) hrx101 (fun hc101 => ?_) (fun hc101 => ?_)
  · replace h := ha101 hc101
    refine pw_iload_n (pc := 109) hG d_Mo_copyBegins_109 rfl ?_
    exact pw_sub hG [0, 1, 2] rfl (b_Mo_copyBegins_110 hG hR hK31 v0 v1 v2 s0 s1 s2 v0 v3 S o_v0 o_s0 o_v0 h)
  · replace h := hb101 hc101
    refine pw_bipush (pc := 104) hG d_Mo_copyBegins_104 (by decide) ?_
    refine pw_goto (tgt := 110) (pc := 106) hG d_Mo_copyBegins_106 (by decide) ?_
    exact pw_sub hG [0, 1, 2] rfl (b_Mo_copyBegins_110 hG hR hK31 v0 v1 v2 s0 s1 s2 v0 48 S o_v0 o_s0 o_v0 h)
theorem b_Mo_copyBegins_31 {Λ : QLay} {G : Nat → List (Nat × Value) → List Value → QMem → Prop} {Q : QMem → Prop} (hG : QAct c_Mo_copyBegins "TreeDifferModel" 4 { frames := 1, cells := 0, slots := 0, locals := 24 } Λ G) (hR : RtV c_Mo_copyBegins G Q) : ∀ (n : Nat) (v0 : Nat) (v1 : Int) (v2 : Int) (S : QMem), qob Λ 10 v0 → w_Mo_copyBegins_31 Λ Q n v0 v1 v2 S → G 31 [(0, .ref v0), (1, vI v1), (2, vI v2)] [] S := by
  have hΛ := hG.lay
  intro n
  induction n with
  | zero => intro v0 v1 v2 S o_v0 h; exact h.elim
  | succ n ih =>
    intro v0 v1 v2 S o_v0 h
    rw [w_Mo_copyBegins_31] at h
    refine pw_iload_n (pc := 31) hG d_Mo_copyBegins_31 rfl ?_
    refine pw_aload_n (pc := 32) hG d_Mo_copyBegins_32 rfl ?_
    refine g10_0 (pc := 33) hG m_802 d_Mo_copyBegins_33 o_v0 ?_
    refine pw_iload_n (pc := 36) hG d_Mo_copyBegins_36 rfl ?_
    obtain ⟨hi37, h⟩ := h
    refine pw_aI (pc := 37) hG (q_arr hΛ o_v0 rfl (by decide)) hi37 d_Mo_copyBegins_37 ?_
    obtain ⟨hrx38, hry38, ha38, hb38⟩ := h
    refine pw_icmp_ge (tgt := 120) (pc := 38) hG d_Mo_copyBegins_38 (by decide) hrx38 hry38 (fun hc38 => ?_) (fun hc38 => ?_)
    · replace h := ha38 hc38
      exact hR 120 _ _ d_Mo_copyBegins_120 h
    · replace h := hb38 hc38
      refine pw_aload_n (pc := 41) hG d_Mo_copyBegins_41 rfl ?_
      refine g10_3 (pc := 42) hG m_805 d_Mo_copyBegins_42 o_v0 ?_
      refine pw_iload_n (pc := 45) hG d_Mo_copyBegins_45 rfl ?_
      refine pw_iload_n (pc := 46) hG d_Mo_copyBegins_46 rfl ?_
      refine pw_scalli (pc := 47) hG (fun l Δ => ct_Mo_at l Δ hΛ  h) m_791 k_Mo_at rfl ⟨by decide, by decide⟩ (Nat.le_of_ble_eq_true rfl) d_Mo_copyBegins_47 rfl (fun r47 S47 h => ?_)
      obtain ⟨hi50, h⟩ := h
      refine pw_aI (pc := 50) hG (q_arr hΛ o_v0 rfl (by decide)) hi50 d_Mo_copyBegins_50 ?_
      refine pw_istore_n (pc := 51) hG d_Mo_copyBegins_51 (by decide) (fun x51 ex51 => ⟨_, rfl, ?_⟩)
      replace h := h x51 ex51
      refine pw_aload_n (pc := 52) hG d_Mo_copyBegins_52 rfl ?_
      refine g10_26 (pc := 53) hG m_828 d_Mo_copyBegins_53 o_v0 ?_
      refine pw_iload_n (pc := 56) hG d_Mo_copyBegins_56 rfl ?_
      refine pw_aload_n (pc := 57) hG d_Mo_copyBegins_57 rfl ?_
      refine g10_1 (pc := 58) hG m_803 d_Mo_copyBegins_58 o_v0 ?_
      refine pw_iload_n (pc := 61) hG d_Mo_copyBegins_61 rfl ?_
      refine pw_iload_n (pc := 62) hG d_Mo_copyBegins_62 rfl ?_
      refine pw_scalli (pc := 63) hG (fun l Δ => ct_Mo_at l Δ hΛ  h) m_791 k_Mo_at rfl ⟨by decide, by decide⟩ (Nat.le_of_ble_eq_true rfl) d_Mo_copyBegins_63 rfl (fun r63 S63 h => ?_)
      obtain ⟨hi66, h⟩ := h
      refine pw_aI (pc := 66) hG (q_arr hΛ o_v0 rfl (by decide)) hi66 d_Mo_copyBegins_66 ?_
      obtain ⟨hi67, h⟩ := h
      refine pw_sI (pc := 67) hG (q_arr hΛ o_v0 rfl (by decide)) hi67 d_Mo_copyBegins_67 (fun S67 eS67 => ?_)
      replace h := h S67 eS67
      refine pw_aload_n (pc := 68) hG d_Mo_copyBegins_68 rfl ?_
      refine g10_27 (pc := 69) hG m_829 d_Mo_copyBegins_69 o_v0 ?_
      refine pw_iload_n (pc := 72) hG d_Mo_copyBegins_72 rfl ?_
      refine pw_aload_n (pc := 73) hG d_Mo_copyBegins_73 rfl ?_
      refine g10_2 (pc := 74) hG m_804 d_Mo_copyBegins_74 o_v0 ?_
      refine pw_iload_n (pc := 77) hG d_Mo_copyBegins_77 rfl ?_
      refine pw_iload_n (pc := 78) hG d_Mo_copyBegins_78 rfl ?_
      refine pw_scalli (pc := 79) hG (fun l Δ => ct_Mo_at l Δ hΛ  h) m_791 k_Mo_at rfl ⟨by decide, by decide⟩ (Nat.le_of_ble_eq_true rfl) d_Mo_copyBegins_79 rfl (fun r79 S79 h => ?_)
      obtain ⟨hi82, h⟩ := h
      refine pw_aI (pc := 82) hG (q_arr hΛ o_v0 rfl (by decide)) hi82 d_Mo_copyBegins_82 ?_
      obtain ⟨hi83, h⟩ := h
      refine pw_sI (pc := 83) hG (q_arr hΛ o_v0 rfl (by decide)) hi83 d_Mo_copyBegins_83 (fun S83 eS83 => ?_)
      replace h := h S83 eS83
      refine pw_aload_n (pc := 84) hG d_Mo_copyBegins_84 rfl ?_
      refine pw_iload_n (pc := 85) hG d_Mo_copyBegins_85 rfl ?_
      refine pw_iload_n (pc := 86) hG d_Mo_copyBegins_86 rfl ?_
      obtain ⟨hrx87, ha87, hb87⟩ := h
      refine pw_if_ge (tgt := 95) (pc := 87) hG d_Mo_copyBegins_87 (by decide) hrx87 (fun hc87 => ?_) (fun hc87 => ?_)
      · replace h := ha87 hc87
        refine pw_iload_n (pc := 95) hG d_Mo_copyBegins_95 rfl ?_
        exact pw_sub hG [0, 1, 2, 3] rfl (b_Mo_copyBegins_96 hG hR ih v0 v1 v2 x51 v0 v2 x51 S83 o_v0 o_v0 h)
      · replace h := hb87 hc87
        refine pw_bipush (pc := 90) hG d_Mo_copyBegins_90 (by decide) ?_
        refine pw_goto (tgt := 96) (pc := 92) hG d_Mo_copyBegins_92 (by decide) ?_
        exact pw_sub hG [0, 1, 2, 3] rfl (b_Mo_copyBegins_96 hG hR ih v0 v1 v2 x51 v0 v2 48 S83 o_v0 o_v0 h)
theorem b_Mo_copyBegins_2 {Λ : QLay} {G : Nat → List (Nat × Value) → List Value → QMem → Prop} {Q : QMem → Prop} (hG : QAct c_Mo_copyBegins "TreeDifferModel" 4 { frames := 1, cells := 0, slots := 0, locals := 24 } Λ G) (hR : RtV c_Mo_copyBegins G Q) : ∀ (n : Nat) (v0 : Nat) (v1 : Int) (v2 : Int) (S : QMem), qob Λ 10 v0 → w_Mo_copyBegins_2 Λ Q n v0 v1 v2 S → G 2 [(0, .ref v0), (1, vI v1), (2, vI v2)] [] S := by
  have hΛ := hG.lay
  intro n
  induction n with
  | zero => intro v0 v1 v2 S o_v0 h; exact h.elim
  | succ n ih =>
    intro v0 v1 v2 S o_v0 h
    rw [w_Mo_copyBegins_2] at h
    refine pw_iload_n (pc := 2) hG d_Mo_copyBegins_2 rfl ?_
    refine pw_bipush (pc := 3) hG d_Mo_copyBegins_3 (by decide) ?_
    obtain ⟨hrx5, ha5, hb5⟩ := h
    refine pw_icmp_ge (tgt := 29) (pc := 5) hG d_Mo_copyBegins_5 (by decide) hrx5 (q_lit rfl) (fun hc5 => ?_) (fun hc5 => ?_)
    · replace h := ha5 hc5
      refine pw_iconst (pc := 29) hG d_Mo_copyBegins_29 ?_
      refine pw_ist_n (pc := 30) hG d_Mo_copyBegins_30 (by decide) rfl ?_
      obtain ⟨n30, h⟩ := h
      exact pw_sub hG [0, 1, 2] rfl (b_Mo_copyBegins_31 hG hR n30 v0 v1 0 S o_v0 h)
    · replace h := hb5 hc5
      refine pw_aload_n (pc := 8) hG d_Mo_copyBegins_8 rfl ?_
      refine g10_25 (pc := 9) hG m_827 d_Mo_copyBegins_9 o_v0 ?_
      refine pw_iload_n (pc := 12) hG d_Mo_copyBegins_12 rfl ?_
      refine pw_bipush (pc := 13) hG d_Mo_copyBegins_13 (by decide) ?_
      obtain ⟨hi15, h⟩ := h
      refine pw_sI (pc := 15) hG (q_arr hΛ o_v0 rfl (by decide)) hi15 d_Mo_copyBegins_15 (fun S15 eS15 => ?_)
      replace h := h S15 eS15
      refine pw_aload_n (pc := 16) hG d_Mo_copyBegins_16 rfl ?_
      refine g10_29 (pc := 17) hG m_831 d_Mo_copyBegins_17 o_v0 ?_
      refine pw_iload_n (pc := 20) hG d_Mo_copyBegins_20 rfl ?_
      refine pw_iconst (pc := 21) hG d_Mo_copyBegins_21 ?_
      obtain ⟨hi22, h⟩ := h
      refine pw_sI (pc := 22) hG (q_arr hΛ o_v0 rfl (by decide)) hi22 d_Mo_copyBegins_22 (fun S22 eS22 => ?_)
      replace h := h S22 eS22
      refine pw_iinc0 (pc := 23) hG d_Mo_copyBegins_23 rfl (by decide) rfl ?_
      refine pw_goto (tgt := 2) (pc := 26) hG d_Mo_copyBegins_26 (by decide) ?_
      exact pw_sub hG [0, 1, 2] rfl (ih v0 v1 (v2 + 1) S22 o_v0 h)
theorem b_Mo_copyBegins_0 {Λ : QLay} {G : Nat → List (Nat × Value) → List Value → QMem → Prop} {Q : QMem → Prop} (hG : QAct c_Mo_copyBegins "TreeDifferModel" 4 { frames := 1, cells := 0, slots := 0, locals := 24 } Λ G) (hR : RtV c_Mo_copyBegins G Q) (v0 : Nat) (v1 : Int) (S : QMem) (o0 : qob Λ 10 v0) (h : w_Mo_copyBegins Λ v0 v1 S Q) : G 0 [(0, .ref v0), (1, vI v1)] [] S := by
  have hΛ := hG.lay
  unfold w_Mo_copyBegins at h
  refine pw_iconst (pc := 0) hG d_Mo_copyBegins_0 ?_
  refine pw_ist_n (pc := 1) hG d_Mo_copyBegins_1 (by decide) rfl ?_
  obtain ⟨n1, h⟩ := h
  exact pw_sub hG [0, 1, 2] rfl (b_Mo_copyBegins_2 hG hR n1 v0 v1 0 S o0 h)
theorem ct_Mo_copyBegins (l : Launch) (Δ : QDl) {Λ : QLay} (hΛ : LayOk Λ) {v0 : Nat} {v1 : Int} {S : QMem} {Q : QMem → Prop} (o0 : qob Λ 10 v0) (h : w_Mo_copyBegins Λ v0 v1 S Q) : QCt l y_Mo_copyBegins c_Mo_copyBegins 4 none 1 24 Δ Λ [.ref v0, vI v1] S (qV Q) :=
  QCt.mk (own := "TreeDifferModel") hΛ (by decide) rfl rfl (Nat.le_of_ble_eq_true rfl) (fun G hG ri rz rv rj ra => b_Mo_copyBegins_0 hG (fun pc lv S d hq => rv pc lv S rfl d ⟨rfl, hq⟩) v0 v1 S o0 h)
