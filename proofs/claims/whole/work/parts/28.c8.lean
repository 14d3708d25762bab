theorem k_Mo_slot : QSf y_Mo_slot c_Mo_slot 1 (some .int) "TreeDifferModel" 1 := ⟨m_1145, m_11, m_1146, by decide +kernel⟩
theorem b_Mo_slot_0 {Λ : QLay} {G : Nat → List (Nat × Value) → List Value → QMem → Prop} {Q : Int → QMem → Prop} (hG : QAct c_Mo_slot "TreeDifferModel" 1 { frames := 1, cells := 0, slots := 0, locals := 22 } Λ G) (hR : RtI c_Mo_slot G Q) (v0 : Int) (S : QMem) (h : w_Mo_slot Λ v0 S Q) : G 0 [(0, vI v0)] [] S := by
  have hΛ := hG.lay
  unfold w_Mo_slot at h
  refine pw_iload_n (pc := 0) hG d_Mo_slot_0 rfl ?_
  refine pw_iconst (pc := 1) hG d_Mo_slot_1 ?_
  obtain ⟨hrx2, ha2, hb2⟩ := h
  refine pw_icmp_ne (tgt := 10) (pc := 2) hG d_Mo_slot_2 (by decide) hrx2 (q_lit rfl) (fun hc2 => ?_) (fun hc2 => ?_)
  · replace h := ha2 hc2
    refine pw_iload_n (pc := 10) hG d_Mo_slot_10 rfl ?_
    refine pw_iconst (pc := 11) hG d_Mo_slot_11 ?_
    refine pw_bipush (pc := 12) hG d_Mo_slot_12 (by decide) ?_
    refine pw_scalli (pc := 14) hG (fun l Δ => ct_Mo_in l Δ hΛ  h) m_942 k_Mo_in rfl ⟨by decide, by decide⟩ (Nat.le_of_ble_eq_true rfl) d_Mo_slot_14 rfl (fun r14 S14 h => ?_)
    obtain ⟨hrx17, ha17, hb17⟩ := h
    refine pw_if_eq (tgt := 24) (pc := 17) hG d_Mo_slot_17 (by decide) hrx17 (fun hc17 => ?_) (fun hc17 => ?_)
    · replace h := ha17 hc17
      refine pw_iload_n (pc := 24) hG d_Mo_slot_24 rfl ?_
      refine pw_bipush (pc := 25) hG d_Mo_slot_25 (by decide) ?_
      refine pw_bipush (pc := 27) hG d_Mo_slot_27 (by decide) ?_
      refine pw_scalli (pc := 29) hG (fun l Δ => ct_Mo_in l Δ hΛ  h) m_942 k_Mo_in rfl ⟨by decide, by decide⟩ (Nat.le_of_ble_eq_true rfl) d_Mo_slot_29 rfl (fun r29 S29 h => ?_)
      obtain ⟨hrx32, ha32, hb32⟩ := h
      refine pw_if_eq (tgt := 42) (pc := 32) hG d_Mo_slot_32 (by decide) hrx32 (fun hc32 => ?_) (fun hc32 => ?_)
      · replace h := ha32 hc32
        refine pw_iconst (pc := 42) hG d_Mo_slot_42 ?_
        exact hR 43 _ _ _ d_Mo_slot_43 h
      · replace h := hb32 hc32
        refine pw_iload_n (pc := 35) hG d_Mo_slot_35 rfl ?_
        refine pw_bipush (pc := 36) hG d_Mo_slot_36 (by decide) ?_
        refine pw_isub (pc := 38) hG d_Mo_slot_38 ?_
        refine pw_goto (tgt := 43) (pc := 39) hG d_Mo_slot_39 (by decide) ?_
        exact hR 43 _ _ _ d_Mo_slot_43 h
    · replace h := hb17 hc17
      refine pw_iload_n (pc := 20) hG d_Mo_slot_20 rfl ?_
      refine pw_goto (tgt := 43) (pc := 21) hG d_Mo_slot_21 (by decide) ?_
      exact hR 43 _ _ _ d_Mo_slot_43 h
  · replace h := hb2 hc2
    refine pw_bipush (pc := 5) hG d_Mo_slot_5 (by decide) ?_
    refine pw_goto (tgt := 43) (pc := 7) hG d_Mo_slot_7 (by decide) ?_
    exact hR 43 _ _ _ d_Mo_slot_43 h
theorem ct_Mo_slot (l : Launch) (Δ : QDl) {Λ : QLay} (hΛ : LayOk Λ) {v0 : Int} {S : QMem} {Q : Int → QMem → Prop} (h : w_Mo_slot Λ v0 S Q) : QCt l y_Mo_slot c_Mo_slot 1 (some .int) 1 22 Δ Λ [vI v0] S (qI Q) :=
  QCt.mk (own := "TreeDifferModel") hΛ (by decide) rfl rfl (Nat.le_of_ble_eq_true rfl) (fun G hG ri rz rv rj ra => b_Mo_slot_0 hG (fun pc lv x S d hq => ri pc lv x S rfl d ⟨x, rfl, hq⟩) v0 S  h)
theorem k_Mo_goesTo : QVf y_Mo_goesTo c_Mo_goesTo 5 none "TreeDifferModel" 1 := ⟨m_1142, m_p75, m_11, m_1143, by decide +kernel⟩
theorem b_Mo_goesTo_7 {Λ : QLay} {G : Nat → List (Nat × Value) → List Value → QMem → Prop} {Q : QMem → Prop} (hG : QAct c_Mo_goesTo "TreeDifferModel" 5 { frames := 2, cells := 0, slots := 0, locals := 47 } Λ G) (hR : RtV c_Mo_goesTo G Q) : ∀ (n : Nat) (v0 : Nat) (v1 : Int) (v2 : Int) (S : QMem), qob Λ 10 v0 → w_Mo_goesTo_7 Λ Q n v0 v1 v2 S → G 7 [(0, .ref v0), (1, vI v1), (2, vI v2)] [] S := by
  have hΛ := hG.lay
  intro n
  induction n with
  | zero => intro v0 v1 v2 S o_v0 h; exact h.elim
  | succ n ih =>
    intro v0 v1 v2 S o_v0 h
    rw [w_Mo_goesTo_7] at h
    refine pw_iload_n (pc := 7) hG d_Mo_goesTo_7 rfl ?_
    refine pw_bipush (pc := 8) hG d_Mo_goesTo_8 (by decide) ?_
    refine pw_iload_n (pc := 10) hG d_Mo_goesTo_10 rfl ?_
    refine pw_imul (pc := 11) hG d_Mo_goesTo_11 ?_
    obtain ⟨hrx12, hry12, ha12, hb12⟩ := h
    refine pw_icmp_ge (tgt := 158) (pc := 12) hG d_Mo_goesTo_12 (by decide) hrx12 hry12 (fun hc12 => ?_) (fun hc12 => ?_)
    · replace h := ha12 hc12
      refine pw_aload_n (pc := 158) hG d_Mo_goesTo_158 rfl ?_
      refine pw_iload_n (pc := 159) hG d_Mo_goesTo_159 rfl ?_
      refine p10_6 (pc := 160) hG m_808 d_Mo_goesTo_160 o_v0 (fun S160 eS160 => ?_)
      replace h := h S160 eS160
      exact hR 163 _ _ d_Mo_goesTo_163 h
    · replace h := hb12 hc12
      refine pw_aload_n (pc := 15) hG d_Mo_goesTo_15 rfl ?_
      refine g10_30 (pc := 16) hG m_832 d_Mo_goesTo_16 o_v0 ?_
      refine pw_iload_n (pc := 19) hG d_Mo_goesTo_19 rfl ?_
      refine pw_iconst (pc := 20) hG d_Mo_goesTo_20 ?_
      refine pw_iadd (pc := 21) hG d_Mo_goesTo_21 ?_
      obtain ⟨hi22, h⟩ := h
      refine pw_aI (pc := 22) hG (q_arr hΛ o_v0 rfl (by decide)) hi22 d_Mo_goesTo_22 ?_
      refine pw_scalli (pc := 23) hG (fun l Δ => ct_Mo_slot l Δ hΛ  h) m_1144 k_Mo_slot rfl ⟨by decide, by decide⟩ (Nat.le_of_ble_eq_true rfl) d_Mo_goesTo_23 rfl (fun r23 S23 h => ?_)
      refine pw_ist_n (pc := 26) hG d_Mo_goesTo_26 (by decide) rfl ?_
      refine pw_aload_n (pc := 27) hG d_Mo_goesTo_27 rfl ?_
      refine g10_30 (pc := 28) hG m_832 d_Mo_goesTo_28 o_v0 ?_
      refine pw_iload_n (pc := 31) hG d_Mo_goesTo_31 rfl ?_
      refine pw_iconst (pc := 32) hG d_Mo_goesTo_32 ?_
      refine pw_iadd (pc := 33) hG d_Mo_goesTo_33 ?_
      obtain ⟨hi34, h⟩ := h
      refine pw_aI (pc := 34) hG (q_arr hΛ o_v0 rfl (by decide)) hi34 d_Mo_goesTo_34 ?_
      refine pw_scalli (pc := 35) hG (fun l Δ => ct_Mo_slot l Δ hΛ  h) m_1144 k_Mo_slot rfl ⟨by decide, by decide⟩ (Nat.le_of_ble_eq_true rfl) d_Mo_goesTo_35 rfl (fun r35 S35 h => ?_)
      refine pw_ist (pc := 38) hG d_Mo_goesTo_38 (by decide) rfl ?_
      refine pw_aload_n (pc := 40) hG d_Mo_goesTo_40 rfl ?_
      refine g10_30 (pc := 41) hG m_832 d_Mo_goesTo_41 o_v0 ?_
      refine pw_iload_n (pc := 44) hG d_Mo_goesTo_44 rfl ?_
      obtain ⟨hi45, h⟩ := h
      refine pw_aI (pc := 45) hG (q_arr hΛ o_v0 rfl (by decide)) hi45 d_Mo_goesTo_45 ?_
      obtain ⟨hrx46, ha46, hb46⟩ := h
      refine pw_if_ne (tgt := 66) (pc := 46) hG d_Mo_goesTo_46 (by decide) hrx46 (fun hc46 => ?_) (fun hc46 => ?_)
      · replace h := ha46 hc46
        refine pw_aload_n (pc := 66) hG d_Mo_goesTo_66 rfl ?_
        refine g10_30 (pc := 67) hG m_832 d_Mo_goesTo_67 o_v0 ?_
        refine pw_iload_n (pc := 70) hG d_Mo_goesTo_70 rfl ?_
        obtain ⟨hi71, h⟩ := h
        refine pw_aI (pc := 71) hG (q_arr hΛ o_v0 rfl (by decide)) hi71 d_Mo_goesTo_71 ?_
        refine pw_iconst (pc := 72) hG d_Mo_goesTo_72 ?_
        obtain ⟨hrx73, ha73, hb73⟩ := h
        refine pw_icmp_ne (tgt := 122) (pc := 73) hG d_Mo_goesTo_73 (by decide) hrx73 (q_lit rfl) (fun hc73 => ?_) (fun hc73 => ?_)
        · replace h := ha73 hc73
          refine pw_aload_n (pc := 122) hG d_Mo_goesTo_122 rfl ?_
          refine pw_iload_n (pc := 123) hG d_Mo_goesTo_123 rfl ?_
          refine pw_callv (pc := 124) hG (fun l Δ => ct_Mo_takesOut l Δ hΛ o_v0 h) o_v0 rfl (by decide) m_1117 k_Mo_takesOut rfl ⟨by decide, by decide⟩ (Nat.le_of_ble_eq_true rfl) d_Mo_goesTo_124 rfl (fun S124 h => ?_)
          refine pw_aload_n (pc := 127) hG d_Mo_goesTo_127 rfl ?_
          refine g10_30 (pc := 128) hG m_832 d_Mo_goesTo_128 o_v0 ?_
          refine pw_iload_n (pc := 131) hG d_Mo_goesTo_131 rfl ?_
          obtain ⟨hi132, h⟩ := h
          refine pw_aI (pc := 132) hG (q_arr hΛ o_v0 rfl (by decide)) hi132 d_Mo_goesTo_132 ?_
          refine pw_iconst (pc := 133) hG d_Mo_goesTo_133 ?_
          obtain ⟨hrx134, ha134, hb134⟩ := h
          refine pw_icmp_ne (tgt := 152) (pc := 134) hG d_Mo_goesTo_134 (by decide) hrx134 (q_lit rfl) (fun hc134 => ?_) (fun hc134 => ?_)
          · replace h := ha134 hc134
            refine pw_iinc0 (pc := 152) hG d_Mo_goesTo_152 rfl (by decide) rfl ?_
            refine pw_goto (tgt := 7) (pc := 155) hG d_Mo_goesTo_155 (by decide) ?_
            exact pw_sub hG [0, 1, 2] rfl (ih v0 v1 (v2 + 6) S124 o_v0 h)
          · replace h := hb134 hc134
            refine pw_aload_n (pc := 137) hG d_Mo_goesTo_137 rfl ?_
            refine pw_iload_n (pc := 138) hG d_Mo_goesTo_138 rfl ?_
            refine pw_iload (pc := 139) hG d_Mo_goesTo_139 rfl ?_
            refine pw_aload_n (pc := 141) hG d_Mo_goesTo_141 rfl ?_
            refine g10_30 (pc := 142) hG m_832 d_Mo_goesTo_142 o_v0 ?_
            refine pw_iload_n (pc := 145) hG d_Mo_goesTo_145 rfl ?_
            refine pw_iconst (pc := 146) hG d_Mo_goesTo_146 ?_
            refine pw_iadd (pc := 147) hG d_Mo_goesTo_147 ?_
            obtain ⟨hi148, h⟩ := h
            refine pw_aI (pc := 148) hG (q_arr hΛ o_v0 rfl (by decide)) hi148 d_Mo_goesTo_148 ?_
            refine pw_callv (pc := 149) hG (fun l Δ => ct_Mo_putsIn l Δ hΛ o_v0 h) o_v0 rfl (by decide) m_1093 k_Mo_putsIn rfl ⟨by decide, by decide⟩ (Nat.le_of_ble_eq_true rfl) d_Mo_goesTo_149 rfl (fun S149 h => ?_)
            refine pw_iinc0 (pc := 152) hG d_Mo_goesTo_152 rfl (by decide) rfl ?_
            refine pw_goto (tgt := 7) (pc := 155) hG d_Mo_goesTo_155 (by decide) ?_
            exact pw_sub hG [0, 1, 2] rfl (ih v0 v1 (v2 + 6) S149 o_v0 h)
        · replace h := hb73 hc73
          refine pw_aload_n (pc := 76) hG d_Mo_goesTo_76 rfl ?_
          refine g10_26 (pc := 77) hG m_828 d_Mo_goesTo_77 o_v0 ?_
          refine pw_iload_n (pc := 80) hG d_Mo_goesTo_80 rfl ?_
          refine pw_aload_n (pc := 81) hG d_Mo_goesTo_81 rfl ?_
          refine g10_30 (pc := 82) hG m_832 d_Mo_goesTo_82 o_v0 ?_
          refine pw_iload_n (pc := 85) hG d_Mo_goesTo_85 rfl ?_
          refine pw_iconst (pc := 86) hG d_Mo_goesTo_86 ?_
          refine pw_iadd (pc := 87) hG d_Mo_goesTo_87 ?_
          obtain ⟨hi88, h⟩ := h
          refine pw_aI (pc := 88) hG (q_arr hΛ o_v0 rfl (by decide)) hi88 d_Mo_goesTo_88 ?_
          obtain ⟨hi89, h⟩ := h
          refine pw_sI (pc := 89) hG (q_arr hΛ o_v0 rfl (by decide)) hi89 d_Mo_goesTo_89 (fun S89 eS89 => ?_)
          replace h := h S89 eS89
          refine pw_aload_n (pc := 90) hG d_Mo_goesTo_90 rfl ?_
          refine g10_27 (pc := 91) hG m_829 d_Mo_goesTo_91 o_v0 ?_
          refine pw_iload_n (pc := 94) hG d_Mo_goesTo_94 rfl ?_
          refine pw_aload_n (pc := 95) hG d_Mo_goesTo_95 rfl ?_
          refine g10_30 (pc := 96) hG m_832 d_Mo_goesTo_96 o_v0 ?_
          refine pw_iload_n (pc := 99) hG d_Mo_goesTo_99 rfl ?_
          refine pw_iconst (pc := 100) hG d_Mo_goesTo_100 ?_
          refine pw_iadd (pc := 101) hG d_Mo_goesTo_101 ?_
          obtain ⟨hi102, h⟩ := h
          refine pw_aI (pc := 102) hG (q_arr hΛ o_v0 rfl (by decide)) hi102 d_Mo_goesTo_102 ?_
          obtain ⟨hi103, h⟩ := h
          refine pw_sI (pc := 103) hG (q_arr hΛ o_v0 rfl (by decide)) hi103 d_Mo_goesTo_103 (fun S103 eS103 => ?_)
          replace h := h S103 eS103
          refine pw_aload_n (pc := 104) hG d_Mo_goesTo_104 rfl ?_
          refine pw_iload_n (pc := 105) hG d_Mo_goesTo_105 rfl ?_
          refine pw_iload (pc := 106) hG d_Mo_goesTo_106 rfl ?_
          refine pw_aload_n (pc := 108) hG d_Mo_goesTo_108 rfl ?_
          refine g10_30 (pc := 109) hG m_832 d_Mo_goesTo_109 o_v0 ?_
          refine pw_iload_n (pc := 112) hG d_Mo_goesTo_112 rfl ?_
          refine pw_iconst (pc := 113) hG d_Mo_goesTo_113 ?_
          refine pw_iadd (pc := 114) hG d_Mo_goesTo_114 ?_
          obtain ⟨hi115, h⟩ := h
          refine pw_aI (pc := 115) hG (q_arr hΛ o_v0 rfl (by decide)) hi115 d_Mo_goesTo_115 ?_
          refine pw_callv (pc := 116) hG (fun l Δ => ct_Mo_putsIn l Δ hΛ o_v0 h) o_v0 rfl (by decide) m_1093 k_Mo_putsIn rfl ⟨by decide, by decide⟩ (Nat.le_of_ble_eq_true rfl) d_Mo_goesTo_116 rfl (fun S116 h => ?_)
          refine pw_goto (tgt := 152) (pc := 119) hG d_Mo_goesTo_119 (by decide) ?_
          refine pw_iinc0 (pc := 152) hG d_Mo_goesTo_152 rfl (by decide) rfl ?_
          refine pw_goto (tgt := 7) (pc := 155) hG d_Mo_goesTo_155 (by decide) ?_
          exact pw_sub hG [0, 1, 2] rfl (ih v0 v1 (v2 + 6) S116 o_v0 h)
      · replace h := hb46 hc46
        refine pw_aload_n (pc := 49) hG d_Mo_goesTo_49 rfl ?_
        refine g10_27 (pc := 50) hG m_829 d_Mo_goesTo_50 o_v0 ?_
        refine pw_iload_n (pc := 53) hG d_Mo_goesTo_53 rfl ?_
        refine pw_aload_n (pc := 54) hG d_Mo_goesTo_54 rfl ?_
        refine g10_30 (pc := 55) hG m_832 d_Mo_goesTo_55 o_v0 ?_
        refine pw_iload_n (pc := 58) hG d_Mo_goesTo_58 rfl ?_
        refine pw_iconst (pc := 59) hG d_Mo_goesTo_59 ?_
        refine pw_iadd (pc := 60) hG d_Mo_goesTo_60 ?_
        obtain ⟨hi61, h⟩ := h
        refine pw_aI (pc := 61) hG (q_arr hΛ o_v0 rfl (by decide)) hi61 d_Mo_goesTo_61 ?_
        obtain ⟨hi62, h⟩ := h
        refine pw_sI (pc := 62) hG (q_arr hΛ o_v0 rfl (by decide)) hi62 d_Mo_goesTo_62 (fun S62 eS62 => ?_)
        replace h := h S62 eS62
        refine pw_goto (tgt := 152) (pc := 63) hG d_Mo_goesTo_63 (by decide) ?_
        refine pw_iinc0 (pc := 152) hG d_Mo_goesTo_152 rfl (by decide) rfl ?_
        refine pw_goto (tgt := 7) (pc := 155) hG d_Mo_goesTo_155 (by decide) ?_
        exact pw_sub hG [0, 1, 2] rfl (ih v0 v1 (v2 + 6) S62 o_v0 h)
theorem b_Mo_goesTo_0 {Λ : QLay} {G : Nat → List (Nat × Value) → List Value → QMem → Prop} {Q : QMem → Prop} (hG : QAct c_Mo_goesTo "TreeDifferModel" 5 { frames := 2, cells := 0, slots := 0, locals := 47 } Λ G) (hR : RtV c_Mo_goesTo G Q) (v0 : Nat) (v1 : Int) (S : QMem) (o0 : qob Λ 10 v0) (h : w_Mo_goesTo Λ v0 v1 S Q) : G 0 [(0, .ref v0), (1, vI v1)] [] S := by
  have hΛ := hG.lay
  unfold w_Mo_goesTo at h
  refine pw_aload_n (pc := 0) hG d_Mo_goesTo_0 rfl ?_
  refine pw_iconst (pc := 1) hG d_Mo_goesTo_1 ?_
  refine pw_callv (pc := 2) hG (fun l Δ => ct_Mo_copyBegins l Δ hΛ o0 h) o0 rfl (by decide) m_1089 k_Mo_copyBegins rfl ⟨by decide, by decide⟩ (Nat.le_of_ble_eq_true rfl) d_Mo_goesTo_2 rfl (fun S2 h => ?_)
  refine pw_iconst (pc := 5) hG d_Mo_goesTo_5 ?_
  refine pw_ist_n (pc := 6) hG d_Mo_goesTo_6 (by decide) rfl ?_
  obtain ⟨n6, h⟩ := h
  exact pw_sub hG [0, 1, 2] rfl (b_Mo_goesTo_7 hG hR n6 v0 v1 0 S2 o0 h)
theorem ct_Mo_goesTo (l : Launch) (Δ : QDl) {Λ : QLay} (hΛ : LayOk Λ) {v0 : Nat} {v1 : Int} {S : QMem} {Q : QMem → Prop} (o0 : qob Λ 10 v0) (h : w_Mo_goesTo Λ v0 v1 S Q) : QCt l y_Mo_goesTo c_Mo_goesTo 5 none 2 47 Δ Λ [.ref v0, vI v1] S (qV Q) :=
  QCt.mk (own := "TreeDifferModel") hΛ (by decide) rfl rfl (Nat.le_of_ble_eq_true rfl) (fun G hG ri rz rv rj ra => b_Mo_goesTo_0 hG (fun pc lv S d hq => rv pc lv S rfl d ⟨rfl, hq⟩) v0 v1 S o0 h)
theorem k_Mo_finds : QVf y_Mo_finds c_Mo_finds 1 none "TreeDifferModel" 0 := ⟨m_1039, m_p50, m_11, m_1040, by decide +kernel⟩
theorem b_Mo_finds_0 {Λ : QLay} {G : Nat → List (Nat × Value) → List Value → QMem → Prop} {Q : QMem → Prop} (hG : QAct c_Mo_finds "TreeDifferModel" 1 { frames := 7, cells := 0, slots := 0, locals := 160 } Λ G) (hR : RtV c_Mo_finds G Q) (v0 : Nat) (S : QMem) (o0 : qob Λ 10 v0) (h : w_Mo_finds Λ v0 S Q) : G 0 [(0, .ref v0)] [] S := by
  have hΛ := hG.lay
  unfold w_Mo_finds at h
  refine pw_aload_n (pc := 0) hG d_Mo_finds_0 rfl ?_
  refine g10_20 (pc := 1) hG m_822 d_Mo_finds_1 o0 ?_
  obtain ⟨hrx4, ha4, hb4⟩ := h
  refine pw_if_eq (tgt := 8) (pc := 4) hG d_Mo_finds_4 (by decide) hrx4 (fun hc4 => ?_) (fun hc4 => ?_)
  · replace h := ha4 hc4
    refine pw_aload_n (pc := 8) hG d_Mo_finds_8 rfl ?_
    refine pw_callv (pc := 9) hG (fun l Δ => ct_Mo_matches l Δ hΛ o0 h) o0 rfl (by decide) m_1041 k_Mo_matches rfl ⟨by decide, by decide⟩ (Nat.le_of_ble_eq_true rfl) d_Mo_finds_9 rfl (fun S9 h => ?_)
    refine pw_aload_n (pc := 12) hG d_Mo_finds_12 rfl ?_
    refine pw_callv (pc := 13) hG (fun l Δ => ct_Mo_writes l Δ hΛ o0 h) o0 rfl (by decide) m_1085 k_Mo_writes rfl ⟨by decide, by decide⟩ (Nat.le_of_ble_eq_true rfl) d_Mo_finds_13 rfl (fun S13 h => ?_)
    refine pw_aload_n (pc := 16) hG d_Mo_finds_16 rfl ?_
    refine pw_iconst (pc := 17) hG d_Mo_finds_17 ?_
    refine p10_20 (pc := 18) hG m_822 d_Mo_finds_18 o0 (Or.inr rfl) (fun S18 eS18 => ?_)
    replace h := h S18 eS18
    refine pw_aload_n (pc := 21) hG d_Mo_finds_21 rfl ?_
    refine pw_aload_n (pc := 22) hG d_Mo_finds_22 rfl ?_
    refine g10_6 (pc := 23) hG m_808 d_Mo_finds_23 o0 ?_
    refine pw_callv (pc := 26) hG (fun l Δ => ct_Mo_goesTo l Δ hΛ o0 h) o0 rfl (by decide) m_1140 k_Mo_goesTo rfl ⟨by decide, by decide⟩ (Nat.le_of_ble_eq_true rfl) d_Mo_finds_26 rfl (fun S26 h => ?_)
    exact hR 29 _ _ d_Mo_finds_29 h
  · replace h := hb4 hc4
    exact hR 7 _ _ d_Mo_finds_7 h
theorem ct_Mo_finds (l : Launch) (Δ : QDl) {Λ : QLay} (hΛ : LayOk Λ) {v0 : Nat} {S : QMem} {Q : QMem → Prop} (o0 : qob Λ 10 v0) (h : w_Mo_finds Λ v0 S Q) : QCt l y_Mo_finds c_Mo_finds 1 none 7 160 Δ Λ [.ref v0] S (qV Q) :=
  QCt.mk (own := "TreeDifferModel") hΛ (by decide) rfl rfl (Nat.le_of_ble_eq_true rfl) (fun G hG ri rz rv rj ra => b_Mo_finds_0 hG (fun pc lv S d hq => rv pc lv S rfl d ⟨rfl, hq⟩) v0 S o0 h)
theorem k_Mo_pairs : QVf y_Mo_pairs c_Mo_pairs 3 (some .int) "TreeDifferModel" 0 := ⟨m_1034, m_1035, m_11, m_1036, by decide +kernel⟩
theorem b_Mo_pairs_8 {Λ : QLay} {G : Nat → List (Nat × Value) → List Value → QMem → Prop} {Q : Int → QMem → Prop} (hG : QAct c_Mo_pairs "TreeDifferModel" 3 { frames := 8, cells := 0, slots := 0, locals := 180 } Λ G) (hR : RtI c_Mo_pairs G Q) : ∀ (n : Nat) (v0 : Nat) (v1 : Int) (v2 : Int) (S : QMem), qob Λ 10 v0 → w_Mo_pairs_8 Λ Q n v0 v1 v2 S → G 8 [(0, .ref v0), (1, vI v1), (2, vI v2)] [] S := by
  have hΛ := hG.lay
  intro n
  induction n with
  | zero => intro v0 v1 v2 S o_v0 h; exact h.elim
  | succ n ih =>
    intro v0 v1 v2 S o_v0 h
    rw [w_Mo_pairs_8] at h
    refine pw_iload_n (pc := 8) hG d_Mo_pairs_8 rfl ?_
    refine pw_aload_n (pc := 9) hG d_Mo_pairs_9 rfl ?_
    refine g10_0 (pc := 10) hG m_802 d_Mo_pairs_10 o_v0 ?_
    refine pw_iconst (pc := 13) hG d_Mo_pairs_13 ?_
    refine pw_aI (pc := 14) hG (q_arr hΛ o_v0 rfl (by decide)) (by decide) d_Mo_pairs_14 ?_
    obtain ⟨hrx15, hry15, ha15, hb15⟩ := h
    refine pw_icmp_ge (tgt := 41) (pc := 15) hG d_Mo_pairs_15 (by decide) hrx15 hry15 (fun hc15 => ?_) (fun hc15 => ?_)
    · replace h := ha15 hc15
      refine pw_iload_n (pc := 41) hG d_Mo_pairs_41 rfl ?_
      exact hR 42 _ _ _ d_Mo_pairs_42 h
    · replace h := hb15 hc15
      refine pw_iload_n (pc := 18) hG d_Mo_pairs_18 rfl ?_
      refine pw_aload_n (pc := 19) hG d_Mo_pairs_19 rfl ?_
      refine g10_21 (pc := 20) hG m_823 d_Mo_pairs_20 o_v0 ?_
      refine pw_iload_n (pc := 23) hG d_Mo_pairs_23 rfl ?_
      obtain ⟨hi24, h⟩ := h
      refine pw_aI (pc := 24) hG (q_arr hΛ o_v0 rfl (by decide)) hi24 d_Mo_pairs_24 ?_
      obtain ⟨hrx25, ha25, hb25⟩ := h
      refine pw_if_ge (tgt := 32) (pc := 25) hG d_Mo_pairs_25 (by decide) hrx25 (fun hc25 => ?_) (fun hc25 => ?_)
      · replace h := ha25 hc25
        refine pw_iconst (pc := 32) hG d_Mo_pairs_32 ?_
        refine pw_iadd (pc := 33) hG d_Mo_pairs_33 ?_
        refine pw_istore_n (pc := 34) hG d_Mo_pairs_34 (by decide) (fun x34 ex34 => ⟨_, rfl, ?_⟩)
        replace h := h x34 ex34
        refine pw_iinc0 (pc := 35) hG d_Mo_pairs_35 rfl (by decide) rfl ?_
        refine pw_goto (tgt := 8) (pc := 38) hG d_Mo_pairs_38 (by decide) ?_
        exact pw_sub hG [0, 1, 2] rfl (ih v0 x34 (v2 + 1) S o_v0 h)
      · replace h := hb25 hc25
        refine pw_iconst (pc := 28) hG d_Mo_pairs_28 ?_
        refine pw_goto (tgt := 33) (pc := 29) hG d_Mo_pairs_29 (by decide) ?_
        refine pw_iadd (pc := 33) hG d_Mo_pairs_33 ?_
        refine pw_istore_n (pc := 34) hG d_Mo_pairs_34 (by decide) (fun x34 ex34 => ⟨_, rfl, ?_⟩)
        replace h := h x34 ex34
        refine pw_iinc0 (pc := 35) hG d_Mo_pairs_35 rfl (by decide) rfl ?_
        refine pw_goto (tgt := 8) (pc := 38) hG d_Mo_pairs_38 (by decide) ?_
        exact pw_sub hG [0, 1, 2] rfl (ih v0 x34 (v2 + 1) S o_v0 h)
theorem b_Mo_pairs_0 {Λ : QLay} {G : Nat → List (Nat × Value) → List Value → QMem → Prop} {Q : Int → QMem → Prop} (hG : QAct c_Mo_pairs "TreeDifferModel" 3 { frames := 8, cells := 0, slots := 0, locals := 180 } Λ G) (hR : RtI c_Mo_pairs G Q) (v0 : Nat) (S : QMem) (o0 : qob Λ 10 v0) (h : w_Mo_pairs Λ v0 S Q) : G 0 [(0, .ref v0)] [] S := by
  have hΛ := hG.lay
  unfold w_Mo_pairs at h
  refine pw_aload_n (pc := 0) hG d_Mo_pairs_0 rfl ?_
  refine pw_callv (pc := 1) hG (fun l Δ => ct_Mo_finds l Δ hΛ o0 h) o0 rfl (by decide) m_1037 k_Mo_finds rfl ⟨by decide, by decide⟩ (Nat.le_of_ble_eq_true rfl) d_Mo_pairs_1 rfl (fun S1 h => ?_)
  refine pw_iconst (pc := 4) hG d_Mo_pairs_4 ?_
  refine pw_ist_n (pc := 5) hG d_Mo_pairs_5 (by decide) rfl ?_
  refine pw_iconst (pc := 6) hG d_Mo_pairs_6 ?_
  refine pw_ist_n (pc := 7) hG d_Mo_pairs_7 (by decide) rfl ?_
  obtain ⟨n7, h⟩ := h
  exact pw_sub hG [0, 1, 2] rfl (b_Mo_pairs_8 hG hR n7 v0 0 0 S1 o0 h)
theorem ct_Mo_pairs (l : Launch) (Δ : QDl) {Λ : QLay} (hΛ : LayOk Λ) {v0 : Nat} {S : QMem} {Q : Int → QMem → Prop} (o0 : qob Λ 10 v0) (h : w_Mo_pairs Λ v0 S Q) : QCt l y_Mo_pairs c_Mo_pairs 3 (some .int) 8 180 Δ Λ [.ref v0] S (qI Q) :=
  QCt.mk (own := "TreeDifferModel") hΛ (by decide) rfl rfl (Nat.le_of_ble_eq_true rfl) (fun G hG ri rz rv rj ra => b_Mo_pairs_0 hG (fun pc lv x S d hq => ri pc lv x S rfl d ⟨x, rfl, hq⟩) v0 S o0 h)
theorem k_Mo_partner : QVf y_Mo_partner c_Mo_partner 4 (some .int) "TreeDifferModel" 2 := ⟨m_1148, m_1149, m_11, m_1150, by decide +kernel⟩
theorem b_Mo_partner_35 {Λ : QLay} {G : Nat → List (Nat × Value) → List Value → QMem → Prop} {Q : Int → QMem → Prop} (hG : QAct c_Mo_partner "TreeDifferModel" 4 { frames := 8, cells := 0, slots := 0, locals := 180 } Λ G) (hR : RtI c_Mo_partner G Q) (s0 : Int) (S : QMem) (h : w_Mo_partner_35 Λ Q s0 S) : G 35 [] [vI s0] S := by
  have hΛ := hG.lay
  unfold w_Mo_partner_35 at h
  refine pw_ist_n (pc := 35) hG d_Mo_partner_35 (by decide) rfl ?_
  refine pw_iload_n (pc := 36) hG d_Mo_partner_36 rfl ?_
  obtain ⟨hrx37, ha37, hb37⟩ := h
  refine pw_if_ge (tgt := 45) (pc := 37) hG d_Mo_partner_37 (by decide) hrx37 (fun hc37 => ?_) (fun hc37 => ?_)
  · replace h := ha37 hc37
    refine pw_iload_n (pc := 45) hG d_Mo_partner_45 rfl ?_
    exact hR 46 _ _ _ d_Mo_partner_46 h
  · replace h := hb37 hc37
    refine pw_bipush (pc := 40) hG d_Mo_partner_40 (by decide) ?_
    refine pw_goto (tgt := 46) (pc := 42) hG d_Mo_partner_42 (by decide) ?_
    exact hR 46 _ _ _ d_Mo_partner_46 h
theorem b_Mo_partner_0 {Λ : QLay} {G : Nat → List (Nat × Value) → List Value → QMem → Prop} {Q : Int → QMem → Prop} (hG : QAct c_Mo_partner "TreeDifferModel" 4 { frames := 8, cells := 0, slots := 0, locals := 180 } Λ G) (hR : RtI c_Mo_partner G Q) (v0 : Nat) (v1 : Int) (v2 : Int) (S : QMem) (o0 : qob Λ 10 v0) (h : w_Mo_partner Λ v0 v1 v2 S Q) : G 0 [(0, .ref v0), (1, vI v1), (2, vI v2)] [] S := by
  have hΛ := hG.lay
  unfold w_Mo_partner at h
  refine pw_aload_n (pc := 0) hG d_Mo_partner_0 rfl ?_
  refine pw_iload_n (pc := 1) hG d_Mo_partner_1 rfl ?_
  refine pw_iload_n (pc := 2) hG d_Mo_partner_2 rfl ?_
  refine pw_calli (pc := 3) hG (fun l Δ => ct_Mo_isNode l Δ hΛ o0 h) o0 rfl (by decide) m_997 k_Mo_isNode rfl ⟨by decide, by decide⟩ (Nat.le_of_ble_eq_true rfl) d_Mo_partner_3 rfl (fun r3 S3 h => ?_)
  obtain ⟨hrx6, ha6, hb6⟩ := h
  refine pw_if_ne (tgt := 12) (pc := 6) hG d_Mo_partner_6 (by decide) hrx6 (fun hc6 => ?_) (fun hc6 => ?_)
  · replace h := ha6 hc6
    refine pw_aload_n (pc := 12) hG d_Mo_partner_12 rfl ?_
    refine pw_callv (pc := 13) hG (fun l Δ => ct_Mo_finds l Δ hΛ o0 h) o0 rfl (by decide) m_1037 k_Mo_finds rfl ⟨by decide, by decide⟩ (Nat.le_of_ble_eq_true rfl) d_Mo_partner_13 rfl (fun S13 h => ?_)
    refine pw_iload_n (pc := 16) hG d_Mo_partner_16 rfl ?_
    obtain ⟨hrx17, ha17, hb17⟩ := h
    refine pw_if_ne (tgt := 29) (pc := 17) hG d_Mo_partner_17 (by decide) hrx17 (fun hc17 => ?_) (fun hc17 => ?_)
    · replace h := ha17 hc17
      refine pw_aload_n (pc := 29) hG d_Mo_partner_29 rfl ?_
      refine g10_22 (pc := 30) hG m_824 d_Mo_partner_30 o0 ?_
      refine pw_iload_n (pc := 33) hG d_Mo_partner_33 rfl ?_
      obtain ⟨hi34, h⟩ := h
      refine pw_aI (pc := 34) hG (q_arr hΛ o0 rfl (by decide)) hi34 d_Mo_partner_34 ?_
      exact pw_sub hG [] rfl (b_Mo_partner_35 hG hR (S13.1 v0 22 v2) S13  h)
    · replace h := hb17 hc17
      refine pw_aload_n (pc := 20) hG d_Mo_partner_20 rfl ?_
      refine g10_21 (pc := 21) hG m_823 d_Mo_partner_21 o0 ?_
      refine pw_iload_n (pc := 24) hG d_Mo_partner_24 rfl ?_
      obtain ⟨hi25, h⟩ := h
      refine pw_aI (pc := 25) hG (q_arr hΛ o0 rfl (by decide)) hi25 d_Mo_partner_25 ?_
      refine pw_goto (tgt := 35) (pc := 26) hG d_Mo_partner_26 (by decide) ?_
      exact pw_sub hG [] rfl (b_Mo_partner_35 hG hR (S13.1 v0 21 v2) S13  h)
  · replace h := hb6 hc6
    refine pw_bipush (pc := 9) hG d_Mo_partner_9 (by decide) ?_
    exact hR 11 _ _ _ d_Mo_partner_11 h
theorem ct_Mo_partner (l : Launch) (Δ : QDl) {Λ : QLay} (hΛ : LayOk Λ) {v0 : Nat} {v1 : Int} {v2 : Int} {S : QMem} {Q : Int → QMem → Prop} (o0 : qob Λ 10 v0) (h : w_Mo_partner Λ v0 v1 v2 S Q) : QCt l y_Mo_partner c_Mo_partner 4 (some .int) 8 180 Δ Λ [.ref v0, vI v1, vI v2] S (qI Q) :=
  QCt.mk (own := "TreeDifferModel") hΛ (by decide) rfl rfl (Nat.le_of_ble_eq_true rfl) (fun G hG ri rz rv rj ra => b_Mo_partner_0 hG (fun pc lv x S d hq => ri pc lv x S rfl d ⟨x, rfl, hq⟩) v0 v1 v2 S o0 h)
theorem k_Mo_phase : QVf y_Mo_phase c_Mo_phase 2 (some .int) "TreeDifferModel" 1 := ⟨m_1152, m_1153, m_11, m_1154, by decide +kernel⟩
theorem b_Mo_phase_0 {Λ : QLay} {G : Nat → List (Nat × Value) → List Value → QMem → Prop} {Q : Int → QMem → Prop} (hG : QAct c_Mo_phase "TreeDifferModel" 2 { frames := 8, cells := 0, slots := 0, locals := 180 } Λ G) (hR : RtI c_Mo_phase G Q) (v0 : Nat) (v1 : Int) (S : QMem) (o0 : qob Λ 10 v0) (h : w_Mo_phase Λ v0 v1 S Q) : G 0 [(0, .ref v0), (1, vI v1)] [] S := by
  have hΛ := hG.lay
  unfold w_Mo_phase at h
  refine pw_aload_n (pc := 0) hG d_Mo_phase_0 rfl ?_
  refine pw_iconst (pc := 1) hG d_Mo_phase_1 ?_
  refine pw_iload_n (pc := 2) hG d_Mo_phase_2 rfl ?_
  refine pw_calli (pc := 3) hG (fun l Δ => ct_Mo_isNode l Δ hΛ o0 h) o0 rfl (by decide) m_997 k_Mo_isNode rfl ⟨by decide, by decide⟩ (Nat.le_of_ble_eq_true rfl) d_Mo_phase_3 rfl (fun r3 S3 h => ?_)
  obtain ⟨hrx6, ha6, hb6⟩ := h
  refine pw_if_ne (tgt := 12) (pc := 6) hG d_Mo_phase_6 (by decide) hrx6 (fun hc6 => ?_) (fun hc6 => ?_)
  · replace h := ha6 hc6
    refine pw_aload_n (pc := 12) hG d_Mo_phase_12 rfl ?_
    refine pw_callv (pc := 13) hG (fun l Δ => ct_Mo_finds l Δ hΛ o0 h) o0 rfl (by decide) m_1037 k_Mo_finds rfl ⟨by decide, by decide⟩ (Nat.le_of_ble_eq_true rfl) d_Mo_phase_13 rfl (fun S13 h => ?_)
    refine pw_aload_n (pc := 16) hG d_Mo_phase_16 rfl ?_
    refine g10_23 (pc := 17) hG m_825 d_Mo_phase_17 o0 ?_
    refine pw_iload_n (pc := 20) hG d_Mo_phase_20 rfl ?_
    obtain ⟨hi21, h⟩ := h
    refine pw_aI (pc := 21) hG (q_arr hΛ o0 rfl (by decide)) hi21 d_Mo_phase_21 ?_
    exact hR 22 _ _ _ d_Mo_phase_22 h
  · replace h := hb6 hc6
    refine pw_bipush (pc := 9) hG d_Mo_phase_9 (by decide) ?_
    exact hR 11 _ _ _ d_Mo_phase_11 h
theorem ct_Mo_phase (l : Launch) (Δ : QDl) {Λ : QLay} (hΛ : LayOk Λ) {v0 : Nat} {v1 : Int} {S : QMem} {Q : Int → QMem → Prop} (o0 : qob Λ 10 v0) (h : w_Mo_phase Λ v0 v1 S Q) : QCt l y_Mo_phase c_Mo_phase 2 (some .int) 8 180 Δ Λ [.ref v0, vI v1] S (qI Q) :=
  QCt.mk (own := "TreeDifferModel") hΛ (by decide) rfl rfl (Nat.le_of_ble_eq_true rfl) (fun G hG ri rz rv rj ra => b_Mo_phase_0 hG (fun pc lv x S d hq => ri pc lv x S rfl d ⟨x, rfl, hq⟩) v0 v1 S o0 h)
theorem k_Mo_likeness : QVf y_Mo_likeness c_Mo_likeness 4 (some .int) "TreeDifferModel" 2 := ⟨m_1156, m_1157, m_11, m_1158, by decide +kernel⟩
theorem b_Mo_likeness_0 {Λ : QLay} {G : Nat → List (Nat × Value) → List Value → QMem → Prop} {Q : Int → QMem → Prop} (hG : QAct c_Mo_likeness "TreeDifferModel" 4 { frames := 8, cells := 0, slots := 0, locals := 180 } Λ G) (hR : RtI c_Mo_likeness G Q) (v0 : Nat) (v1 : Int) (v2 : Int) (S : QMem) (o0 : qob Λ 10 v0) (h : w_Mo_likeness Λ v0 v1 v2 S Q) : G 0 [(0, .ref v0), (1, vI v1), (2, vI v2)] [] S := by
  have hΛ := hG.lay
  unfold w_Mo_likeness at h
  refine pw_aload_n (pc := 0) hG d_Mo_likeness_0 rfl ?_
  refine pw_iconst (pc := 1) hG d_Mo_likeness_1 ?_
  refine pw_iload_n (pc := 2) hG d_Mo_likeness_2 rfl ?_
  refine pw_calli (pc := 3) hG (fun l Δ => ct_Mo_isNode l Δ hΛ o0 h) o0 rfl (by decide) m_997 k_Mo_isNode rfl ⟨by decide, by decide⟩ (Nat.le_of_ble_eq_true rfl) d_Mo_likeness_3 rfl (fun r3 S3 h => ?_)
  obtain ⟨hrx6, ha6, hb6⟩ := h
  refine pw_if_eq (tgt := 18) (pc := 6) hG d_Mo_likeness_6 (by decide) hrx6 (fun hc6 => ?_) (fun hc6 => ?_)
  · replace h := ha6 hc6
    refine pw_bipush (pc := 18) hG d_Mo_likeness_18 (by decide) ?_
    exact hR 20 _ _ _ d_Mo_likeness_20 h
  · replace h := hb6 hc6
    refine pw_aload_n (pc := 9) hG d_Mo_likeness_9 rfl ?_
    refine pw_iconst (pc := 10) hG d_Mo_likeness_10 ?_
    refine pw_iload_n (pc := 11) hG d_Mo_likeness_11 rfl ?_
    refine pw_calli (pc := 12) hG (fun l Δ => ct_Mo_isNode l Δ hΛ o0 h) o0 rfl (by decide) m_997 k_Mo_isNode rfl ⟨by decide, by decide⟩ (Nat.le_of_ble_eq_true rfl) d_Mo_likeness_12 rfl (fun r12 S12 h => ?_)
    obtain ⟨hrx15, ha15, hb15⟩ := h
    refine pw_if_ne (tgt := 21) (pc := 15) hG d_Mo_likeness_15 (by decide) hrx15 (fun hc15 => ?_) (fun hc15 => ?_)
    · replace h := ha15 hc15
      refine pw_aload_n (pc := 21) hG d_Mo_likeness_21 rfl ?_
      refine pw_callv (pc := 22) hG (fun l Δ => ct_Mo_finds l Δ hΛ o0 h) o0 rfl (by decide) m_1037 k_Mo_finds rfl ⟨by decide, by decide⟩ (Nat.le_of_ble_eq_true rfl) d_Mo_likeness_22 rfl (fun S22 h => ?_)
      refine pw_aload_n (pc := 25) hG d_Mo_likeness_25 rfl ?_
      refine pw_iload_n (pc := 26) hG d_Mo_likeness_26 rfl ?_
      refine pw_iload_n (pc := 27) hG d_Mo_likeness_27 rfl ?_
      refine pw_calli (pc := 28) hG (fun l Δ => ct_Mo_both l Δ hΛ o0 h) o0 rfl (by decide) m_1081 k_Mo_both rfl ⟨by decide, by decide⟩ (Nat.le_of_ble_eq_true rfl) d_Mo_likeness_28 rfl (fun r28 S28 h => ?_)
      refine pw_ist_n (pc := 31) hG d_Mo_likeness_31 (by decide) rfl ?_
      refine pw_iload_n (pc := 32) hG d_Mo_likeness_32 rfl ?_
      obtain ⟨hrx33, ha33, hb33⟩ := h
      refine pw_if_ne (tgt := 40) (pc := 33) hG d_Mo_likeness_33 (by decide) hrx33 (fun hc33 => ?_) (fun hc33 => ?_)
      · replace h := ha33 hc33
        refine pw_sipush (pc := 40) hG d_Mo_likeness_40 (by decide) ?_
        refine pw_aload_n (pc := 43) hG d_Mo_likeness_43 rfl ?_
        refine pw_iload_n (pc := 44) hG d_Mo_likeness_44 rfl ?_
        refine pw_iload_n (pc := 45) hG d_Mo_likeness_45 rfl ?_
        refine pw_calli (pc := 46) hG (fun l Δ => ct_Mo_common l Δ hΛ o0 h) o0 rfl (by decide) m_1073 k_Mo_common rfl ⟨by decide, by decide⟩ (Nat.le_of_ble_eq_true rfl) d_Mo_likeness_46 rfl (fun r46 S46 h => ?_)
        refine pw_imul (pc := 49) hG d_Mo_likeness_49 ?_
        refine pw_iload_n (pc := 50) hG d_Mo_likeness_50 rfl ?_
        obtain ⟨hx51, hy51, h⟩ := h
        refine pw_idiv (pc := 51) hG d_Mo_likeness_51 hx51 hy51 ?_
        exact hR 52 _ _ _ d_Mo_likeness_52 h
      · replace h := hb33 hc33
        refine pw_iconst (pc := 36) hG d_Mo_likeness_36 ?_
        refine pw_goto (tgt := 52) (pc := 37) hG d_Mo_likeness_37 (by decide) ?_
        exact hR 52 _ _ _ d_Mo_likeness_52 h
    · replace h := hb15 hc15
      refine pw_bipush (pc := 18) hG d_Mo_likeness_18 (by decide) ?_
      exact hR 20 _ _ _ d_Mo_likeness_20 h
theorem ct_Mo_likeness (l : Launch) (Δ : QDl) {Λ : QLay} (hΛ : LayOk Λ) {v0 : Nat} {v1 : Int} {v2 : Int} {S : QMem} {Q : Int → QMem → Prop} (o0 : qob Λ 10 v0) (h : w_Mo_likeness Λ v0 v1 v2 S Q) : QCt l y_Mo_likeness c_Mo_likeness 4 (some .int) 8 180 Δ Λ [.ref v0, vI v1, vI v2] S (qI Q) :=
  QCt.mk (own := "TreeDifferModel") hΛ (by decide) rfl rfl (Nat.le_of_ble_eq_true rfl) (fun G hG ri rz rv rj ra => b_Mo_likeness_0 hG (fun pc lv x S d hq => ri pc lv x S rfl d ⟨x, rfl, hq⟩) v0 v1 v2 S o0 h)
theorem k_Mo_steps : QVf y_Mo_steps c_Mo_steps 1 (some .int) "TreeDifferModel" 0 := ⟨m_1160, m_1161, m_11, m_1162, by decide +kernel⟩
theorem b_Mo_steps_0 {Λ : QLay} {G : Nat → List (Nat × Value) → List Value → QMem → Prop} {Q : Int → QMem → Prop} (hG : QAct c_Mo_steps "TreeDifferModel" 1 { frames := 8, cells := 0, slots := 0, locals := 180 } Λ G) (hR : RtI c_Mo_steps G Q) (v0 : Nat) (S : QMem) (o0 : qob Λ 10 v0) (h : w_Mo_steps Λ v0 S Q) : G 0 [(0, .ref v0)] [] S := by
  have hΛ := hG.lay
  unfold w_Mo_steps at h
  refine pw_aload_n (pc := 0) hG d_Mo_steps_0 rfl ?_
  refine pw_callv (pc := 1) hG (fun l Δ => ct_Mo_finds l Δ hΛ o0 h) o0 rfl (by decide) m_1037 k_Mo_finds rfl ⟨by decide, by decide⟩ (Nat.le_of_ble_eq_true rfl) d_Mo_steps_1 rfl (fun S1 h => ?_)
  refine pw_aload_n (pc := 4) hG d_Mo_steps_4 rfl ?_
  refine g10_31 (pc := 5) hG m_833 d_Mo_steps_5 o0 ?_
  exact hR 8 _ _ _ d_Mo_steps_8 h
theorem ct_Mo_steps (l : Launch) (Δ : QDl) {Λ : QLay} (hΛ : LayOk Λ) {v0 : Nat} {S : QMem} {Q : Int → QMem → Prop} (o0 : qob Λ 10 v0) (h : w_Mo_steps Λ v0 S Q) : QCt l y_Mo_steps c_Mo_steps 1 (some .int) 8 180 Δ Λ [.ref v0] S (qI Q) :=
  QCt.mk (own := "TreeDifferModel") hΛ (by decide) rfl rfl (Nat.le_of_ble_eq_true rfl) (fun G hG ri rz rv rj ra => b_Mo_steps_0 hG (fun pc lv x S d hq => ri pc lv x S rfl d ⟨x, rfl, hq⟩) v0 S o0 h)
theorem k_Mo_step : QVf y_Mo_step c_Mo_step 3 (some .int) "TreeDifferModel" 2 := ⟨m_1164, m_1165, m_11, m_1166, by decide +kernel⟩
theorem b_Mo_step_0 {Λ : QLay} {G : Nat → List (Nat × Value) → List Value → QMem → Prop} {Q : Int → QMem → Prop} (hG : QAct c_Mo_step "TreeDifferModel" 3 { frames := 8, cells := 0, slots := 0, locals := 180 } Λ G) (hR : RtI c_Mo_step G Q) (v0 : Nat) (v1 : Int) (v2 : Int) (S : QMem) (o0 : qob Λ 10 v0) (h : w_Mo_step Λ v0 v1 v2 S Q) : G 0 [(0, .ref v0), (1, vI v1), (2, vI v2)] [] S := by
  have hΛ := hG.lay
  unfold w_Mo_step at h
  refine pw_aload_n (pc := 0) hG d_Mo_step_0 rfl ?_
  refine pw_callv (pc := 1) hG (fun l Δ => ct_Mo_finds l Δ hΛ o0 h) o0 rfl (by decide) m_1037 k_Mo_finds rfl ⟨by decide, by decide⟩ (Nat.le_of_ble_eq_true rfl) d_Mo_step_1 rfl (fun S1 h => ?_)
  refine pw_iload_n (pc := 4) hG d_Mo_step_4 rfl ?_
  refine pw_iconst (pc := 5) hG d_Mo_step_5 ?_
  refine pw_aload_n (pc := 6) hG d_Mo_step_6 rfl ?_
  refine g10_31 (pc := 7) hG m_833 d_Mo_step_7 o0 ?_
  refine pw_iconst (pc := 10) hG d_Mo_step_10 ?_
  refine pw_isub (pc := 11) hG d_Mo_step_11 ?_
  refine pw_scalli (pc := 12) hG (fun l Δ => ct_Mo_in l Δ hΛ  h) m_942 k_Mo_in rfl ⟨by decide, by decide⟩ (Nat.le_of_ble_eq_true rfl) d_Mo_step_12 rfl (fun r12 S12 h => ?_)
  obtain ⟨hrx15, ha15, hb15⟩ := h
  refine pw_if_ne (tgt := 21) (pc := 15) hG d_Mo_step_15 (by decide) hrx15 (fun hc15 => ?_) (fun hc15 => ?_)
  · replace h := ha15 hc15
    refine pw_iload_n (pc := 21) hG d_Mo_step_21 rfl ?_
    refine pw_iconst (pc := 22) hG d_Mo_step_22 ?_
    refine pw_iconst (pc := 23) hG d_Mo_step_23 ?_
    refine pw_scalli (pc := 24) hG (fun l Δ => ct_Mo_in l Δ hΛ  h) m_942 k_Mo_in rfl ⟨by decide, by decide⟩ (Nat.le_of_ble_eq_true rfl) d_Mo_step_24 rfl (fun r24 S24 h => ?_)
    obtain ⟨hrx27, ha27, hb27⟩ := h
    refine pw_if_eq (tgt := 44) (pc := 27) hG d_Mo_step_27 (by decide) hrx27 (fun hc27 => ?_) (fun hc27 => ?_)
    · replace h := ha27 hc27
      refine pw_bipush (pc := 44) hG d_Mo_step_44 (by decide) ?_
      exact hR 46 _ _ _ d_Mo_step_46 h
    · replace h := hb27 hc27
      refine pw_aload_n (pc := 30) hG d_Mo_step_30 rfl ?_
      refine g10_30 (pc := 31) hG m_832 d_Mo_step_31 o0 ?_
      refine pw_bipush (pc := 34) hG d_Mo_step_34 (by decide) ?_
      refine pw_iload_n (pc := 36) hG d_Mo_step_36 rfl ?_
      refine pw_imul (pc := 37) hG d_Mo_step_37 ?_
      refine pw_iload_n (pc := 38) hG d_Mo_step_38 rfl ?_
      refine pw_iadd (pc := 39) hG d_Mo_step_39 ?_
      obtain ⟨hi40, h⟩ := h
      refine pw_aI (pc := 40) hG (q_arr hΛ o0 rfl (by decide)) hi40 d_Mo_step_40 ?_
      refine pw_goto (tgt := 46) (pc := 41) hG d_Mo_step_41 (by decide) ?_
      exact hR 46 _ _ _ d_Mo_step_46 h
  · replace h := hb15 hc15
    refine pw_bipush (pc := 18) hG d_Mo_step_18 (by decide) ?_
    exact hR 20 _ _ _ d_Mo_step_20 h
theorem ct_Mo_step (l : Launch) (Δ : QDl) {Λ : QLay} (hΛ : LayOk Λ) {v0 : Nat} {v1 : Int} {v2 : Int} {S : QMem} {Q : Int → QMem → Prop} (o0 : qob Λ 10 v0) (h : w_Mo_step Λ v0 v1 v2 S Q) : QCt l y_Mo_step c_Mo_step 3 (some .int) 8 180 Δ Λ [.ref v0, vI v1, vI v2] S (qI Q) :=
  QCt.mk (own := "TreeDifferModel") hΛ (by decide) rfl rfl (Nat.le_of_ble_eq_true rfl) (fun G hG ri rz rv rj ra => b_Mo_step_0 hG (fun pc lv x S d hq => ri pc lv x S rfl d ⟨x, rfl, hq⟩) v0 v1 v2 S o0 h)
theorem k_Mo_count : QVf y_Mo_count c_Mo_count 4 (some .int) "TreeDifferModel" 1 := ⟨m_1168, m_1169, m_11, m_1170, by decide +kernel⟩
theorem b_Mo_count_20 {Λ : QLay} {G : Nat → List (Nat × Value) → List Value → QMem → Prop} {Q : Int → QMem → Prop} (hG : QAct c_Mo_count "TreeDifferModel" 4 { frames := 8, cells := 0, slots := 0, locals := 180 } Λ G) (hR : RtI c_Mo_count G Q) : ∀ (n : Nat) (v0 : Nat) (v1 : Int) (v2 : Int) (v3 : Int) (S : QMem), qob Λ 10 v0 → w_Mo_count_20 Λ Q n v0 v1 v2 v3 S → G 20 [(0, .ref v0), (1, vI v1), (2, vI v2), (3, vI v3)] [] S := by
  have hΛ := hG.lay
  intro n
  induction n with
  | zero => intro v0 v1 v2 v3 S o_v0 h; exact h.elim
  | succ n ih =>
    intro v0 v1 v2 v3 S o_v0 h
    rw [w_Mo_count_20] at h
    refine pw_iload_n (pc := 20) hG d_Mo_count_20 rfl ?_
    refine pw_aload_n (pc := 21) hG d_Mo_count_21 rfl ?_
    refine g10_31 (pc := 22) hG m_833 d_Mo_count_22 o_v0 ?_
    obtain ⟨hrx25, hry25, ha25, hb25⟩ := h
    refine pw_icmp_ge (tgt := 55) (pc := 25) hG d_Mo_count_25 (by decide) hrx25 hry25 (fun hc25 => ?_) (fun hc25 => ?_)
    · replace h := ha25 hc25
      refine pw_iload_n (pc := 55) hG d_Mo_count_55 rfl ?_
      exact hR 56 _ _ _ d_Mo_count_56 h
    · replace h := hb25 hc25
      refine pw_iload_n (pc := 28) hG d_Mo_count_28 rfl ?_
      refine pw_aload_n (pc := 29) hG d_Mo_count_29 rfl ?_
      refine g10_30 (pc := 30) hG m_832 d_Mo_count_30 o_v0 ?_
      refine pw_bipush (pc := 33) hG d_Mo_count_33 (by decide) ?_
      refine pw_iload_n (pc := 35) hG d_Mo_count_35 rfl ?_
      refine pw_imul (pc := 36) hG d_Mo_count_36 ?_
      obtain ⟨hi37, h⟩ := h
      refine pw_aI (pc := 37) hG (q_arr hΛ o_v0 rfl (by decide)) hi37 d_Mo_count_37 ?_
      refine pw_iload_n (pc := 38) hG d_Mo_count_38 rfl ?_
      obtain ⟨hrx39, hry39, ha39, hb39⟩ := h
      refine pw_icmp_ne (tgt := 46) (pc := 39) hG d_Mo_count_39 (by decide) hrx39 hry39 (fun hc39 => ?_) (fun hc39 => ?_)
      · replace h := ha39 hc39
        refine pw_iconst (pc := 46) hG d_Mo_count_46 ?_
        refine pw_iadd (pc := 47) hG d_Mo_count_47 ?_
        refine pw_istore_n (pc := 48) hG d_Mo_count_48 (by decide) (fun x48 ex48 => ⟨_, rfl, ?_⟩)
        replace h := h x48 ex48
        refine pw_iinc0 (pc := 49) hG d_Mo_count_49 rfl (by decide) rfl ?_
        refine pw_goto (tgt := 20) (pc := 52) hG d_Mo_count_52 (by decide) ?_
        exact pw_sub hG [0, 1, 2, 3] rfl (ih v0 v1 x48 (v3 + 1) S o_v0 h)
      · replace h := hb39 hc39
        refine pw_iconst (pc := 42) hG d_Mo_count_42 ?_
        refine pw_goto (tgt := 47) (pc := 43) hG d_Mo_count_43 (by decide) ?_
        refine pw_iadd (pc := 47) hG d_Mo_count_47 ?_
        refine pw_istore_n (pc := 48) hG d_Mo_count_48 (by decide) (fun x48 ex48 => ⟨_, rfl, ?_⟩)
        replace h := h x48 ex48
        refine pw_iinc0 (pc := 49) hG d_Mo_count_49 rfl (by decide) rfl ?_
        refine pw_goto (tgt := 20) (pc := 52) hG d_Mo_count_52 (by decide) ?_
        exact pw_sub hG [0, 1, 2, 3] rfl (ih v0 v1 x48 (v3 + 1) S o_v0 h)
theorem b_Mo_count_0 {Λ : QLay} {G : Nat → List (Nat × Value) → List Value → QMem → Prop} {Q : Int → QMem → Prop} (hG : QAct c_Mo_count "TreeDifferModel" 4 { frames := 8, cells := 0, slots := 0, locals := 180 } Λ G) (hR : RtI c_Mo_count G Q) (v0 : Nat) (v1 : Int) (S : QMem) (o0 : qob Λ 10 v0) (h : w_Mo_count Λ v0 v1 S Q) : G 0 [(0, .ref v0), (1, vI v1)] [] S := by
  have hΛ := hG.lay
  unfold w_Mo_count at h
  refine pw_iload_n (pc := 0) hG d_Mo_count_0 rfl ?_
  refine pw_iconst (pc := 1) hG d_Mo_count_1 ?_
  refine pw_iconst (pc := 2) hG d_Mo_count_2 ?_
  refine pw_scalli (pc := 3) hG (fun l Δ => ct_Mo_in l Δ hΛ  h) m_942 k_Mo_in rfl ⟨by decide, by decide⟩ (Nat.le_of_ble_eq_true rfl) d_Mo_count_3 rfl (fun r3 S3 h => ?_)
  obtain ⟨hrx6, ha6, hb6⟩ := h
  refine pw_if_ne (tgt := 12) (pc := 6) hG d_Mo_count_6 (by decide) hrx6 (fun hc6 => ?_) (fun hc6 => ?_)
  · replace h := ha6 hc6
    refine pw_aload_n (pc := 12) hG d_Mo_count_12 rfl ?_
    refine pw_callv (pc := 13) hG (fun l Δ => ct_Mo_finds l Δ hΛ o0 h) o0 rfl (by decide) m_1037 k_Mo_finds rfl ⟨by decide, by decide⟩ (Nat.le_of_ble_eq_true rfl) d_Mo_count_13 rfl (fun S13 h => ?_)
    refine pw_iconst (pc := 16) hG d_Mo_count_16 ?_
    refine pw_ist_n (pc := 17) hG d_Mo_count_17 (by decide) rfl ?_
    refine pw_iconst (pc := 18) hG d_Mo_count_18 ?_
    refine pw_ist_n (pc := 19) hG d_Mo_count_19 (by decide) rfl ?_
    obtain ⟨n19, h⟩ := h
    exact pw_sub hG [0, 1, 2, 3] rfl (b_Mo_count_20 hG hR n19 v0 v1 0 0 S13 o0 h)
  · replace h := hb6 hc6
    refine pw_bipush (pc := 9) hG d_Mo_count_9 (by decide) ?_
    exact hR 11 _ _ _ d_Mo_count_11 h
theorem ct_Mo_count (l : Launch) (Δ : QDl) {Λ : QLay} (hΛ : LayOk Λ) {v0 : Nat} {v1 : Int} {S : QMem} {Q : Int → QMem → Prop} (o0 : qob Λ 10 v0) (h : w_Mo_count Λ v0 v1 S Q) : QCt l y_Mo_count c_Mo_count 4 (some .int) 8 180 Δ Λ [.ref v0, vI v1] S (qI Q) :=
  QCt.mk (own := "TreeDifferModel") hΛ (by decide) rfl rfl (Nat.le_of_ble_eq_true rfl) (fun G hG ri rz rv rj ra => b_Mo_count_0 hG (fun pc lv x S d hq => ri pc lv x S rfl d ⟨x, rfl, hq⟩) v0 v1 S o0 h)
theorem k_Mo_findLefts : QVf y_Mo_findLefts c_Mo_findLefts 3 none "TreeDifferModel" 1 := ⟨m_1177, m_p76, m_11, m_1178, by decide +kernel⟩
theorem b_Mo_findLefts_7 {Λ : QLay} {G : Nat → List (Nat × Value) → List Value → QMem → Prop} {Q : QMem → Prop} (hG : QAct c_Mo_findLefts "TreeDifferModel" 3 { frames := 2, cells := 0, slots := 0, locals := 44 } Λ G) (hR : RtV c_Mo_findLefts G Q) : ∀ (n : Nat) (v0 : Nat) (v1 : Int) (v2 : Int) (S : QMem), qob Λ 10 v0 → w_Mo_findLefts_7 Λ Q n v0 v1 v2 S → G 7 [(0, .ref v0), (1, vI v1), (2, vI v2)] [] S := by
  have hΛ := hG.lay
  intro n
  induction n with
  | zero => intro v0 v1 v2 S o_v0 h; exact h.elim
  | succ n ih =>
    intro v0 v1 v2 S o_v0 h
    rw [w_Mo_findLefts_7] at h
    refine pw_iload_n (pc := 7) hG d_Mo_findLefts_7 rfl ?_
    refine pw_aload_n (pc := 8) hG d_Mo_findLefts_8 rfl ?_
    refine g10_0 (pc := 9) hG m_802 d_Mo_findLefts_9 o_v0 ?_
    refine pw_iload_n (pc := 12) hG d_Mo_findLefts_12 rfl ?_
    obtain ⟨hi13, h⟩ := h
    refine pw_aI (pc := 13) hG (q_arr hΛ o_v0 rfl (by decide)) hi13 d_Mo_findLefts_13 ?_
    obtain ⟨hrx14, hry14, ha14, hb14⟩ := h
    refine pw_icmp_ge (tgt := 64) (pc := 14) hG d_Mo_findLefts_14 (by decide) hrx14 hry14 (fun hc14 => ?_) (fun hc14 => ?_)
    · replace h := ha14 hc14
      exact hR 64 _ _ d_Mo_findLefts_64 h
    · replace h := hb14 hc14
      refine pw_aload_n (pc := 17) hG d_Mo_findLefts_17 rfl ?_
      refine g10_37 (pc := 18) hG m_839 d_Mo_findLefts_18 o_v0 ?_
      refine pw_iload_n (pc := 21) hG d_Mo_findLefts_21 rfl ?_
      refine pw_iload_n (pc := 22) hG d_Mo_findLefts_22 rfl ?_
      refine pw_scalli (pc := 23) hG (fun l Δ => ct_Mo_at l Δ hΛ  h) m_791 k_Mo_at rfl ⟨by decide, by decide⟩ (Nat.le_of_ble_eq_true rfl) d_Mo_findLefts_23 rfl (fun r23 S23 h => ?_)
      refine pw_aload_n (pc := 26) hG d_Mo_findLefts_26 rfl ?_
      refine g10_24 (pc := 27) hG m_826 d_Mo_findLefts_27 o_v0 ?_
      refine pw_iload_n (pc := 30) hG d_Mo_findLefts_30 rfl ?_
      obtain ⟨hi31, h⟩ := h
      refine pw_aI (pc := 31) hG (q_arr hΛ o_v0 rfl (by decide)) hi31 d_Mo_findLefts_31 ?_
      obtain ⟨hi32, h⟩ := h
      refine pw_sI (pc := 32) hG (q_arr hΛ o_v0 rfl (by decide)) hi32 d_Mo_findLefts_32 (fun S32 eS32 => ?_)
      replace h := h S32 eS32
      refine pw_aload_n (pc := 33) hG d_Mo_findLefts_33 rfl ?_
      refine g10_38 (pc := 34) hG m_840 d_Mo_findLefts_34 o_v0 ?_
      refine pw_iload_n (pc := 37) hG d_Mo_findLefts_37 rfl ?_
      refine pw_iload_n (pc := 38) hG d_Mo_findLefts_38 rfl ?_
      refine pw_scalli (pc := 39) hG (fun l Δ => ct_Mo_at l Δ hΛ  h) m_791 k_Mo_at rfl ⟨by decide, by decide⟩ (Nat.le_of_ble_eq_true rfl) d_Mo_findLefts_39 rfl (fun r39 S39 h => ?_)
      refine pw_iload_n (pc := 42) hG d_Mo_findLefts_42 rfl ?_
      refine pw_iconst (pc := 43) hG d_Mo_findLefts_43 ?_
      refine pw_iadd (pc := 44) hG d_Mo_findLefts_44 ?_
      refine pw_aload_n (pc := 45) hG d_Mo_findLefts_45 rfl ?_
      refine pw_iload_n (pc := 46) hG d_Mo_findLefts_46 rfl ?_
      refine pw_aload_n (pc := 47) hG d_Mo_findLefts_47 rfl ?_
      refine g10_24 (pc := 48) hG m_826 d_Mo_findLefts_48 o_v0 ?_
      refine pw_iload_n (pc := 51) hG d_Mo_findLefts_51 rfl ?_
      obtain ⟨hi52, h⟩ := h
      refine pw_aI (pc := 52) hG (q_arr hΛ o_v0 rfl (by decide)) hi52 d_Mo_findLefts_52 ?_
      refine pw_calli (pc := 53) hG (fun l Δ => ct_Mo_size l Δ hΛ o_v0 h) o_v0 rfl (by decide) m_1009 k_Mo_size rfl ⟨by decide, by decide⟩ (Nat.le_of_ble_eq_true rfl) d_Mo_findLefts_53 rfl (fun r53 S53 h => ?_)
      refine pw_isub (pc := 56) hG d_Mo_findLefts_56 ?_
      obtain ⟨hi57, h⟩ := h
      refine pw_sI (pc := 57) hG (q_arr hΛ o_v0 rfl (by decide)) hi57 d_Mo_findLefts_57 (fun S57 eS57 => ?_)
      replace h := h S57 eS57
      refine pw_iinc0 (pc := 58) hG d_Mo_findLefts_58 rfl (by decide) rfl ?_
      refine pw_goto (tgt := 7) (pc := 61) hG d_Mo_findLefts_61 (by decide) ?_
      exact pw_sub hG [0, 1, 2] rfl (ih v0 v1 (v2 + 1) S57 o_v0 h)
theorem b_Mo_findLefts_0 {Λ : QLay} {G : Nat → List (Nat × Value) → List Value → QMem → Prop} {Q : QMem → Prop} (hG : QAct c_Mo_findLefts "TreeDifferModel" 3 { frames := 2, cells := 0, slots := 0, locals := 44 } Λ G) (hR : RtV c_Mo_findLefts G Q) (v0 : Nat) (v1 : Int) (S : QMem) (o0 : qob Λ 10 v0) (h : w_Mo_findLefts Λ v0 v1 S Q) : G 0 [(0, .ref v0), (1, vI v1)] [] S := by
  have hΛ := hG.lay
  unfold w_Mo_findLefts at h
  refine pw_aload_n (pc := 0) hG d_Mo_findLefts_0 rfl ?_
  refine pw_iload_n (pc := 1) hG d_Mo_findLefts_1 rfl ?_
  refine pw_callv (pc := 2) hG (fun l Δ => ct_Mo_findPost l Δ hΛ o0 h) o0 rfl (by decide) m_1065 k_Mo_findPost rfl ⟨by decide, by decide⟩ (Nat.le_of_ble_eq_true rfl) d_Mo_findLefts_2 rfl (fun S2 h => ?_)
  refine pw_iconst (pc := 5) hG d_Mo_findLefts_5 ?_
  refine pw_ist_n (pc := 6) hG d_Mo_findLefts_6 (by decide) rfl ?_
  obtain ⟨n6, h⟩ := h
  exact pw_sub hG [0, 1, 2] rfl (b_Mo_findLefts_7 hG hR n6 v0 v1 0 S2 o0 h)
theorem ct_Mo_findLefts (l : Launch) (Δ : QDl) {Λ : QLay} (hΛ : LayOk Λ) {v0 : Nat} {v1 : Int} {S : QMem} {Q : QMem → Prop} (o0 : qob Λ 10 v0) (h : w_Mo_findLefts Λ v0 v1 S Q) : QCt l y_Mo_findLefts c_Mo_findLefts 3 none 2 44 Δ Λ [.ref v0, vI v1] S (qV Q) :=
  QCt.mk (own := "TreeDifferModel") hΛ (by decide) rfl rfl (Nat.le_of_ble_eq_true rfl) (fun G hG ri rz rv rj ra => b_Mo_findLefts_0 hG (fun pc lv S d hq => rv pc lv S rfl d ⟨rfl, hq⟩) v0 v1 S o0 h)
theorem k_Mo_least : QSf y_Mo_least c_Mo_least 2 (some .int) "TreeDifferModel" 2 := ⟨m_1188, m_11, m_1189, by decide +kernel⟩
theorem b_Mo_least_0 {Λ : QLay} {G : Nat → List (Nat × Value) → List Value → QMem → Prop} {Q : Int → QMem → Prop} (hG : QAct c_Mo_least "TreeDifferModel" 2 { frames := 0, cells := 0, slots := 0, locals := 0 } Λ G) (hR : RtI c_Mo_least G Q) (v0 : Int) (v1 : Int) (S : QMem) (h : w_Mo_least Λ v0 v1 S Q) : G 0 [(0, vI v0), (1, vI v1)] [] S := by
  have hΛ := hG.lay
  unfold w_Mo_least at h
  refine pw_iload_n (pc := 0) hG d_Mo_least_0 rfl ?_
  refine pw_iload_n (pc := 1) hG d_Mo_least_1 rfl ?_
  obtain ⟨hrx2, hry2, ha2, hb2⟩ := h
  refine pw_icmp_ge (tgt := 9) (pc := 2) hG d_Mo_least_2 (by decide) hrx2 hry2 (fun hc2 => ?_) (fun hc2 => ?_)
  · replace h := ha2 hc2
    refine pw_iload_n (pc := 9) hG d_Mo_least_9 rfl ?_
    exact hR 10 _ _ _ d_Mo_least_10 h
  · replace h := hb2 hc2
    refine pw_iload_n (pc := 5) hG d_Mo_least_5 rfl ?_
    refine pw_goto (tgt := 10) (pc := 6) hG d_Mo_least_6 (by decide) ?_
    exact hR 10 _ _ _ d_Mo_least_10 h
theorem ct_Mo_least (l : Launch) (Δ : QDl) {Λ : QLay} (hΛ : LayOk Λ) {v0 : Int} {v1 : Int} {S : QMem} {Q : Int → QMem → Prop} (h : w_Mo_least Λ v0 v1 S Q) : QCt l y_Mo_least c_Mo_least 2 (some .int) 0 0 Δ Λ [vI v0, vI v1] S (qI Q) :=
  QCt.mk (own := "TreeDifferModel") hΛ (by decide) rfl rfl (Nat.le_of_ble_eq_true rfl) (fun G hG ri rz rv rj ra => b_Mo_least_0 hG (fun pc lv x S d hq => ri pc lv x S rfl d ⟨x, rfl, hq⟩) v0 v1 S  h)
theorem k_Mo_isKey : QVf y_Mo_isKey c_Mo_isKey 5 (some .boolean) "TreeDifferModel" 2 := ⟨m_1181, m_p77, m_11, m_1182, by decide +kernel⟩
theorem b_Mo_isKey_7 {Λ : QLay} {G : Nat → List (Nat × Value) → List Value → QMem → Prop} {Q : Int → QMem → Prop} (hG : QAct c_Mo_isKey "TreeDifferModel" 5 { frames := 1, cells := 0, slots := 0, locals := 21 } Λ G) (hR : RtZ c_Mo_isKey G Q) : ∀ (n : Nat) (v0 : Nat) (v1 : Int) (v2 : Int) (v3 : Int) (v4 : Int) (S : QMem), qob Λ 10 v0 → w_Mo_isKey_7 Λ Q n v0 v1 v2 v3 v4 S → G 7 [(0, .ref v0), (1, vI v1), (2, vI v2), (3, vI v3), (4, vI v4)] [] S := by
  have hΛ := hG.lay
  intro n
  induction n with
  | zero => intro v0 v1 v2 v3 v4 S o_v0 h; exact h.elim
  | succ n ih =>
    intro v0 v1 v2 v3 v4 S o_v0 h
    rw [w_Mo_isKey_7] at h
    refine pw_iload (pc := 7) hG d_Mo_isKey_7 rfl ?_
    refine pw_aload_n (pc := 9) hG d_Mo_isKey_9 rfl ?_
    refine g10_0 (pc := 10) hG m_802 d_Mo_isKey_10 o_v0 ?_
    refine pw_iload_n (pc := 13) hG d_Mo_isKey_13 rfl ?_
    obtain ⟨hi14, h⟩ := h
    refine pw_aI (pc := 14) hG (q_arr hΛ o_v0 rfl (by decide)) hi14 d_Mo_isKey_14 ?_
    obtain ⟨hrx15, hry15, ha15, hb15⟩ := h
    refine pw_icmp_ge (tgt := 58) (pc := 15) hG d_Mo_isKey_15 (by decide) hrx15 hry15 (fun hc15 => ?_) (fun hc15 => ?_)
    · replace h := ha15 hc15
      refine pw_iload_n (pc := 58) hG d_Mo_isKey_58 rfl ?_
      obtain ⟨hb59, h⟩ := h
      exact hR 59 _ _ _ d_Mo_isKey_59 hb59 h
    · replace h := hb15 hc15
      refine pw_iload_n (pc := 18) hG d_Mo_isKey_18 rfl ?_
      obtain ⟨hrx19, ha19, hb19⟩ := h
      refine pw_if_eq (tgt := 50) (pc := 19) hG d_Mo_isKey_19 (by decide) hrx19 (fun hc19 => ?_) (fun hc19 => ?_)
      · replace h := ha19 hc19
        refine pw_iconst (pc := 50) hG d_Mo_isKey_50 ?_
        refine pw_ist_n (pc := 51) hG d_Mo_isKey_51 (by decide) rfl ?_
        refine pw_iinc0 (pc := 52) hG d_Mo_isKey_52 rfl (by decide) rfl ?_
        refine pw_goto (tgt := 7) (pc := 55) hG d_Mo_isKey_55 (by decide) ?_
        exact pw_sub hG [0, 1, 2, 3, 4] rfl (ih v0 v1 v2 0 (v4 + 1) S o_v0 h)
      · replace h := hb19 hc19
        refine pw_aload_n (pc := 22) hG d_Mo_isKey_22 rfl ?_
        refine g10_38 (pc := 23) hG m_840 d_Mo_isKey_23 o_v0 ?_
        refine pw_iload_n (pc := 26) hG d_Mo_isKey_26 rfl ?_
        refine pw_iload (pc := 27) hG d_Mo_isKey_27 rfl ?_
        refine pw_scalli (pc := 29) hG (fun l Δ => ct_Mo_at l Δ hΛ  h) m_791 k_Mo_at rfl ⟨by decide, by decide⟩ (Nat.le_of_ble_eq_true rfl) d_Mo_isKey_29 rfl (fun r29 S29 h => ?_)
        obtain ⟨hi32, h⟩ := h
        refine pw_aI (pc := 32) hG (q_arr hΛ o_v0 rfl (by decide)) hi32 d_Mo_isKey_32 ?_
        refine pw_aload_n (pc := 33) hG d_Mo_isKey_33 rfl ?_
        refine g10_38 (pc := 34) hG m_840 d_Mo_isKey_34 o_v0 ?_
        refine pw_iload_n (pc := 37) hG d_Mo_isKey_37 rfl ?_
        refine pw_iload_n (pc := 38) hG d_Mo_isKey_38 rfl ?_
        refine pw_scalli (pc := 39) hG (fun l Δ => ct_Mo_at l Δ hΛ  h) m_791 k_Mo_at rfl ⟨by decide, by decide⟩ (Nat.le_of_ble_eq_true rfl) d_Mo_isKey_39 rfl (fun r39 S39 h => ?_)
        obtain ⟨hi42, h⟩ := h
        refine pw_aI (pc := 42) hG (q_arr hΛ o_v0 rfl (by decide)) hi42 d_Mo_isKey_42 ?_
        obtain ⟨hrx43, hry43, ha43, hb43⟩ := h
        refine pw_icmp_eq (tgt := 50) (pc := 43) hG d_Mo_isKey_43 (by decide) hrx43 hry43 (fun hc43 => ?_) (fun hc43 => ?_)
        · replace h := ha43 hc43
          refine pw_iconst (pc := 50) hG d_Mo_isKey_50 ?_
          refine pw_ist_n (pc := 51) hG d_Mo_isKey_51 (by decide) rfl ?_
          refine pw_iinc0 (pc := 52) hG d_Mo_isKey_52 rfl (by decide) rfl ?_
          refine pw_goto (tgt := 7) (pc := 55) hG d_Mo_isKey_55 (by decide) ?_
          exact pw_sub hG [0, 1, 2, 3, 4] rfl (ih v0 v1 v2 0 (v4 + 1) S39 o_v0 h)
        · replace h := hb43 hc43
          refine pw_iconst (pc := 46) hG d_Mo_isKey_46 ?_
          refine pw_goto (tgt := 51) (pc := 47) hG d_Mo_isKey_47 (by decide) ?_
          refine pw_ist_n (pc := 51) hG d_Mo_isKey_51 (by decide) rfl ?_
          refine pw_iinc0 (pc := 52) hG d_Mo_isKey_52 rfl (by decide) rfl ?_
          refine pw_goto (tgt := 7) (pc := 55) hG d_Mo_isKey_55 (by decide) ?_
          exact pw_sub hG [0, 1, 2, 3, 4] rfl (ih v0 v1 v2 1 (v4 + 1) S39 o_v0 h)
theorem b_Mo_isKey_0 {Λ : QLay} {G : Nat → List (Nat × Value) → List Value → QMem → Prop} {Q : Int → QMem → Prop} (hG : QAct c_Mo_isKey "TreeDifferModel" 5 { frames := 1, cells := 0, slots := 0, locals := 21 } Λ G) (hR : RtZ c_Mo_isKey G Q) (v0 : Nat) (v1 : Int) (v2 : Int) (S : QMem) (o0 : qob Λ 10 v0) (h : w_Mo_isKey Λ v0 v1 v2 S Q) : G 0 [(0, .ref v0), (1, vI v1), (2, vI v2)] [] S := by
  have hΛ := hG.lay
  unfold w_Mo_isKey at h
  refine pw_iconst (pc := 0) hG d_Mo_isKey_0 ?_
  refine pw_ist_n (pc := 1) hG d_Mo_isKey_1 (by decide) rfl ?_
  refine pw_iload_n (pc := 2) hG d_Mo_isKey_2 rfl ?_
  refine pw_iconst (pc := 3) hG d_Mo_isKey_3 ?_
  refine pw_iadd (pc := 4) hG d_Mo_isKey_4 ?_
  refine pw_istore (pc := 5) hG d_Mo_isKey_5 (by decide) (fun x5 ex5 => ⟨_, rfl, ?_⟩)
  replace h := h x5 ex5
  obtain ⟨n5, h⟩ := h
  exact pw_sub hG [0, 1, 2, 3, 4] rfl (b_Mo_isKey_7 hG hR n5 v0 v1 v2 1 x5 S o0 h)
theorem ct_Mo_isKey (l : Launch) (Δ : QDl) {Λ : QLay} (hΛ : LayOk Λ) {v0 : Nat} {v1 : Int} {v2 : Int} {S : QMem} {Q : Int → QMem → Prop} (o0 : qob Λ 10 v0) (h : w_Mo_isKey Λ v0 v1 v2 S Q) : QCt l y_Mo_isKey c_Mo_isKey 5 (some .boolean) 1 21 Δ Λ [.ref v0, vI v1, vI v2] S (qI Q) :=
  QCt.mk (own := "TreeDifferModel") hΛ (by decide) rfl rfl (Nat.le_of_ble_eq_true rfl) (fun G hG ri rz rv rj ra => b_Mo_isKey_0 hG (fun pc lv x S d hb hq => rz pc lv x S rfl d hb ⟨x, rfl, hq⟩) v0 v1 v2 S o0 h)
theorem k_Mo_renaming : QVf y_Mo_renaming c_Mo_renaming 5 (some .int) "TreeDifferModel" 2 := ⟨m_1192, m_p79, m_11, m_1193, by decide +kernel⟩
theorem b_Mo_renaming_0 {Λ : QLay} {G : Nat → List (Nat × Value) → List Value → QMem → Prop} {Q : Int → QMem → Prop} (hG : QAct c_Mo_renaming "TreeDifferModel" 5 { frames := 1, cells := 0, slots := 0, locals := 21 } Λ G) (hR : RtI c_Mo_renaming G Q) (v0 : Nat) (v1 : Int) (v2 : Int) (S : QMem) (o0 : qob Λ 10 v0) (h : w_Mo_renaming Λ v0 v1 v2 S Q) : G 0 [(0, .ref v0), (1, vI v1), (2, vI v2)] [] S := by
  have hΛ := hG.lay
  unfold w_Mo_renaming at h
  refine pw_iconst (pc := 0) hG d_Mo_renaming_0 ?_
  refine pw_aload_n (pc := 1) hG d_Mo_renaming_1 rfl ?_
  refine g10_37 (pc := 2) hG m_839 d_Mo_renaming_2 o0 ?_
  refine pw_iconst (pc := 5) hG d_Mo_renaming_5 ?_
  refine pw_iload_n (pc := 6) hG d_Mo_renaming_6 rfl ?_
  refine pw_scalli (pc := 7) hG (fun l Δ => ct_Mo_at l Δ hΛ  h) m_791 k_Mo_at rfl ⟨by decide, by decide⟩ (Nat.le_of_ble_eq_true rfl) d_Mo_renaming_7 rfl (fun r7 S7 h => ?_)
  obtain ⟨hi10, h⟩ := h
  refine pw_aI (pc := 10) hG (q_arr hΛ o0 rfl (by decide)) hi10 d_Mo_renaming_10 ?_
  refine pw_scalli (pc := 11) hG (fun l Δ => ct_Mo_at l Δ hΛ  h) m_791 k_Mo_at rfl ⟨by decide, by decide⟩ (Nat.le_of_ble_eq_true rfl) d_Mo_renaming_11 rfl (fun r11 S11 h => ?_)
  refine pw_ist_n (pc := 14) hG d_Mo_renaming_14 (by decide) rfl ?_
  refine pw_iconst (pc := 15) hG d_Mo_renaming_15 ?_
  refine pw_aload_n (pc := 16) hG d_Mo_renaming_16 rfl ?_
  refine g10_37 (pc := 17) hG m_839 d_Mo_renaming_17 o0 ?_
  refine pw_iconst (pc := 20) hG d_Mo_renaming_20 ?_
  refine pw_iload_n (pc := 21) hG d_Mo_renaming_21 rfl ?_
  refine pw_scalli (pc := 22) hG (fun l Δ => ct_Mo_at l Δ hΛ  h) m_791 k_Mo_at rfl ⟨by decide, by decide⟩ (Nat.le_of_ble_eq_true rfl) d_Mo_renaming_22 rfl (fun r22 S22 h => ?_)
  obtain ⟨hi25, h⟩ := h
  refine pw_aI (pc := 25) hG (q_arr hΛ o0 rfl (by decide)) hi25 d_Mo_renaming_25 ?_
  refine pw_scalli (pc := 26) hG (fun l Δ => ct_Mo_at l Δ hΛ  h) m_791 k_Mo_at rfl ⟨by decide, by decide⟩ (Nat.le_of_ble_eq_true rfl) d_Mo_renaming_26 rfl (fun r26 S26 h => ?_)
  refine pw_ist (pc := 29) hG d_Mo_renaming_29 (by decide) rfl ?_
  refine pw_aload_n (pc := 31) hG d_Mo_renaming_31 rfl ?_
  refine g10_1 (pc := 32) hG m_803 d_Mo_renaming_32 o0 ?_
  refine pw_iload_n (pc := 35) hG d_Mo_renaming_35 rfl ?_
  obtain ⟨hi36, h⟩ := h
  refine pw_aI (pc := 36) hG (q_arr hΛ o0 rfl (by decide)) hi36 d_Mo_renaming_36 ?_
  refine pw_aload_n (pc := 37) hG d_Mo_renaming_37 rfl ?_
  refine g10_1 (pc := 38) hG m_803 d_Mo_renaming_38 o0 ?_
  refine pw_iload (pc := 41) hG d_Mo_renaming_41 rfl ?_
  obtain ⟨hi43, h⟩ := h
  refine pw_aI (pc := 43) hG (q_arr hΛ o0 rfl (by decide)) hi43 d_Mo_renaming_43 ?_
  obtain ⟨hrx44, hry44, ha44, hb44⟩ := h
  refine pw_icmp_ne (tgt := 67) (pc := 44) hG d_Mo_renaming_44 (by decide) hrx44 hry44 (fun hc44 => ?_) (fun hc44 => ?_)
  · replace h := ha44 hc44
    refine pw_iconst (pc := 67) hG d_Mo_renaming_67 ?_
    exact hR 68 _ _ _ d_Mo_renaming_68 h
  · replace h := hb44 hc44
    refine pw_aload_n (pc := 47) hG d_Mo_renaming_47 rfl ?_
    refine g10_2 (pc := 48) hG m_804 d_Mo_renaming_48 o0 ?_
    refine pw_iload_n (pc := 51) hG d_Mo_renaming_51 rfl ?_
    obtain ⟨hi52, h⟩ := h
    refine pw_aI (pc := 52) hG (q_arr hΛ o0 rfl (by decide)) hi52 d_Mo_renaming_52 ?_
    refine pw_aload_n (pc := 53) hG d_Mo_renaming_53 rfl ?_
    refine g10_2 (pc := 54) hG m_804 d_Mo_renaming_54 o0 ?_
    refine pw_iload (pc := 57) hG d_Mo_renaming_57 rfl ?_
    obtain ⟨hi59, h⟩ := h
    refine pw_aI (pc := 59) hG (q_arr hΛ o0 rfl (by decide)) hi59 d_Mo_renaming_59 ?_
    obtain ⟨hrx60, hry60, ha60, hb60⟩ := h
    refine pw_icmp_ne (tgt := 67) (pc := 60) hG d_Mo_renaming_60 (by decide) hrx60 hry60 (fun hc60 => ?_) (fun hc60 => ?_)
    · replace h := ha60 hc60
      refine pw_iconst (pc := 67) hG d_Mo_renaming_67 ?_
      exact hR 68 _ _ _ d_Mo_renaming_68 h
    · replace h := hb60 hc60
      refine pw_iconst (pc := 63) hG d_Mo_renaming_63 ?_
      refine pw_goto (tgt := 68) (pc := 64) hG d_Mo_renaming_64 (by decide) ?_
      exact hR 68 _ _ _ d_Mo_renaming_68 h
theorem ct_Mo_renaming (l : Launch) (Δ : QDl) {Λ : QLay} (hΛ : LayOk Λ) {v0 : Nat} {v1 : Int} {v2 : Int} {S : QMem} {Q : Int → QMem → Prop} (o0 : qob Λ 10 v0) (h : w_Mo_renaming Λ v0 v1 v2 S Q) : QCt l y_Mo_renaming c_Mo_renaming 5 (some .int) 1 21 Δ Λ [.ref v0, vI v1, vI v2] S (qI Q) :=
  QCt.mk (own := "TreeDifferModel") hΛ (by decide) rfl rfl (Nat.le_of_ble_eq_true rfl) (fun G hG ri rz rv rj ra => b_Mo_renaming_0 hG (fun pc lv x S d hq => ri pc lv x S rfl d ⟨x, rfl, hq⟩) v0 v1 v2 S o0 h)
theorem k_Mo_compares : QVf y_Mo_compares c_Mo_compares 11 none "TreeDifferModel" 2 := ⟨m_1185, m_p78, m_11, m_1186, by decide +kernel⟩
theorem b_Mo_compares_78 {Λ : QLay} {G : Nat → List (Nat × Value) → List Value → QMem → Prop} {Q : QMem → Prop} (hG : QAct c_Mo_compares "TreeDifferModel" 11 { frames := 2, cells := 0, slots := 0, locals := 45 } Λ G) (hR : RtV c_Mo_compares G Q) {K28 : Nat → Int → Int → Int → Int → Int → QMem → Prop} {K40 : Nat → Int → Int → Int → Int → Int → Int → QMem → Prop} (hK28 : ∀ (v0 : Nat) (v1 : Int) (v2 : Int) (v3 : Int) (v4 : Int) (v5 : Int) (S : QMem), qob Λ 10 v0 → K28 v0 v1 v2 v3 v4 v5 S → G 28 [(0, .ref v0), (1, vI v1), (2, vI v2), (3, vI v3), (4, vI v4), (5, vI v5)] [] S) (hK40 : ∀ (v0 : Nat) (v1 : Int) (v2 : Int) (v3 : Int) (v4 : Int) (v5 : Int) (v6 : Int) (S : QMem), qob Λ 10 v0 → K40 v0 v1 v2 v3 v4 v5 v6 S → G 40 [(0, .ref v0), (1, vI v1), (2, vI v2), (3, vI v3), (4, vI v4), (5, vI v5), (6, vI v6)] [] S) (v0 : Nat) (v1 : Int) (v2 : Int) (v3 : Int) (v4 : Int) (v5 : Int) (v6 : Int) (v7 : Int) (S : QMem) (o_v0 : qob Λ 10 v0) (h : w_Mo_compares_78 Λ K28 K40 Q v0 v1 v2 v3 v4 v5 v6 v7 S) : G 78 [(0, .ref v0), (1, vI v1), (2, vI v2), (3, vI v3), (4, vI v4), (5, vI v5), (6, vI v6), (7, vI v7)] [] S := by
  have hΛ := hG.lay
  unfold w_Mo_compares_78 at h
  refine pw_aload_n (pc := 78) hG d_Mo_compares_78 rfl ?_
  refine g10_40 (pc := 79) hG m_842 d_Mo_compares_79 o_v0 ?_
  refine pw_iload (pc := 82) hG d_Mo_compares_82 rfl ?_
  refine pw_iload (pc := 84) hG d_Mo_compares_84 rfl ?_
  refine pw_iconst (pc := 86) hG d_Mo_compares_86 ?_
  refine pw_iadd (pc := 87) hG d_Mo_compares_87 ?_
  refine pw_iload_n (pc := 88) hG d_Mo_compares_88 rfl ?_
  refine pw_isub (pc := 89) hG d_Mo_compares_89 ?_
  refine pw_iload (pc := 90) hG d_Mo_compares_90 rfl ?_
  refine pw_iadd (pc := 92) hG d_Mo_compares_92 ?_
  refine pw_iconst (pc := 93) hG d_Mo_compares_93 ?_
  refine pw_iadd (pc := 94) hG d_Mo_compares_94 ?_
  refine pw_iload (pc := 95) hG d_Mo_compares_95 rfl ?_
  refine pw_isub (pc := 97) hG d_Mo_compares_97 ?_
  obtain ⟨hi98, h⟩ := h
  refine pw_sI (pc := 98) hG (q_arr hΛ o_v0 rfl (by decide)) hi98 d_Mo_compares_98 (fun S98 eS98 => ?_)
  replace h := h S98 eS98
  refine pw_goto (tgt := 285) (pc := 99) hG d_Mo_compares_99 (by decide) ?_
  refine pw_iinc0 (pc := 285) hG d_Mo_compares_285 rfl (by decide) rfl ?_
  refine pw_goto (tgt := 40) (pc := 288) hG d_Mo_compares_288 (by decide) ?_
  exact pw_sub hG [0, 1, 2, 3, 4, 5, 6] rfl (hK40 v0 v1 v2 v3 v4 v5 (v6 + 1) S98 o_v0 h)
theorem b_Mo_compares_164 {Λ : QLay} {G : Nat → List (Nat × Value) → List Value → QMem → Prop} {Q : QMem → Prop} (hG : QAct c_Mo_compares "TreeDifferModel" 11 { frames := 2, cells := 0, slots := 0, locals := 45 } Λ G) (hR : RtV c_Mo_compares G Q) {K28 : Nat → Int → Int → Int → Int → Int → QMem → Prop} {K40 : Nat → Int → Int → Int → Int → Int → Int → QMem → Prop} (hK28 : ∀ (v0 : Nat) (v1 : Int) (v2 : Int) (v3 : Int) (v4 : Int) (v5 : Int) (S : QMem), qob Λ 10 v0 → K28 v0 v1 v2 v3 v4 v5 S → G 28 [(0, .ref v0), (1, vI v1), (2, vI v2), (3, vI v3), (4, vI v4), (5, vI v5)] [] S) (hK40 : ∀ (v0 : Nat) (v1 : Int) (v2 : Int) (v3 : Int) (v4 : Int) (v5 : Int) (v6 : Int) (S : QMem), qob Λ 10 v0 → K40 v0 v1 v2 v3 v4 v5 v6 S → G 40 [(0, .ref v0), (1, vI v1), (2, vI v2), (3, vI v3), (4, vI v4), (5, vI v5), (6, vI v6)] [] S) (v0 : Nat) (v1 : Int) (v2 : Int) (v3 : Int) (v4 : Int) (v5 : Int) (v6 : Int) (v7 : Int) (v8 : Int) (s0 : Int) (S : QMem) (o_v0 : qob Λ 10 v0) (h : w_Mo_compares_164 Λ K28 K40 Q v0 v1 v2 v3 v4 v5 v6 v7 v8 s0 S) : G 164 [(0, .ref v0), (1, vI v1), (2, vI v2), (3, vI v3), (4, vI v4), (5, vI v5), (6, vI v6), (7, vI v7), (8, vI v8)] [vI s0] S := by
  have hΛ := hG.lay
  unfold w_Mo_compares_164 at h
  refine pw_ist (pc := 164) hG d_Mo_compares_164 (by decide) rfl ?_
  refine pw_iload (pc := 166) hG d_Mo_compares_166 rfl ?_
  obtain ⟨hrx168, ha168, hb168⟩ := h
  refine pw_if_eq (tgt := 215) (pc := 168) hG d_Mo_compares_168 (by decide) hrx168 (fun hc168 => ?_) (fun hc168 => ?_)
  · replace h := ha168 hc168
    refine pw_aload_n (pc := 215) hG d_Mo_compares_215 rfl ?_
    refine g10_40 (pc := 216) hG m_842 d_Mo_compares_216 o_v0 ?_
    refine pw_bipush (pc := 219) hG d_Mo_compares_219 (by decide) ?_
    refine pw_aload_n (pc := 221) hG d_Mo_compares_221 rfl ?_
    refine g10_38 (pc := 222) hG m_840 d_Mo_compares_222 o_v0 ?_
    refine pw_iconst (pc := 225) hG d_Mo_compares_225 ?_
    refine pw_iload (pc := 226) hG d_Mo_compares_226 rfl ?_
    refine pw_scalli (pc := 228) hG (fun l Δ => ct_Mo_at l Δ hΛ  h) m_791 k_Mo_at rfl ⟨by decide, by decide⟩ (Nat.le_of_ble_eq_true rfl) d_Mo_compares_228 rfl (fun r228 S228 h => ?_)
    obtain ⟨hi231, h⟩ := h
    refine pw_aI (pc := 231) hG (q_arr hΛ o_v0 rfl (by decide)) hi231 d_Mo_compares_231 ?_
    refine pw_iload_n (pc := 232) hG d_Mo_compares_232 rfl ?_
    refine pw_isub (pc := 233) hG d_Mo_compares_233 ?_
    refine pw_imul (pc := 234) hG d_Mo_compares_234 ?_
    refine pw_aload_n (pc := 235) hG d_Mo_compares_235 rfl ?_
    refine g10_38 (pc := 236) hG m_840 d_Mo_compares_236 o_v0 ?_
    refine pw_iconst (pc := 239) hG d_Mo_compares_239 ?_
    refine pw_iload (pc := 240) hG d_Mo_compares_240 rfl ?_
    refine pw_scalli (pc := 242) hG (fun l Δ => ct_Mo_at l Δ hΛ  h) m_791 k_Mo_at rfl ⟨by decide, by decide⟩ (Nat.le_of_ble_eq_true rfl) d_Mo_compares_242 rfl (fun r242 S242 h => ?_)
    obtain ⟨hi245, h⟩ := h
    refine pw_aI (pc := 245) hG (q_arr hΛ o_v0 rfl (by decide)) hi245 d_Mo_compares_245 ?_
    refine pw_iadd (pc := 246) hG d_Mo_compares_246 ?_
    refine pw_iload (pc := 247) hG d_Mo_compares_247 rfl ?_
    refine pw_isub (pc := 249) hG d_Mo_compares_249 ?_
    obtain ⟨hi250, h⟩ := h
    refine pw_aI (pc := 250) hG (q_arr hΛ o_v0 rfl (by decide)) hi250 d_Mo_compares_250 ?_
    refine pw_istore (pc := 251) hG d_Mo_compares_251 (by decide) (fun x251 ex251 => ⟨_, rfl, ?_⟩)
    replace h := h x251 ex251
    refine pw_iload (pc := 253) hG d_Mo_compares_253 rfl ?_
    refine pw_iload (pc := 255) hG d_Mo_compares_255 rfl ?_
    refine pw_aload_n (pc := 257) hG d_Mo_compares_257 rfl ?_
    refine g10_39 (pc := 258) hG m_841 d_Mo_compares_258 o_v0 ?_
    refine pw_bipush (pc := 261) hG d_Mo_compares_261 (by decide) ?_
    refine pw_iload (pc := 263) hG d_Mo_compares_263 rfl ?_
    refine pw_imul (pc := 265) hG d_Mo_compares_265 ?_
    refine pw_iload (pc := 266) hG d_Mo_compares_266 rfl ?_
    refine pw_iadd (pc := 268) hG d_Mo_compares_268 ?_
    obtain ⟨hi269, h⟩ := h
    refine pw_aI (pc := 269) hG (q_arr hΛ o_v0 rfl (by decide)) hi269 d_Mo_compares_269 ?_
    refine pw_iadd (pc := 270) hG d_Mo_compares_270 ?_
    refine pw_scalli (pc := 271) hG (fun l Δ => ct_Mo_least l Δ hΛ  h) m_1187 k_Mo_least rfl ⟨by decide, by decide⟩ (Nat.le_of_ble_eq_true rfl) d_Mo_compares_271 rfl (fun r271 S271 h => ?_)
    refine pw_ist (pc := 274) hG d_Mo_compares_274 (by decide) rfl ?_
    refine pw_aload_n (pc := 276) hG d_Mo_compares_276 rfl ?_
    refine g10_40 (pc := 277) hG m_842 d_Mo_compares_277 o_v0 ?_
    refine pw_iload (pc := 280) hG d_Mo_compares_280 rfl ?_
    refine pw_iload (pc := 282) hG d_Mo_compares_282 rfl ?_
    obtain ⟨hi284, h⟩ := h
    refine pw_sI (pc := 284) hG (q_arr hΛ o_v0 rfl (by decide)) hi284 d_Mo_compares_284 (fun S284 eS284 => ?_)
    replace h := h S284 eS284
    refine pw_iinc0 (pc := 285) hG d_Mo_compares_285 rfl (by decide) rfl ?_
    refine pw_goto (tgt := 40) (pc := 288) hG d_Mo_compares_288 (by decide) ?_
    exact pw_sub hG [0, 1, 2, 3, 4, 5, 6] rfl (hK40 v0 v1 v2 v3 v4 v5 (v6 + 1) S284 o_v0 h)
  · replace h := hb168 hc168
    refine pw_iload (pc := 171) hG d_Mo_compares_171 rfl ?_
    refine pw_aload_n (pc := 173) hG d_Mo_compares_173 rfl ?_
    refine g10_40 (pc := 174) hG m_842 d_Mo_compares_174 o_v0 ?_
    refine pw_iload (pc := 177) hG d_Mo_compares_177 rfl ?_
    refine pw_bipush (pc := 179) hG d_Mo_compares_179 (by decide) ?_
    refine pw_isub (pc := 181) hG d_Mo_compares_181 ?_
    obtain ⟨hi182, h⟩ := h
    refine pw_aI (pc := 182) hG (q_arr hΛ o_v0 rfl (by decide)) hi182 d_Mo_compares_182 ?_
    refine pw_aload_n (pc := 183) hG d_Mo_compares_183 rfl ?_
    refine pw_iload (pc := 184) hG d_Mo_compares_184 rfl ?_
    refine pw_iload (pc := 186) hG d_Mo_compares_186 rfl ?_
    refine pw_calli (pc := 188) hG (fun l Δ => ct_Mo_renaming l Δ hΛ o_v0 h) o_v0 rfl (by decide) m_1190 k_Mo_renaming rfl ⟨by decide, by decide⟩ (Nat.le_of_ble_eq_true rfl) d_Mo_compares_188 rfl (fun r188 S188 h => ?_)
    refine pw_iadd (pc := 191) hG d_Mo_compares_191 ?_
    refine pw_scalli (pc := 192) hG (fun l Δ => ct_Mo_least l Δ hΛ  h) m_1187 k_Mo_least rfl ⟨by decide, by decide⟩ (Nat.le_of_ble_eq_true rfl) d_Mo_compares_192 rfl (fun r192 S192 h => ?_)
    refine pw_ist (pc := 195) hG d_Mo_compares_195 (by decide) rfl ?_
    refine pw_aload_n (pc := 197) hG d_Mo_compares_197 rfl ?_
    refine g10_39 (pc := 198) hG m_841 d_Mo_compares_198 o_v0 ?_
    refine pw_bipush (pc := 201) hG d_Mo_compares_201 (by decide) ?_
    refine pw_iload (pc := 203) hG d_Mo_compares_203 rfl ?_
    refine pw_imul (pc := 205) hG d_Mo_compares_205 ?_
    refine pw_iload (pc := 206) hG d_Mo_compares_206 rfl ?_
    refine pw_iadd (pc := 208) hG d_Mo_compares_208 ?_
    refine pw_iload (pc := 209) hG d_Mo_compares_209 rfl ?_
    obtain ⟨hi211, h⟩ := h
    refine pw_sI (pc := 211) hG (q_arr hΛ o_v0 rfl (by decide)) hi211 d_Mo_compares_211 (fun S211 eS211 => ?_)
    replace h := h S211 eS211
    refine pw_goto (tgt := 276) (pc := 212) hG d_Mo_compares_212 (by decide) ?_
    refine pw_aload_n (pc := 276) hG d_Mo_compares_276 rfl ?_
    refine g10_40 (pc := 277) hG m_842 d_Mo_compares_277 o_v0 ?_
    refine pw_iload (pc := 280) hG d_Mo_compares_280 rfl ?_
    refine pw_iload (pc := 282) hG d_Mo_compares_282 rfl ?_
    obtain ⟨hi284, h⟩ := h
    refine pw_sI (pc := 284) hG (q_arr hΛ o_v0 rfl (by decide)) hi284 d_Mo_compares_284 (fun S284 eS284 => ?_)
    replace h := h S284 eS284
    refine pw_iinc0 (pc := 285) hG d_Mo_compares_285 rfl (by decide) rfl ?_
    refine pw_goto (tgt := 40) (pc := 288) hG d_Mo_compares_288 (by decide) ?_
    exact pw_sub hG [0, 1, 2, 3, 4, 5, 6] rfl (hK40 v0 v1 v2 v3 v4 v5 (v6 + 1) S284 o_v0 h)
theorem b_Mo_compares_163 {Λ : QLay} {G : Nat → List (Nat × Value) → List Value → QMem → Prop} {Q : QMem → Prop} (hG : QAct c_Mo_compares "TreeDifferModel" 11 { frames := 2, cells := 0, slots := 0, locals := 45 } Λ G) (hR : RtV c_Mo_compares G Q) {K28 : Nat → Int → Int → Int → Int → Int → QMem → Prop} {K40 : Nat → Int → Int → Int → Int → Int → Int → QMem → Prop} (hK28 : ∀ (v0 : Nat) (v1 : Int) (v2 : Int) (v3 : Int) (v4 : Int) (v5 : Int) (S : QMem), qob Λ 10 v0 → K28 v0 v1 v2 v3 v4 v5 S → G 28 [(0, .ref v0), (1, vI v1), (2, vI v2), (3, vI v3), (4, vI v4), (5, vI v5)] [] S) (hK40 : ∀ (v0 : Nat) (v1 : Int) (v2 : Int) (v3 : Int) (v4 : Int) (v5 : Int) (v6 : Int) (S : QMem), qob Λ 10 v0 → K40 v0 v1 v2 v3 v4 v5 v6 S → G 40 [(0, .ref v0), (1, vI v1), (2, vI v2), (3, vI v3), (4, vI v4), (5, vI v5), (6, vI v6)] [] S) (v0 : Nat) (v1 : Int) (v2 : Int) (v3 : Int) (v4 : Int) (v5 : Int) (v6 : Int) (v7 : Int) (v8 : Int) (S : QMem) (o_v0 : qob Λ 10 v0) (h : w_Mo_compares_163 Λ K28 K40 Q v0 v1 v2 v3 v4 v5 v6 v7 v8 S) : G 163 [(0, .ref v0), (1, vI v1), (2, vI v2), (3, vI v3), (4, vI v4), (5, vI v5), (6, vI v6), (7, vI v7), (8, vI v8)] [] S := by
  have hΛ := hG.lay
  unfold w_Mo_compares_163 at h
  refine pw_iconst (pc := 163) hG d_Mo_compares_163 ?_
  exact pw_sub hG [0, 1, 2, 3, 4, 5, 6, 7, 8] rfl (b_Mo_compares_164 hG hR hK28 hK40 v0 v1 v2 v3 v4 v5 v6 v7 v8 0 S o_v0 h)
theorem b_Mo_compares_40 {Λ : QLay} {G : Nat → List (Nat × Value) → List Value → QMem → Prop} {Q : QMem → Prop} (hG : QAct c_Mo_compares "TreeDifferModel" 11 { frames := 2, cells := 0, slots := 0, locals := 45 } Λ G) (hR : RtV c_Mo_compares G Q) {K28 : Nat → Int → Int → Int → Int → Int → QMem → Prop} (hK28 : ∀ (v0 : Nat) (v1 : Int) (v2 : Int) (v3 : Int) (v4 : Int) (v5 : Int) (S : QMem), qob Λ 10 v0 → K28 v0 v1 v2 v3 v4 v5 S → G 28 [(0, .ref v0), (1, vI v1), (2, vI v2), (3, vI v3), (4, vI v4), (5, vI v5)] [] S) : ∀ (n : Nat) (v0 : Nat) (v1 : Int) (v2 : Int) (v3 : Int) (v4 : Int) (v5 : Int) (v6 : Int) (S : QMem), qob Λ 10 v0 → w_Mo_compares_40 Λ K28 Q n v0 v1 v2 v3 v4 v5 v6 S → G 40 [(0, .ref v0), (1, vI v1), (2, vI v2), (3, vI v3), (4, vI v4), (5, vI v5), (6, vI v6)] [] S := by
  have hΛ := hG.lay
  intro n
  induction n with
  | zero => intro v0 v1 v2 v3 v4 v5 v6 S o_v0 h; exact h.elim
  | succ n ih =>
    intro v0 v1 v2 v3 v4 v5 v6 S o_v0 h
    rw [w_Mo_compares_40] at h
    refine pw_iload (pc := 40) hG d_Mo_compares_40 rfl ?_
    refine pw_iload_n (pc := 42) hG d_Mo_compares_42 rfl ?_
    obtain ⟨hrx43, hry43, ha43, hb43⟩ := h
    refine pw_icmp_gt (tgt := 291) (pc := 43) hG d_Mo_compares_43 (by decide) hrx43 hry43 (fun hc43 => ?_) (fun hc43 => ?_)
    · replace h := ha43 hc43
      refine pw_iinc0 (pc := 291) hG d_Mo_compares_291 rfl (by decide) rfl ?_
      refine pw_goto (tgt := 28) (pc := 294) hG d_Mo_compares_294 (by decide) ?_
      exact pw_sub hG [0, 1, 2, 3, 4, 5] rfl (hK28 v0 v1 v2 v3 v4 (v5 + 1) S o_v0 h)
    · replace h := hb43 hc43
      refine pw_bipush (pc := 46) hG d_Mo_compares_46 (by decide) ?_
      refine pw_iload (pc := 48) hG d_Mo_compares_48 rfl ?_
      refine pw_iconst (pc := 50) hG d_Mo_compares_50 ?_
      refine pw_iadd (pc := 51) hG d_Mo_compares_51 ?_
      refine pw_iload_n (pc := 52) hG d_Mo_compares_52 rfl ?_
      refine pw_isub (pc := 53) hG d_Mo_compares_53 ?_
      refine pw_imul (pc := 54) hG d_Mo_compares_54 ?_
      refine pw_iload (pc := 55) hG d_Mo_compares_55 rfl ?_
      refine pw_iadd (pc := 57) hG d_Mo_compares_57 ?_
      refine pw_iconst (pc := 58) hG d_Mo_compares_58 ?_
      refine pw_iadd (pc := 59) hG d_Mo_compares_59 ?_
      refine pw_iload (pc := 60) hG d_Mo_compares_60 rfl ?_
      refine pw_isub (pc := 62) hG d_Mo_compares_62 ?_
      refine pw_istore (pc := 63) hG d_Mo_compares_63 (by decide) (fun x63 ex63 => ⟨_, rfl, ?_⟩)
      replace h := h x63 ex63
      refine pw_iload (pc := 65) hG d_Mo_compares_65 rfl ?_
      refine pw_iload_n (pc := 67) hG d_Mo_compares_67 rfl ?_
      obtain ⟨hrx68, hry68, ha68, hb68⟩ := h
      refine pw_icmp_lt (tgt := 78) (pc := 68) hG d_Mo_compares_68 (by decide) hrx68 hry68 (fun hc68 => ?_) (fun hc68 => ?_)
      · replace h := ha68 hc68
        exact pw_sub hG [0, 1, 2, 3, 4, 5, 6, 7] rfl (b_Mo_compares_78 hG hR hK28 ih v0 v1 v2 v3 v4 v5 v6 x63 S o_v0 h)
      · replace h := hb68 hc68
        refine pw_iload (pc := 71) hG d_Mo_compares_71 rfl ?_
        refine pw_iload (pc := 73) hG d_Mo_compares_73 rfl ?_
        obtain ⟨hrx75, hry75, ha75, hb75⟩ := h
        refine pw_icmp_ge (tgt := 102) (pc := 75) hG d_Mo_compares_75 (by decide) hrx75 hry75 (fun hc75 => ?_) (fun hc75 => ?_)
        · replace h := ha75 hc75
          refine pw_aload_n (pc := 102) hG d_Mo_compares_102 rfl ?_
          refine g10_40 (pc := 103) hG m_842 d_Mo_compares_103 o_v0 ?_
          refine pw_iload (pc := 106) hG d_Mo_compares_106 rfl ?_
          refine pw_bipush (pc := 108) hG d_Mo_compares_108 (by decide) ?_
          refine pw_isub (pc := 110) hG d_Mo_compares_110 ?_
          obtain ⟨hi111, h⟩ := h
          refine pw_aI (pc := 111) hG (q_arr hΛ o_v0 rfl (by decide)) hi111 d_Mo_compares_111 ?_
          refine pw_aload_n (pc := 112) hG d_Mo_compares_112 rfl ?_
          refine g10_40 (pc := 113) hG m_842 d_Mo_compares_113 o_v0 ?_
          refine pw_iload (pc := 116) hG d_Mo_compares_116 rfl ?_
          refine pw_iconst (pc := 118) hG d_Mo_compares_118 ?_
          refine pw_isub (pc := 119) hG d_Mo_compares_119 ?_
          obtain ⟨hi120, h⟩ := h
          refine pw_aI (pc := 120) hG (q_arr hΛ o_v0 rfl (by decide)) hi120 d_Mo_compares_120 ?_
          refine pw_scalli (pc := 121) hG (fun l Δ => ct_Mo_least l Δ hΛ  h) m_1187 k_Mo_least rfl ⟨by decide, by decide⟩ (Nat.le_of_ble_eq_true rfl) d_Mo_compares_121 rfl (fun r121 S121 h => ?_)
          refine pw_iconst (pc := 124) hG d_Mo_compares_124 ?_
          refine pw_iadd (pc := 125) hG d_Mo_compares_125 ?_
          refine pw_istore (pc := 126) hG d_Mo_compares_126 (by decide) (fun x126 ex126 => ⟨_, rfl, ?_⟩)
          replace h := h x126 ex126
          refine pw_aload_n (pc := 128) hG d_Mo_compares_128 rfl ?_
          refine g10_38 (pc := 129) hG m_840 d_Mo_compares_129 o_v0 ?_
          refine pw_iconst (pc := 132) hG d_Mo_compares_132 ?_
          refine pw_iload (pc := 133) hG d_Mo_compares_133 rfl ?_
          refine pw_scalli (pc := 135) hG (fun l Δ => ct_Mo_at l Δ hΛ  h) m_791 k_Mo_at rfl ⟨by decide, by decide⟩ (Nat.le_of_ble_eq_true rfl) d_Mo_compares_135 rfl (fun r135 S135 h => ?_)
          obtain ⟨hi138, h⟩ := h
          refine pw_aI (pc := 138) hG (q_arr hΛ o_v0 rfl (by decide)) hi138 d_Mo_compares_138 ?_
          refine pw_iload_n (pc := 139) hG d_Mo_compares_139 rfl ?_
          obtain ⟨hrx140, hry140, ha140, hb140⟩ := h
          refine pw_icmp_ne (tgt := 163) (pc := 140) hG d_Mo_compares_140 (by decide) hrx140 hry140 (fun hc140 => ?_) (fun hc140 => ?_)
          · replace h := ha140 hc140
            exact pw_sub hG [0, 1, 2, 3, 4, 5, 6, 7, 8] rfl (b_Mo_compares_163 hG hR hK28 ih v0 v1 v2 v3 v4 v5 v6 x63 x126 S135 o_v0 h)
          · replace h := hb140 hc140
            refine pw_aload_n (pc := 143) hG d_Mo_compares_143 rfl ?_
            refine g10_38 (pc := 144) hG m_840 d_Mo_compares_144 o_v0 ?_
            refine pw_iconst (pc := 147) hG d_Mo_compares_147 ?_
            refine pw_iload (pc := 148) hG d_Mo_compares_148 rfl ?_
            refine pw_scalli (pc := 150) hG (fun l Δ => ct_Mo_at l Δ hΛ  h) m_791 k_Mo_at rfl ⟨by decide, by decide⟩ (Nat.le_of_ble_eq_true rfl) d_Mo_compares_150 rfl (fun r150 S150 h => ?_)
            obtain ⟨hi153, h⟩ := h
            refine pw_aI (pc := 153) hG (q_arr hΛ o_v0 rfl (by decide)) hi153 d_Mo_compares_153 ?_
            refine pw_iload (pc := 154) hG d_Mo_compares_154 rfl ?_
            obtain ⟨hrx156, hry156, ha156, hb156⟩ := h
            refine pw_icmp_ne (tgt := 163) (pc := 156) hG d_Mo_compares_156 (by decide) hrx156 hry156 (fun hc156 => ?_) (fun hc156 => ?_)
            · replace h := ha156 hc156
              exact pw_sub hG [0, 1, 2, 3, 4, 5, 6, 7, 8] rfl (b_Mo_compares_163 hG hR hK28 ih v0 v1 v2 v3 v4 v5 v6 x63 x126 S150 o_v0 h)
            · replace h := hb156 hc156
              refine pw_iconst (pc := 159) hG d_Mo_compares_159 ?_
              refine pw_goto (tgt := 164) (pc := 160) hG d_Mo_compares_160 (by decide) ?_
              exact pw_sub hG [0, 1, 2, 3, 4, 5, 6, 7, 8] rfl (b_Mo_compares_164 hG hR hK28 ih v0 v1 v2 v3 v4 v5 v6 x63 x126 1 S150 o_v0 h)
        · replace h := hb75 hc75
          exact pw_sub hG [0, 1, 2, 3, 4, 5, 6, 7] rfl (b_Mo_compares_78 hG hR hK28 ih v0 v1 v2 v3 v4 v5 v6 x63 S o_v0 h)
theorem b_Mo_compares_28 {Λ : QLay} {G : Nat → List (Nat × Value) → List Value → QMem → Prop} {Q : QMem → Prop} (hG : QAct c_Mo_compares "TreeDifferModel" 11 { frames := 2, cells := 0, slots := 0, locals := 45 } Λ G) (hR : RtV c_Mo_compares G Q) : ∀ (n : Nat) (v0 : Nat) (v1 : Int) (v2 : Int) (v3 : Int) (v4 : Int) (v5 : Int) (S : QMem), qob Λ 10 v0 → w_Mo_compares_28 Λ Q n v0 v1 v2 v3 v4 v5 S → G 28 [(0, .ref v0), (1, vI v1), (2, vI v2), (3, vI v3), (4, vI v4), (5, vI v5)] [] S := by
  have hΛ := hG.lay
  intro n
  induction n with
  | zero => intro v0 v1 v2 v3 v4 v5 S o_v0 h; exact h.elim
  | succ n ih =>
    intro v0 v1 v2 v3 v4 v5 S o_v0 h
    rw [w_Mo_compares_28] at h
    refine pw_iload (pc := 28) hG d_Mo_compares_28 rfl ?_
    refine pw_iload_n (pc := 30) hG d_Mo_compares_30 rfl ?_
    obtain ⟨hrx31, hry31, ha31, hb31⟩ := h
    refine pw_icmp_gt (tgt := 297) (pc := 31) hG d_Mo_compares_31 (by decide) hrx31 hry31 (fun hc31 => ?_) (fun hc31 => ?_)
    · replace h := ha31 hc31
      exact hR 297 _ _ d_Mo_compares_297 h
    · replace h := hb31 hc31
      refine pw_iload (pc := 34) hG d_Mo_compares_34 rfl ?_
      refine pw_iconst (pc := 36) hG d_Mo_compares_36 ?_
      refine pw_isub (pc := 37) hG d_Mo_compares_37 ?_
      refine pw_istore (pc := 38) hG d_Mo_compares_38 (by decide) (fun x38 ex38 => ⟨_, rfl, ?_⟩)
      replace h := h x38 ex38
      obtain ⟨n38, h⟩ := h
      exact pw_sub hG [0, 1, 2, 3, 4, 5, 6] rfl (b_Mo_compares_40 hG hR ih n38 v0 v1 v2 v3 v4 v5 x38 S o_v0 h)
theorem b_Mo_compares_0 {Λ : QLay} {G : Nat → List (Nat × Value) → List Value → QMem → Prop} {Q : QMem → Prop} (hG : QAct c_Mo_compares "TreeDifferModel" 11 { frames := 2, cells := 0, slots := 0, locals := 45 } Λ G) (hR : RtV c_Mo_compares G Q) (v0 : Nat) (v1 : Int) (v2 : Int) (S : QMem) (o0 : qob Λ 10 v0) (h : w_Mo_compares Λ v0 v1 v2 S Q) : G 0 [(0, .ref v0), (1, vI v1), (2, vI v2)] [] S := by
  have hΛ := hG.lay
  unfold w_Mo_compares at h
  refine pw_aload_n (pc := 0) hG d_Mo_compares_0 rfl ?_
  refine g10_38 (pc := 1) hG m_840 d_Mo_compares_1 o0 ?_
  refine pw_iconst (pc := 4) hG d_Mo_compares_4 ?_
  refine pw_iload_n (pc := 5) hG d_Mo_compares_5 rfl ?_
  refine pw_scalli (pc := 6) hG (fun l Δ => ct_Mo_at l Δ hΛ  h) m_791 k_Mo_at rfl ⟨by decide, by decide⟩ (Nat.le_of_ble_eq_true rfl) d_Mo_compares_6 rfl (fun r6 S6 h => ?_)
  obtain ⟨hi9, h⟩ := h
  refine pw_aI (pc := 9) hG (q_arr hΛ o0 rfl (by decide)) hi9 d_Mo_compares_9 ?_
  refine pw_istore_n (pc := 10) hG d_Mo_compares_10 (by decide) (fun x10 ex10 => ⟨_, rfl, ?_⟩)
  replace h := h x10 ex10
  refine pw_aload_n (pc := 11) hG d_Mo_compares_11 rfl ?_
  refine g10_38 (pc := 12) hG m_840 d_Mo_compares_12 o0 ?_
  refine pw_iconst (pc := 15) hG d_Mo_compares_15 ?_
  refine pw_iload_n (pc := 16) hG d_Mo_compares_16 rfl ?_
  refine pw_scalli (pc := 17) hG (fun l Δ => ct_Mo_at l Δ hΛ  h) m_791 k_Mo_at rfl ⟨by decide, by decide⟩ (Nat.le_of_ble_eq_true rfl) d_Mo_compares_17 rfl (fun r17 S17 h => ?_)
  obtain ⟨hi20, h⟩ := h
  refine pw_aI (pc := 20) hG (q_arr hΛ o0 rfl (by decide)) hi20 d_Mo_compares_20 ?_
  refine pw_istore (pc := 21) hG d_Mo_compares_21 (by decide) (fun x21 ex21 => ⟨_, rfl, ?_⟩)
  replace h := h x21 ex21
  refine pw_iload_n (pc := 23) hG d_Mo_compares_23 rfl ?_
  refine pw_iconst (pc := 24) hG d_Mo_compares_24 ?_
  refine pw_isub (pc := 25) hG d_Mo_compares_25 ?_
  refine pw_istore (pc := 26) hG d_Mo_compares_26 (by decide) (fun x26 ex26 => ⟨_, rfl, ?_⟩)
  replace h := h x26 ex26
  obtain ⟨n26, h⟩ := h
  exact pw_sub hG [0, 1, 2, 3, 4, 5] rfl (b_Mo_compares_28 hG hR n26 v0 v1 v2 x10 x21 x26 S17 o0 h)
theorem ct_Mo_compares (l : Launch) (Δ : QDl) {Λ : QLay} (hΛ : LayOk Λ) {v0 : Nat} {v1 : Int} {v2 : Int} {S : QMem} {Q : QMem → Prop} (o0 : qob Λ 10 v0) (h : w_Mo_compares Λ v0 v1 v2 S Q) : QCt l y_Mo_compares c_Mo_compares 11 none 2 45 Δ Λ [.ref v0, vI v1, vI v2] S (qV Q) :=
  QCt.mk (own := "TreeDifferModel") hΛ (by decide) rfl rfl (Nat.le_of_ble_eq_true rfl) (fun G hG ri rz rv rj ra => b_Mo_compares_0 hG (fun pc lv S d hq => rv pc lv S rfl d ⟨rfl, hq⟩) v0 v1 v2 S o0 h)
theorem k_Mo_distance : QVf y_Mo_distance c_Mo_distance 3 (some .int) "TreeDifferModel" 0 := ⟨m_1172, m_1173, m_11, m_1174, by decide +kernel⟩
theorem b_Mo_distance_24 {Λ : QLay} {G : Nat → List (Nat × Value) → List Value → QMem → Prop} {Q : Int → QMem → Prop} (hG : QAct c_Mo_distance "TreeDifferModel" 3 { frames := 3, cells := 0, slots := 0, locals := 75 } Λ G) (hR : RtI c_Mo_distance G Q) {K12 : Nat → Int → QMem → Prop} (hK12 : ∀ (v0 : Nat) (v1 : Int) (S : QMem), qob Λ 10 v0 → K12 v0 v1 S → G 12 [(0, .ref v0), (1, vI v1)] [] S) : ∀ (n : Nat) (v0 : Nat) (v1 : Int) (v2 : Int) (S : QMem), qob Λ 10 v0 → w_Mo_distance_24 Λ K12 Q n v0 v1 v2 S → G 24 [(0, .ref v0), (1, vI v1), (2, vI v2)] [] S := by
  have hΛ := hG.lay
  intro n
  induction n with
  | zero => intro v0 v1 v2 S o_v0 h; exact h.elim
  | succ n ih =>
    intro v0 v1 v2 S o_v0 h
    rw [w_Mo_distance_24] at h
    refine pw_iload_n (pc := 24) hG d_Mo_distance_24 rfl ?_
    refine pw_aload_n (pc := 25) hG d_Mo_distance_25 rfl ?_
    refine g10_0 (pc := 26) hG m_802 d_Mo_distance_26 o_v0 ?_
    refine pw_iconst (pc := 29) hG d_Mo_distance_29 ?_
    refine pw_aI (pc := 30) hG (q_arr hΛ o_v0 rfl (by decide)) (by decide) d_Mo_distance_30 ?_
    obtain ⟨hrx31, hry31, ha31, hb31⟩ := h
    refine pw_icmp_ge (tgt := 64) (pc := 31) hG d_Mo_distance_31 (by decide) hrx31 hry31 (fun hc31 => ?_) (fun hc31 => ?_)
    · replace h := ha31 hc31
      refine pw_iinc0 (pc := 64) hG d_Mo_distance_64 rfl (by decide) rfl ?_
      refine pw_goto (tgt := 12) (pc := 67) hG d_Mo_distance_67 (by decide) ?_
      exact pw_sub hG [0, 1] rfl (hK12 v0 (v1 + 1) S o_v0 h)
    · replace h := hb31 hc31
      refine pw_aload_n (pc := 34) hG d_Mo_distance_34 rfl ?_
      refine pw_iconst (pc := 35) hG d_Mo_distance_35 ?_
      refine pw_iload_n (pc := 36) hG d_Mo_distance_36 rfl ?_
      refine pw_calli (pc := 37) hG (fun l Δ => ct_Mo_isKey l Δ hΛ o_v0 h) o_v0 rfl (by decide) m_1179 k_Mo_isKey rfl ⟨by decide, by decide⟩ (Nat.le_of_ble_eq_true rfl) d_Mo_distance_37 rfl (fun r37 S37 h => ?_)
      obtain ⟨hrx40, ha40, hb40⟩ := h
      refine pw_if_eq (tgt := 58) (pc := 40) hG d_Mo_distance_40 (by decide) hrx40 (fun hc40 => ?_) (fun hc40 => ?_)
      · replace h := ha40 hc40
        refine pw_iinc0 (pc := 58) hG d_Mo_distance_58 rfl (by decide) rfl ?_
        refine pw_goto (tgt := 24) (pc := 61) hG d_Mo_distance_61 (by decide) ?_
        exact pw_sub hG [0, 1, 2] rfl (ih v0 v1 (v2 + 1) S37 o_v0 h)
      · replace h := hb40 hc40
        refine pw_aload_n (pc := 43) hG d_Mo_distance_43 rfl ?_
        refine pw_iconst (pc := 44) hG d_Mo_distance_44 ?_
        refine pw_iload_n (pc := 45) hG d_Mo_distance_45 rfl ?_
        refine pw_calli (pc := 46) hG (fun l Δ => ct_Mo_isKey l Δ hΛ o_v0 h) o_v0 rfl (by decide) m_1179 k_Mo_isKey rfl ⟨by decide, by decide⟩ (Nat.le_of_ble_eq_true rfl) d_Mo_distance_46 rfl (fun r46 S46 h => ?_)
        obtain ⟨hrx49, ha49, hb49⟩ := h
        refine pw_if_eq (tgt := 58) (pc := 49) hG d_Mo_distance_49 (by decide) hrx49 (fun hc49 => ?_) (fun hc49 => ?_)
        · replace h := ha49 hc49
          refine pw_iinc0 (pc := 58) hG d_Mo_distance_58 rfl (by decide) rfl ?_
          refine pw_goto (tgt := 24) (pc := 61) hG d_Mo_distance_61 (by decide) ?_
          exact pw_sub hG [0, 1, 2] rfl (ih v0 v1 (v2 + 1) S46 o_v0 h)
        · replace h := hb49 hc49
          refine pw_aload_n (pc := 52) hG d_Mo_distance_52 rfl ?_
          refine pw_iload_n (pc := 53) hG d_Mo_distance_53 rfl ?_
          refine pw_iload_n (pc := 54) hG d_Mo_distance_54 rfl ?_
          refine pw_callv (pc := 55) hG (fun l Δ => ct_Mo_compares l Δ hΛ o_v0 h) o_v0 rfl (by decide) m_1183 k_Mo_compares rfl ⟨by decide, by decide⟩ (Nat.le_of_ble_eq_true rfl) d_Mo_distance_55 rfl (fun S55 h => ?_)
          refine pw_iinc0 (pc := 58) hG d_Mo_distance_58 rfl (by decide) rfl ?_
          refine pw_goto (tgt := 24) (pc := 61) hG d_Mo_distance_61 (by decide) ?_
          exact pw_sub hG [0, 1, 2] rfl (ih v0 v1 (v2 + 1) S55 o_v0 h)
theorem b_Mo_distance_12 {Λ : QLay} {G : Nat → List (Nat × Value) → List Value → QMem → Prop} {Q : Int → QMem → Prop} (hG : QAct c_Mo_distance "TreeDifferModel" 3 { frames := 3, cells := 0, slots := 0, locals := 75 } Λ G) (hR : RtI c_Mo_distance G Q) : ∀ (n : Nat) (v0 : Nat) (v1 : Int) (S : QMem), qob Λ 10 v0 → w_Mo_distance_12 Λ Q n v0 v1 S → G 12 [(0, .ref v0), (1, vI v1)] [] S := by
  have hΛ := hG.lay
  intro n
  induction n with
  | zero => intro v0 v1 S o_v0 h; exact h.elim
  | succ n ih =>
    intro v0 v1 S o_v0 h
    rw [w_Mo_distance_12] at h
    refine pw_iload_n (pc := 12) hG d_Mo_distance_12 rfl ?_
    refine pw_aload_n (pc := 13) hG d_Mo_distance_13 rfl ?_
    refine g10_0 (pc := 14) hG m_802 d_Mo_distance_14 o_v0 ?_
    refine pw_iconst (pc := 17) hG d_Mo_distance_17 ?_
    refine pw_aI (pc := 18) hG (q_arr hΛ o_v0 rfl (by decide)) (by decide) d_Mo_distance_18 ?_
    obtain ⟨hrx19, hry19, ha19, hb19⟩ := h
    refine pw_icmp_ge (tgt := 70) (pc := 19) hG d_Mo_distance_19 (by decide) hrx19 hry19 (fun hc19 => ?_) (fun hc19 => ?_)
    · replace h := ha19 hc19
      refine pw_aload_n (pc := 70) hG d_Mo_distance_70 rfl ?_
      refine g10_39 (pc := 71) hG m_841 d_Mo_distance_71 o_v0 ?_
      refine pw_bipush (pc := 74) hG d_Mo_distance_74 (by decide) ?_
      refine pw_aload_n (pc := 76) hG d_Mo_distance_76 rfl ?_
      refine g10_0 (pc := 77) hG m_802 d_Mo_distance_77 o_v0 ?_
      refine pw_iconst (pc := 80) hG d_Mo_distance_80 ?_
      refine pw_aI (pc := 81) hG (q_arr hΛ o_v0 rfl (by decide)) (by decide) d_Mo_distance_81 ?_
      refine pw_iconst (pc := 82) hG d_Mo_distance_82 ?_
      refine pw_isub (pc := 83) hG d_Mo_distance_83 ?_
      refine pw_imul (pc := 84) hG d_Mo_distance_84 ?_
      refine pw_aload_n (pc := 85) hG d_Mo_distance_85 rfl ?_
      refine g10_0 (pc := 86) hG m_802 d_Mo_distance_86 o_v0 ?_
      refine pw_iconst (pc := 89) hG d_Mo_distance_89 ?_
      refine pw_aI (pc := 90) hG (q_arr hΛ o_v0 rfl (by decide)) (by decide) d_Mo_distance_90 ?_
      refine pw_iadd (pc := 91) hG d_Mo_distance_91 ?_
      refine pw_iconst (pc := 92) hG d_Mo_distance_92 ?_
      refine pw_isub (pc := 93) hG d_Mo_distance_93 ?_
      obtain ⟨hi94, h⟩ := h
      refine pw_aI (pc := 94) hG (q_arr hΛ o_v0 rfl (by decide)) hi94 d_Mo_distance_94 ?_
      exact hR 95 _ _ _ d_Mo_distance_95 h
    · replace h := hb19 hc19
      refine pw_iconst (pc := 22) hG d_Mo_distance_22 ?_
      refine pw_ist_n (pc := 23) hG d_Mo_distance_23 (by decide) rfl ?_
      obtain ⟨n23, h⟩ := h
      exact pw_sub hG [0, 1, 2] rfl (b_Mo_distance_24 hG hR ih n23 v0 v1 0 S o_v0 h)
theorem b_Mo_distance_0 {Λ : QLay} {G : Nat → List (Nat × Value) → List Value → QMem → Prop} {Q : Int → QMem → Prop} (hG : QAct c_Mo_distance "TreeDifferModel" 3 { frames := 3, cells := 0, slots := 0, locals := 75 } Λ G) (hR : RtI c_Mo_distance G Q) (v0 : Nat) (S : QMem) (o0 : qob Λ 10 v0) (h : w_Mo_distance Λ v0 S Q) : G 0 [(0, .ref v0)] [] S := by
  have hΛ := hG.lay
  unfold w_Mo_distance at h
  refine pw_aload_n (pc := 0) hG d_Mo_distance_0 rfl ?_
  refine pw_iconst (pc := 1) hG d_Mo_distance_1 ?_
  refine pw_callv (pc := 2) hG (fun l Δ => ct_Mo_findLefts l Δ hΛ o0 h) o0 rfl (by decide) m_1175 k_Mo_findLefts rfl ⟨by decide, by decide⟩ (Nat.le_of_ble_eq_true rfl) d_Mo_distance_2 rfl (fun S2 h => ?_)
  refine pw_aload_n (pc := 5) hG d_Mo_distance_5 rfl ?_
  refine pw_iconst (pc := 6) hG d_Mo_distance_6 ?_
  refine pw_callv (pc := 7) hG (fun l Δ => ct_Mo_findLefts l Δ hΛ o0 h) o0 rfl (by decide) m_1175 k_Mo_findLefts rfl ⟨by decide, by decide⟩ (Nat.le_of_ble_eq_true rfl) d_Mo_distance_7 rfl (fun S7 h => ?_)
  refine pw_iconst (pc := 10) hG d_Mo_distance_10 ?_
  refine pw_ist_n (pc := 11) hG d_Mo_distance_11 (by decide) rfl ?_
  obtain ⟨n11, h⟩ := h
  exact pw_sub hG [0, 1] rfl (b_Mo_distance_12 hG hR n11 v0 0 S7 o0 h)
theorem ct_Mo_distance (l : Launch) (Δ : QDl) {Λ : QLay} (hΛ : LayOk Λ) {v0 : Nat} {S : QMem} {Q : Int → QMem → Prop} (o0 : qob Λ 10 v0) (h : w_Mo_distance Λ v0 S Q) : QCt l y_Mo_distance c_Mo_distance 3 (some .int) 3 75 Δ Λ [.ref v0] S (qI Q) :=
  QCt.mk (own := "TreeDifferModel") hΛ (by decide) rfl rfl (Nat.le_of_ble_eq_true rfl) (fun G hG ri rz rv rj ra => b_Mo_distance_0 hG (fun pc lv x S d hq => ri pc lv x S rfl d ⟨x, rfl, hq⟩) v0 S o0 h)
