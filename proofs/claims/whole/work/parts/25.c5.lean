theorem k_Mo_isDigitRead : QVf y_Mo_isDigitRead c_Mo_isDigitRead 3 (some .boolean) "TreeDifferModel" 1 := ⟨m_967, m_p41, m_11, m_968, by decide +kernel⟩
theorem b_Mo_isDigitRead_0 {Λ : QLay} {G : Nat → List (Nat × Value) → List Value → QMem → Prop} {Q : Int → QMem → Prop} (hG : QAct c_Mo_isDigitRead "TreeDifferModel" 3 { frames := 1, cells := 0, slots := 0, locals := 22 } Λ G) (hR : RtZ c_Mo_isDigitRead G Q) (v0 : Nat) (v1 : Int) (S : QMem) (o0 : qob Λ 10 v0) (h : w_Mo_isDigitRead Λ v0 v1 S Q) : G 0 [(0, .ref v0), (1, vI v1)] [] S := by
  have hΛ := hG.lay
  unfold w_Mo_isDigitRead at h
  refine pw_iload_n (pc := 0) hG d_Mo_isDigitRead_0 rfl ?_
  refine pw_bipush (pc := 1) hG d_Mo_isDigitRead_1 (by decide) ?_
  refine pw_bipush (pc := 3) hG d_Mo_isDigitRead_3 (by decide) ?_
  refine pw_scalli (pc := 5) hG (fun l Δ => ct_Mo_in l Δ hΛ  h) m_942 k_Mo_in rfl ⟨by decide, by decide⟩ (Nat.le_of_ble_eq_true rfl) d_Mo_isDigitRead_5 rfl (fun r5 S5 h => ?_)
  obtain ⟨hrx8, ha8, hb8⟩ := h
  refine pw_if_eq (tgt := 19) (pc := 8) hG d_Mo_isDigitRead_8 (by decide) hrx8 (fun hc8 => ?_) (fun hc8 => ?_)
  · replace h := ha8 hc8
    refine pw_iconst (pc := 19) hG d_Mo_isDigitRead_19 ?_
    exact hR 20 _ _ _ d_Mo_isDigitRead_20 (Or.inl rfl) h
  · replace h := hb8 hc8
    refine pw_aload_n (pc := 11) hG d_Mo_isDigitRead_11 rfl ?_
    refine g10_16 (pc := 12) hG m_818 d_Mo_isDigitRead_12 o0 ?_
    refine pw_iconst (pc := 15) hG d_Mo_isDigitRead_15 ?_
    obtain ⟨hrx16, ha16, hb16⟩ := h
    refine pw_icmp_ne (tgt := 21) (pc := 16) hG d_Mo_isDigitRead_16 (by decide) hrx16 (q_lit rfl) (fun hc16 => ?_) (fun hc16 => ?_)
    · replace h := ha16 hc16
      refine pw_iconst (pc := 21) hG d_Mo_isDigitRead_21 ?_
      refine pw_aload_n (pc := 22) hG d_Mo_isDigitRead_22 rfl ?_
      refine g10_0 (pc := 23) hG m_802 d_Mo_isDigitRead_23 o0 ?_
      refine pw_iconst (pc := 26) hG d_Mo_isDigitRead_26 ?_
      refine pw_aI (pc := 27) hG (q_arr hΛ o0 rfl (by decide)) (by decide) d_Mo_isDigitRead_27 ?_
      refine pw_iconst (pc := 28) hG d_Mo_isDigitRead_28 ?_
      refine pw_isub (pc := 29) hG d_Mo_isDigitRead_29 ?_
      refine pw_scalli (pc := 30) hG (fun l Δ => ct_Mo_at l Δ hΛ  h) m_791 k_Mo_at rfl ⟨by decide, by decide⟩ (Nat.le_of_ble_eq_true rfl) d_Mo_isDigitRead_30 rfl (fun r30 S30 h => ?_)
      refine pw_ist_n (pc := 33) hG d_Mo_isDigitRead_33 (by decide) rfl ?_
      refine pw_aload_n (pc := 34) hG d_Mo_isDigitRead_34 rfl ?_
      refine g10_2 (pc := 35) hG m_804 d_Mo_isDigitRead_35 o0 ?_
      refine pw_iload_n (pc := 38) hG d_Mo_isDigitRead_38 rfl ?_
      refine pw_bipush (pc := 39) hG d_Mo_isDigitRead_39 (by decide) ?_
      refine pw_aload_n (pc := 41) hG d_Mo_isDigitRead_41 rfl ?_
      refine g10_2 (pc := 42) hG m_804 d_Mo_isDigitRead_42 o0 ?_
      refine pw_iload_n (pc := 45) hG d_Mo_isDigitRead_45 rfl ?_
      obtain ⟨hi46, h⟩ := h
      refine pw_aI (pc := 46) hG (q_arr hΛ o0 rfl (by decide)) hi46 d_Mo_isDigitRead_46 ?_
      refine pw_imul (pc := 47) hG d_Mo_isDigitRead_47 ?_
      refine pw_iload_n (pc := 48) hG d_Mo_isDigitRead_48 rfl ?_
      refine pw_iadd (pc := 49) hG d_Mo_isDigitRead_49 ?_
      refine pw_bipush (pc := 50) hG d_Mo_isDigitRead_50 (by decide) ?_
      refine pw_isub (pc := 52) hG d_Mo_isDigitRead_52 ?_
      obtain ⟨hi53, h⟩ := h
      refine pw_sI (pc := 53) hG (q_arr hΛ o0 rfl (by decide)) hi53 d_Mo_isDigitRead_53 (fun S53 eS53 => ?_)
      replace h := h S53 eS53
      refine pw_aload_n (pc := 54) hG d_Mo_isDigitRead_54 rfl ?_
      refine pw_aload_n (pc := 55) hG d_Mo_isDigitRead_55 rfl ?_
      refine g10_16 (pc := 56) hG m_818 d_Mo_isDigitRead_56 o0 ?_
      refine pw_iconst (pc := 59) hG d_Mo_isDigitRead_59 ?_
      obtain ⟨hrx60, ha60, hb60⟩ := h
      refine pw_icmp_ne (tgt := 73) (pc := 60) hG d_Mo_isDigitRead_60 (by decide) hrx60 (q_lit rfl) (fun hc60 => ?_) (fun hc60 => ?_)
      · replace h := ha60 hc60
        refine pw_iconst (pc := 73) hG d_Mo_isDigitRead_73 ?_
        refine p10_16 (pc := 74) hG m_818 d_Mo_isDigitRead_74 o0 (fun S74 eS74 => ?_)
        replace h := h S74 eS74
        refine pw_iconst (pc := 77) hG d_Mo_isDigitRead_77 ?_
        exact hR 78 _ _ _ d_Mo_isDigitRead_78 (Or.inr rfl) h
      · replace h := hb60 hc60
        refine pw_iload_n (pc := 63) hG d_Mo_isDigitRead_63 rfl ?_
        refine pw_bipush (pc := 64) hG d_Mo_isDigitRead_64 (by decide) ?_
        obtain ⟨hrx66, ha66, hb66⟩ := h
        refine pw_icmp_eq (tgt := 73) (pc := 66) hG d_Mo_isDigitRead_66 (by decide) hrx66 (q_lit rfl) (fun hc66 => ?_) (fun hc66 => ?_)
        · replace h := ha66 hc66
          refine pw_iconst (pc := 73) hG d_Mo_isDigitRead_73 ?_
          refine p10_16 (pc := 74) hG m_818 d_Mo_isDigitRead_74 o0 (fun S74 eS74 => ?_)
          replace h := h S74 eS74
          refine pw_iconst (pc := 77) hG d_Mo_isDigitRead_77 ?_
          exact hR 78 _ _ _ d_Mo_isDigitRead_78 (Or.inr rfl) h
        · replace h := hb66 hc66
          refine pw_iconst (pc := 69) hG d_Mo_isDigitRead_69 ?_
          refine pw_goto (tgt := 74) (pc := 70) hG d_Mo_isDigitRead_70 (by decide) ?_
          refine p10_16 (pc := 74) hG m_818 d_Mo_isDigitRead_74 o0 (fun S74 eS74 => ?_)
          replace h := h S74 eS74
          refine pw_iconst (pc := 77) hG d_Mo_isDigitRead_77 ?_
          exact hR 78 _ _ _ d_Mo_isDigitRead_78 (Or.inr rfl) h
    · replace h := hb16 hc16
      refine pw_iconst (pc := 19) hG d_Mo_isDigitRead_19 ?_
      exact hR 20 _ _ _ d_Mo_isDigitRead_20 (Or.inl rfl) h
theorem ct_Mo_isDigitRead (l : Launch) (Δ : QDl) {Λ : QLay} (hΛ : LayOk Λ) {v0 : Nat} {v1 : Int} {S : QMem} {Q : Int → QMem → Prop} (o0 : qob Λ 10 v0) (h : w_Mo_isDigitRead Λ v0 v1 S Q) : QCt l y_Mo_isDigitRead c_Mo_isDigitRead 3 (some .boolean) 1 22 Δ Λ [.ref v0, vI v1] S (qI Q) :=
  QCt.mk (own := "TreeDifferModel") hΛ (by decide) rfl rfl (Nat.le_of_ble_eq_true rfl) (fun G hG ri rz rv rj ra => b_Mo_isDigitRead_0 hG (fun pc lv x S d hb hq => rz pc lv x S rfl d hb ⟨x, rfl, hq⟩) v0 v1 S o0 h)
theorem k_Mo_isOther : QVf y_Mo_isOther c_Mo_isOther 2 (some .boolean) "TreeDifferModel" 1 := ⟨m_971, m_p42, m_11, m_972, by decide +kernel⟩
theorem b_Mo_isOther_95 {Λ : QLay} {G : Nat → List (Nat × Value) → List Value → QMem → Prop} {Q : Int → QMem → Prop} (hG : QAct c_Mo_isOther "TreeDifferModel" 2 { frames := 0, cells := 0, slots := 0, locals := 0 } Λ G) (hR : RtZ c_Mo_isOther G Q) (v0 : Nat) (s0 : Nat) (s1 : Int) (S : QMem) (o_v0 : qob Λ 10 v0) (o_s0 : qob Λ 10 s0) (h : w_Mo_isOther_95 Λ Q v0 s0 s1 S) : G 95 [(0, .ref v0)] [vI s1, .ref s0] S := by
  have hΛ := hG.lay
  unfold w_Mo_isOther_95 at h
  obtain ⟨hb95, h⟩ := h
  refine p10_17 (pc := 95) hG m_819 d_Mo_isOther_95 o_s0 hb95 (fun S95 eS95 => ?_)
  replace h := h S95 eS95
  refine pw_aload_n (pc := 98) hG d_Mo_isOther_98 rfl ?_
  refine pw_dup (pc := 99) hG d_Mo_isOther_99 rfl ?_
  refine g10_15 (pc := 100) hG m_817 d_Mo_isOther_100 o_v0 ?_
  refine pw_aload_n (pc := 103) hG d_Mo_isOther_103 rfl ?_
  refine g10_17 (pc := 104) hG m_819 d_Mo_isOther_104 o_v0 ?_
  obtain ⟨hrx107, ha107, hb107⟩ := h
  refine pw_if_eq (tgt := 114) (pc := 107) hG d_Mo_isOther_107 (by decide) hrx107 (fun hc107 => ?_) (fun hc107 => ?_)
  · replace h := ha107 hc107
    refine pw_iconst (pc := 114) hG d_Mo_isOther_114 ?_
    refine pw_isub (pc := 115) hG d_Mo_isOther_115 ?_
    refine p10_15 (pc := 116) hG m_817 d_Mo_isOther_116 o_v0 (fun S116 eS116 => ?_)
    replace h := h S116 eS116
    refine pw_iconst (pc := 119) hG d_Mo_isOther_119 ?_
    exact hR 120 _ _ _ d_Mo_isOther_120 (Or.inr rfl) h
  · replace h := hb107 hc107
    refine pw_iconst (pc := 110) hG d_Mo_isOther_110 ?_
    refine pw_goto (tgt := 115) (pc := 111) hG d_Mo_isOther_111 (by decide) ?_
    refine pw_isub (pc := 115) hG d_Mo_isOther_115 ?_
    refine p10_15 (pc := 116) hG m_817 d_Mo_isOther_116 o_v0 (fun S116 eS116 => ?_)
    replace h := h S116 eS116
    refine pw_iconst (pc := 119) hG d_Mo_isOther_119 ?_
    exact hR 120 _ _ _ d_Mo_isOther_120 (Or.inr rfl) h
theorem b_Mo_isOther_80 {Λ : QLay} {G : Nat → List (Nat × Value) → List Value → QMem → Prop} {Q : Int → QMem → Prop} (hG : QAct c_Mo_isOther "TreeDifferModel" 2 { frames := 0, cells := 0, slots := 0, locals := 0 } Λ G) (hR : RtZ c_Mo_isOther G Q) (v0 : Nat) (v1 : Int) (s0 : Nat) (s1 : Int) (S : QMem) (o_v0 : qob Λ 10 v0) (o_s0 : qob Λ 10 s0) (h : w_Mo_isOther_80 Λ Q v0 v1 s0 s1 S) : G 80 [(0, .ref v0), (1, vI v1)] [vI s1, .ref s0] S := by
  have hΛ := hG.lay
  unfold w_Mo_isOther_80 at h
  refine p10_16 (pc := 80) hG m_818 d_Mo_isOther_80 o_s0 (fun S80 eS80 => ?_)
  replace h := h S80 eS80
  refine pw_aload_n (pc := 83) hG d_Mo_isOther_83 rfl ?_
  refine pw_iload_n (pc := 84) hG d_Mo_isOther_84 rfl ?_
  refine pw_bipush (pc := 85) hG d_Mo_isOther_85 (by decide) ?_
  obtain ⟨hrx87, ha87, hb87⟩ := h
  refine pw_icmp_ne (tgt := 94) (pc := 87) hG d_Mo_isOther_87 (by decide) hrx87 (q_lit rfl) (fun hc87 => ?_) (fun hc87 => ?_)
  · replace h := ha87 hc87
    refine pw_iconst (pc := 94) hG d_Mo_isOther_94 ?_
    exact pw_sub hG [0] rfl (b_Mo_isOther_95 hG hR v0 v0 0 S80 o_v0 o_v0 h)
  · replace h := hb87 hc87
    refine pw_iconst (pc := 90) hG d_Mo_isOther_90 ?_
    refine pw_goto (tgt := 95) (pc := 91) hG d_Mo_isOther_91 (by decide) ?_
    exact pw_sub hG [0] rfl (b_Mo_isOther_95 hG hR v0 v0 1 S80 o_v0 o_v0 h)
theorem b_Mo_isOther_68 {Λ : QLay} {G : Nat → List (Nat × Value) → List Value → QMem → Prop} {Q : Int → QMem → Prop} (hG : QAct c_Mo_isOther "TreeDifferModel" 2 { frames := 0, cells := 0, slots := 0, locals := 0 } Λ G) (hR : RtZ c_Mo_isOther G Q) (v0 : Nat) (v1 : Int) (S : QMem) (o_v0 : qob Λ 10 v0) (h : w_Mo_isOther_68 Λ Q v0 v1 S) : G 68 [(0, .ref v0), (1, vI v1)] [] S := by
  have hΛ := hG.lay
  unfold w_Mo_isOther_68 at h
  refine pw_aload_n (pc := 68) hG d_Mo_isOther_68 rfl ?_
  refine pw_iload_n (pc := 69) hG d_Mo_isOther_69 rfl ?_
  refine pw_bipush (pc := 70) hG d_Mo_isOther_70 (by decide) ?_
  obtain ⟨hrx72, ha72, hb72⟩ := h
  refine pw_icmp_ne (tgt := 79) (pc := 72) hG d_Mo_isOther_72 (by decide) hrx72 (q_lit rfl) (fun hc72 => ?_) (fun hc72 => ?_)
  · replace h := ha72 hc72
    refine pw_iconst (pc := 79) hG d_Mo_isOther_79 ?_
    exact pw_sub hG [0, 1] rfl (b_Mo_isOther_80 hG hR v0 v1 v0 3 S o_v0 o_v0 h)
  · replace h := hb72 hc72
    refine pw_iconst (pc := 75) hG d_Mo_isOther_75 ?_
    refine pw_goto (tgt := 80) (pc := 76) hG d_Mo_isOther_76 (by decide) ?_
    exact pw_sub hG [0, 1] rfl (b_Mo_isOther_80 hG hR v0 v1 v0 0 S o_v0 o_v0 h)
theorem b_Mo_isOther_47 {Λ : QLay} {G : Nat → List (Nat × Value) → List Value → QMem → Prop} {Q : Int → QMem → Prop} (hG : QAct c_Mo_isOther "TreeDifferModel" 2 { frames := 0, cells := 0, slots := 0, locals := 0 } Λ G) (hR : RtZ c_Mo_isOther G Q) (v0 : Nat) (v1 : Int) (S : QMem) (o_v0 : qob Λ 10 v0) (h : w_Mo_isOther_47 Λ Q v0 v1 S) : G 47 [(0, .ref v0), (1, vI v1)] [] S := by
  have hΛ := hG.lay
  unfold w_Mo_isOther_47 at h
  refine pw_aload_n (pc := 47) hG d_Mo_isOther_47 rfl ?_
  refine g10_15 (pc := 48) hG m_817 d_Mo_isOther_48 o_v0 ?_
  obtain ⟨hrx51, ha51, hb51⟩ := h
  refine pw_if_eq (tgt := 66) (pc := 51) hG d_Mo_isOther_51 (by decide) hrx51 (fun hc51 => ?_) (fun hc51 => ?_)
  · replace h := ha51 hc51
    refine pw_iconst (pc := 66) hG d_Mo_isOther_66 ?_
    exact hR 67 _ _ _ d_Mo_isOther_67 (Or.inl rfl) h
  · replace h := hb51 hc51
    refine pw_iload_n (pc := 54) hG d_Mo_isOther_54 rfl ?_
    refine pw_bipush (pc := 55) hG d_Mo_isOther_55 (by decide) ?_
    obtain ⟨hrx57, ha57, hb57⟩ := h
    refine pw_icmp_eq (tgt := 68) (pc := 57) hG d_Mo_isOther_57 (by decide) hrx57 (q_lit rfl) (fun hc57 => ?_) (fun hc57 => ?_)
    · replace h := ha57 hc57
      exact pw_sub hG [0, 1] rfl (b_Mo_isOther_68 hG hR v0 v1 S o_v0 h)
    · replace h := hb57 hc57
      refine pw_iload_n (pc := 60) hG d_Mo_isOther_60 rfl ?_
      refine pw_bipush (pc := 61) hG d_Mo_isOther_61 (by decide) ?_
      obtain ⟨hrx63, ha63, hb63⟩ := h
      refine pw_icmp_eq (tgt := 68) (pc := 63) hG d_Mo_isOther_63 (by decide) hrx63 (q_lit rfl) (fun hc63 => ?_) (fun hc63 => ?_)
      · replace h := ha63 hc63
        exact pw_sub hG [0, 1] rfl (b_Mo_isOther_68 hG hR v0 v1 S o_v0 h)
      · replace h := hb63 hc63
        refine pw_iconst (pc := 66) hG d_Mo_isOther_66 ?_
        exact hR 67 _ _ _ d_Mo_isOther_67 (Or.inl rfl) h
theorem b_Mo_isOther_0 {Λ : QLay} {G : Nat → List (Nat × Value) → List Value → QMem → Prop} {Q : Int → QMem → Prop} (hG : QAct c_Mo_isOther "TreeDifferModel" 2 { frames := 0, cells := 0, slots := 0, locals := 0 } Λ G) (hR : RtZ c_Mo_isOther G Q) (v0 : Nat) (v1 : Int) (S : QMem) (o0 : qob Λ 10 v0) (h : w_Mo_isOther Λ v0 v1 S Q) : G 0 [(0, .ref v0), (1, vI v1)] [] S := by
  have hΛ := hG.lay
  unfold w_Mo_isOther at h
  refine pw_iload_n (pc := 0) hG d_Mo_isOther_0 rfl ?_
  refine pw_bipush (pc := 1) hG d_Mo_isOther_1 (by decide) ?_
  obtain ⟨hrx3, ha3, hb3⟩ := h
  refine pw_icmp_ne (tgt := 47) (pc := 3) hG d_Mo_isOther_3 (by decide) hrx3 (q_lit rfl) (fun hc3 => ?_) (fun hc3 => ?_)
  · replace h := ha3 hc3
    exact pw_sub hG [0, 1] rfl (b_Mo_isOther_47 hG hR v0 v1 S o0 h)
  · replace h := hb3 hc3
    refine pw_aload_n (pc := 6) hG d_Mo_isOther_6 rfl ?_
    refine g10_17 (pc := 7) hG m_819 d_Mo_isOther_7 o0 ?_
    obtain ⟨hrx10, ha10, hb10⟩ := h
    refine pw_if_ne (tgt := 47) (pc := 10) hG d_Mo_isOther_10 (by decide) hrx10 (fun hc10 => ?_) (fun hc10 => ?_)
    · replace h := ha10 hc10
      exact pw_sub hG [0, 1] rfl (b_Mo_isOther_47 hG hR v0 v1 S o0 h)
    · replace h := hb10 hc10
      refine pw_aload_n (pc := 13) hG d_Mo_isOther_13 rfl ?_
      refine g10_14 (pc := 14) hG m_816 d_Mo_isOther_14 o0 ?_
      refine pw_aload_n (pc := 17) hG d_Mo_isOther_17 rfl ?_
      refine g10_15 (pc := 18) hG m_817 d_Mo_isOther_18 o0 ?_
      refine pw_aload_n (pc := 21) hG d_Mo_isOther_21 rfl ?_
      refine g10_0 (pc := 22) hG m_802 d_Mo_isOther_22 o0 ?_
      refine pw_iconst (pc := 25) hG d_Mo_isOther_25 ?_
      refine pw_aI (pc := 26) hG (q_arr hΛ o0 rfl (by decide)) (by decide) d_Mo_isOther_26 ?_
      refine pw_iconst (pc := 27) hG d_Mo_isOther_27 ?_
      refine pw_isub (pc := 28) hG d_Mo_isOther_28 ?_
      obtain ⟨hi29, h⟩ := h
      refine pw_sI (pc := 29) hG (q_arr hΛ o0 rfl (by decide)) hi29 d_Mo_isOther_29 (fun S29 eS29 => ?_)
      replace h := h S29 eS29
      refine pw_aload_n (pc := 30) hG d_Mo_isOther_30 rfl ?_
      refine pw_dup (pc := 31) hG d_Mo_isOther_31 rfl ?_
      refine g10_15 (pc := 32) hG m_817 d_Mo_isOther_32 o0 ?_
      refine pw_iconst (pc := 35) hG d_Mo_isOther_35 ?_
      refine pw_iadd (pc := 36) hG d_Mo_isOther_36 ?_
      refine p10_15 (pc := 37) hG m_817 d_Mo_isOther_37 o0 (fun S37 eS37 => ?_)
      replace h := h S37 eS37
      refine pw_aload_n (pc := 40) hG d_Mo_isOther_40 rfl ?_
      refine pw_iconst (pc := 41) hG d_Mo_isOther_41 ?_
      refine p10_16 (pc := 42) hG m_818 d_Mo_isOther_42 o0 (fun S42 eS42 => ?_)
      replace h := h S42 eS42
      refine pw_iconst (pc := 45) hG d_Mo_isOther_45 ?_
      exact hR 46 _ _ _ d_Mo_isOther_46 (Or.inr rfl) h
theorem ct_Mo_isOther (l : Launch) (Δ : QDl) {Λ : QLay} (hΛ : LayOk Λ) {v0 : Nat} {v1 : Int} {S : QMem} {Q : Int → QMem → Prop} (o0 : qob Λ 10 v0) (h : w_Mo_isOther Λ v0 v1 S Q) : QCt l y_Mo_isOther c_Mo_isOther 2 (some .boolean) 0 0 Δ Λ [.ref v0, vI v1] S (qI Q) :=
  QCt.mk (own := "TreeDifferModel") hΛ (by decide) rfl rfl (Nat.le_of_ble_eq_true rfl) (fun G hG ri rz rv rj ra => b_Mo_isOther_0 hG (fun pc lv x S d hb hq => rz pc lv x S rfl d hb ⟨x, rfl, hq⟩) v0 v1 S o0 h)
theorem k_Mo_isText : QVf y_Mo_isText c_Mo_isText 3 (some .boolean) "TreeDifferModel" 0 := ⟨m_955, m_p38, m_11, m_956, by decide +kernel⟩
theorem b_Mo_isText_92 {Λ : QLay} {G : Nat → List (Nat × Value) → List Value → QMem → Prop} {Q : Int → QMem → Prop} (hG : QAct c_Mo_isText "TreeDifferModel" 3 { frames := 2, cells := 0, slots := 0, locals := 44 } Λ G) (hR : RtZ c_Mo_isText G Q) {K29 : Nat → Int → QMem → Prop} (hK29 : ∀ (v0 : Nat) (v1 : Int) (S : QMem), qob Λ 10 v0 → K29 v0 v1 S → G 29 [(0, .ref v0), (1, vI v1)] [] S) (v0 : Nat) (v1 : Int) (S : QMem) (o_v0 : qob Λ 10 v0) (h : w_Mo_isText_92 Λ K29 Q v0 v1 S) : G 92 [(0, .ref v0), (1, vI v1)] [] S := by
  have hΛ := hG.lay
  unfold w_Mo_isText_92 at h
  refine pw_aload_n (pc := 92) hG d_Mo_isText_92 rfl ?_
  refine pw_dup (pc := 93) hG d_Mo_isText_93 rfl ?_
  refine g10_13 (pc := 94) hG m_815 d_Mo_isText_94 o_v0 ?_
  refine pw_iload_n (pc := 97) hG d_Mo_isText_97 rfl ?_
  obtain ⟨hrx98, ha98, hb98⟩ := h
  refine pw_if_eq (tgt := 105) (pc := 98) hG d_Mo_isText_98 (by decide) hrx98 (fun hc98 => ?_) (fun hc98 => ?_)
  · replace h := ha98 hc98
    refine pw_iconst (pc := 105) hG d_Mo_isText_105 ?_
    refine pw_iadd (pc := 106) hG d_Mo_isText_106 ?_
    refine p10_13 (pc := 107) hG m_815 d_Mo_isText_107 o_v0 (fun S107 eS107 => ?_)
    replace h := h S107 eS107
    refine pw_goto (tgt := 29) (pc := 110) hG d_Mo_isText_110 (by decide) ?_
    exact pw_sub hG [0, 1] rfl (hK29 v0 v1 S107 o_v0 h)
  · replace h := hb98 hc98
    refine pw_iconst (pc := 101) hG d_Mo_isText_101 ?_
    refine pw_goto (tgt := 106) (pc := 102) hG d_Mo_isText_102 (by decide) ?_
    refine pw_iadd (pc := 106) hG d_Mo_isText_106 ?_
    refine p10_13 (pc := 107) hG m_815 d_Mo_isText_107 o_v0 (fun S107 eS107 => ?_)
    replace h := h S107 eS107
    refine pw_goto (tgt := 29) (pc := 110) hG d_Mo_isText_110 (by decide) ?_
    exact pw_sub hG [0, 1] rfl (hK29 v0 v1 S107 o_v0 h)
theorem b_Mo_isText_91 {Λ : QLay} {G : Nat → List (Nat × Value) → List Value → QMem → Prop} {Q : Int → QMem → Prop} (hG : QAct c_Mo_isText "TreeDifferModel" 3 { frames := 2, cells := 0, slots := 0, locals := 44 } Λ G) (hR : RtZ c_Mo_isText G Q) {K29 : Nat → Int → QMem → Prop} (hK29 : ∀ (v0 : Nat) (v1 : Int) (S : QMem), qob Λ 10 v0 → K29 v0 v1 S → G 29 [(0, .ref v0), (1, vI v1)] [] S) (v0 : Nat) (s0 : Int) (S : QMem) (o_v0 : qob Λ 10 v0) (h : w_Mo_isText_91 Λ K29 Q v0 s0 S) : G 91 [(0, .ref v0)] [vI s0] S := by
  have hΛ := hG.lay
  unfold w_Mo_isText_91 at h
  refine pw_ist_n (pc := 91) hG d_Mo_isText_91 (by decide) rfl ?_
  exact pw_sub hG [0, 1] rfl (b_Mo_isText_92 hG hR hK29 v0 s0 S o_v0 h)
theorem b_Mo_isText_86 {Λ : QLay} {G : Nat → List (Nat × Value) → List Value → QMem → Prop} {Q : Int → QMem → Prop} (hG : QAct c_Mo_isText "TreeDifferModel" 3 { frames := 2, cells := 0, slots := 0, locals := 44 } Λ G) (hR : RtZ c_Mo_isText G Q) {K29 : Nat → Int → QMem → Prop} (hK29 : ∀ (v0 : Nat) (v1 : Int) (S : QMem), qob Λ 10 v0 → K29 v0 v1 S → G 29 [(0, .ref v0), (1, vI v1)] [] S) (v0 : Nat) (S : QMem) (o_v0 : qob Λ 10 v0) (h : w_Mo_isText_86 Λ K29 Q v0 S) : G 86 [(0, .ref v0)] [] S := by
  have hΛ := hG.lay
  unfold w_Mo_isText_86 at h
  refine pw_iconst (pc := 86) hG d_Mo_isText_86 ?_
  refine pw_goto (tgt := 91) (pc := 87) hG d_Mo_isText_87 (by decide) ?_
  exact pw_sub hG [0] rfl (b_Mo_isText_91 hG hR hK29 v0 1 S o_v0 h)
theorem b_Mo_isText_113 {Λ : QLay} {G : Nat → List (Nat × Value) → List Value → QMem → Prop} {Q : Int → QMem → Prop} (hG : QAct c_Mo_isText "TreeDifferModel" 3 { frames := 2, cells := 0, slots := 0, locals := 44 } Λ G) (hR : RtZ c_Mo_isText G Q) (v0 : Nat) (v1 : Int) (S : QMem) (o_v0 : qob Λ 10 v0) (h : w_Mo_isText_113 Λ Q v0 v1 S) : G 113 [(0, .ref v0), (1, vI v1)] [] S := by
  have hΛ := hG.lay
  unfold w_Mo_isText_113 at h
  refine pw_iload_n (pc := 113) hG d_Mo_isText_113 rfl ?_
  obtain ⟨hrx114, ha114, hb114⟩ := h
  refine pw_if_eq (tgt := 135) (pc := 114) hG d_Mo_isText_114 (by decide) hrx114 (fun hc114 => ?_) (fun hc114 => ?_)
  · replace h := ha114 hc114
    refine pw_iconst (pc := 135) hG d_Mo_isText_135 ?_
    exact hR 136 _ _ _ d_Mo_isText_136 (Or.inl rfl) h
  · replace h := hb114 hc114
    refine pw_aload_n (pc := 117) hG d_Mo_isText_117 rfl ?_
    refine g10_16 (pc := 118) hG m_818 d_Mo_isText_118 o_v0 ?_
    obtain ⟨hrx121, ha121, hb121⟩ := h
    refine pw_if_le (tgt := 135) (pc := 121) hG d_Mo_isText_121 (by decide) hrx121 (fun hc121 => ?_) (fun hc121 => ?_)
    · replace h := ha121 hc121
      refine pw_iconst (pc := 135) hG d_Mo_isText_135 ?_
      exact hR 136 _ _ _ d_Mo_isText_136 (Or.inl rfl) h
    · replace h := hb121 hc121
      refine pw_aload_n (pc := 124) hG d_Mo_isText_124 rfl ?_
      refine g10_15 (pc := 125) hG m_817 d_Mo_isText_125 o_v0 ?_
      obtain ⟨hrx128, ha128, hb128⟩ := h
      refine pw_if_ne (tgt := 135) (pc := 128) hG d_Mo_isText_128 (by decide) hrx128 (fun hc128 => ?_) (fun hc128 => ?_)
      · replace h := ha128 hc128
        refine pw_iconst (pc := 135) hG d_Mo_isText_135 ?_
        exact hR 136 _ _ _ d_Mo_isText_136 (Or.inl rfl) h
      · replace h := hb128 hc128
        refine pw_iconst (pc := 131) hG d_Mo_isText_131 ?_
        refine pw_goto (tgt := 136) (pc := 132) hG d_Mo_isText_132 (by decide) ?_
        exact hR 136 _ _ _ d_Mo_isText_136 (Or.inr rfl) h
theorem b_Mo_isText_29 {Λ : QLay} {G : Nat → List (Nat × Value) → List Value → QMem → Prop} {Q : Int → QMem → Prop} (hG : QAct c_Mo_isText "TreeDifferModel" 3 { frames := 2, cells := 0, slots := 0, locals := 44 } Λ G) (hR : RtZ c_Mo_isText G Q) : ∀ (n : Nat) (v0 : Nat) (v1 : Int) (S : QMem), qob Λ 10 v0 → w_Mo_isText_29 Λ Q n v0 v1 S → G 29 [(0, .ref v0), (1, vI v1)] [] S := by
  have hΛ := hG.lay
  intro n
  induction n with
  | zero => intro v0 v1 S o_v0 h; exact h.elim
  | succ n ih =>
    intro v0 v1 S o_v0 h
    rw [w_Mo_isText_29] at h
    refine pw_iload_n (pc := 29) hG d_Mo_isText_29 rfl ?_
    obtain ⟨hrx30, ha30, hb30⟩ := h
    refine pw_if_eq (tgt := 113) (pc := 30) hG d_Mo_isText_30 (by decide) hrx30 (fun hc30 => ?_) (fun hc30 => ?_)
    · replace h := ha30 hc30
      exact pw_sub hG [0, 1] rfl (b_Mo_isText_113 hG hR v0 v1 S o_v0 h)
    · replace h := hb30 hc30
      refine pw_aload_n (pc := 33) hG d_Mo_isText_33 rfl ?_
      refine g10_13 (pc := 34) hG m_815 d_Mo_isText_34 o_v0 ?_
      refine pw_aload_n (pc := 37) hG d_Mo_isText_37 rfl ?_
      refine g10_10 (pc := 38) hG m_812 d_Mo_isText_38 o_v0 ?_
      obtain ⟨hrx41, hry41, ha41, hb41⟩ := h
      refine pw_icmp_ge (tgt := 113) (pc := 41) hG d_Mo_isText_41 (by decide) hrx41 hry41 (fun hc41 => ?_) (fun hc41 => ?_)
      · replace h := ha41 hc41
        exact pw_sub hG [0, 1] rfl (b_Mo_isText_113 hG hR v0 v1 S o_v0 h)
      · replace h := hb41 hc41
        refine pw_aload_n (pc := 44) hG d_Mo_isText_44 rfl ?_
        refine pw_calli (pc := 45) hG (fun l Δ => ct_Mo_here l Δ hΛ o_v0 h) o_v0 rfl (by decide) m_957 k_Mo_here rfl ⟨by decide, by decide⟩ (Nat.le_of_ble_eq_true rfl) d_Mo_isText_45 rfl (fun r45 S45 h => ?_)
        refine pw_ist_n (pc := 48) hG d_Mo_isText_48 (by decide) rfl ?_
        refine pw_aload_n (pc := 49) hG d_Mo_isText_49 rfl ?_
        refine g10_16 (pc := 50) hG m_818 d_Mo_isText_50 o_v0 ?_
        obtain ⟨hrx53, ha53, hb53⟩ := h
        refine pw_if_ne (tgt := 70) (pc := 53) hG d_Mo_isText_53 (by decide) hrx53 (fun hc53 => ?_) (fun hc53 => ?_)
        · replace h := ha53 hc53
          refine pw_aload_n (pc := 70) hG d_Mo_isText_70 rfl ?_
          refine pw_iload_n (pc := 71) hG d_Mo_isText_71 rfl ?_
          refine pw_calli (pc := 72) hG (fun l Δ => ct_Mo_isDigitRead l Δ hΛ o_v0 h) o_v0 rfl (by decide) m_965 k_Mo_isDigitRead rfl ⟨by decide, by decide⟩ (Nat.le_of_ble_eq_true rfl) d_Mo_isText_72 rfl (fun r72 S72 h => ?_)
          obtain ⟨hrx75, ha75, hb75⟩ := h
          refine pw_if_ne (tgt := 86) (pc := 75) hG d_Mo_isText_75 (by decide) hrx75 (fun hc75 => ?_) (fun hc75 => ?_)
          · replace h := ha75 hc75
            exact pw_sub hG [0] rfl (b_Mo_isText_86 hG hR ih v0 S72 o_v0 h)
          · replace h := hb75 hc75
            refine pw_aload_n (pc := 78) hG d_Mo_isText_78 rfl ?_
            refine pw_iload_n (pc := 79) hG d_Mo_isText_79 rfl ?_
            refine pw_calli (pc := 80) hG (fun l Δ => ct_Mo_isOther l Δ hΛ o_v0 h) o_v0 rfl (by decide) m_969 k_Mo_isOther rfl ⟨by decide, by decide⟩ (Nat.le_of_ble_eq_true rfl) d_Mo_isText_80 rfl (fun r80 S80 h => ?_)
            obtain ⟨hrx83, ha83, hb83⟩ := h
            refine pw_if_eq (tgt := 90) (pc := 83) hG d_Mo_isText_83 (by decide) hrx83 (fun hc83 => ?_) (fun hc83 => ?_)
            · replace h := ha83 hc83
              refine pw_iconst (pc := 90) hG d_Mo_isText_90 ?_
              exact pw_sub hG [0] rfl (b_Mo_isText_91 hG hR ih v0 0 S80 o_v0 h)
            · replace h := hb83 hc83
              exact pw_sub hG [0] rfl (b_Mo_isText_86 hG hR ih v0 S80 o_v0 h)
        · replace h := hb53 hc53
          refine pw_aload_n (pc := 56) hG d_Mo_isText_56 rfl ?_
          refine pw_iconst (pc := 57) hG d_Mo_isText_57 ?_
          refine p10_17 (pc := 58) hG m_819 d_Mo_isText_58 o_v0 (Or.inl rfl) (fun S58 eS58 => ?_)
          replace h := h S58 eS58
          refine pw_aload_n (pc := 61) hG d_Mo_isText_61 rfl ?_
          refine pw_iload_n (pc := 62) hG d_Mo_isText_62 rfl ?_
          refine pw_calli (pc := 63) hG (fun l Δ => ct_Mo_isLabelRead l Δ hΛ o_v0 h) o_v0 rfl (by decide) m_961 k_Mo_isLabelRead rfl ⟨by decide, by decide⟩ (Nat.le_of_ble_eq_true rfl) d_Mo_isText_63 rfl (fun r63 S63 h => ?_)
          refine pw_ist_n (pc := 66) hG d_Mo_isText_66 (by decide) rfl ?_
          refine pw_goto (tgt := 92) (pc := 67) hG d_Mo_isText_67 (by decide) ?_
          exact pw_sub hG [0, 1] rfl (b_Mo_isText_92 hG hR ih v0 r63 S63 o_v0 h)
theorem b_Mo_isText_0 {Λ : QLay} {G : Nat → List (Nat × Value) → List Value → QMem → Prop} {Q : Int → QMem → Prop} (hG : QAct c_Mo_isText "TreeDifferModel" 3 { frames := 2, cells := 0, slots := 0, locals := 44 } Λ G) (hR : RtZ c_Mo_isText G Q) (v0 : Nat) (S : QMem) (o0 : qob Λ 10 v0) (h : w_Mo_isText Λ v0 S Q) : G 0 [(0, .ref v0)] [] S := by
  have hΛ := hG.lay
  unfold w_Mo_isText at h
  refine pw_aload_n (pc := 0) hG d_Mo_isText_0 rfl ?_
  refine pw_iconst (pc := 1) hG d_Mo_isText_1 ?_
  refine p10_13 (pc := 2) hG m_815 d_Mo_isText_2 o0 (fun S2 eS2 => ?_)
  replace h := h S2 eS2
  refine pw_aload_n (pc := 5) hG d_Mo_isText_5 rfl ?_
  refine pw_iconst (pc := 6) hG d_Mo_isText_6 ?_
  refine p10_15 (pc := 7) hG m_817 d_Mo_isText_7 o0 (fun S7 eS7 => ?_)
  replace h := h S7 eS7
  refine pw_aload_n (pc := 10) hG d_Mo_isText_10 rfl ?_
  refine pw_iconst (pc := 11) hG d_Mo_isText_11 ?_
  refine p10_16 (pc := 12) hG m_818 d_Mo_isText_12 o0 (fun S12 eS12 => ?_)
  replace h := h S12 eS12
  refine pw_aload_n (pc := 15) hG d_Mo_isText_15 rfl ?_
  refine pw_iconst (pc := 16) hG d_Mo_isText_16 ?_
  refine p10_17 (pc := 17) hG m_819 d_Mo_isText_17 o0 (Or.inl rfl) (fun S17 eS17 => ?_)
  replace h := h S17 eS17
  refine pw_aload_n (pc := 20) hG d_Mo_isText_20 rfl ?_
  refine g10_0 (pc := 21) hG m_802 d_Mo_isText_21 o0 ?_
  refine pw_iconst (pc := 24) hG d_Mo_isText_24 ?_
  refine pw_iconst (pc := 25) hG d_Mo_isText_25 ?_
  refine pw_sI (pc := 26) hG (q_arr hΛ o0 rfl (by decide)) (by decide) d_Mo_isText_26 (fun S26 eS26 => ?_)
  replace h := h S26 eS26
  refine pw_iconst (pc := 27) hG d_Mo_isText_27 ?_
  refine pw_ist_n (pc := 28) hG d_Mo_isText_28 (by decide) rfl ?_
  obtain ⟨n28, h⟩ := h
  exact pw_sub hG [0, 1] rfl (b_Mo_isText_29 hG hR n28 v0 1 S26 o0 h)
theorem ct_Mo_isText (l : Launch) (Δ : QDl) {Λ : QLay} (hΛ : LayOk Λ) {v0 : Nat} {S : QMem} {Q : Int → QMem → Prop} (o0 : qob Λ 10 v0) (h : w_Mo_isText Λ v0 S Q) : QCt l y_Mo_isText c_Mo_isText 3 (some .boolean) 2 44 Δ Λ [.ref v0] S (qI Q) :=
  QCt.mk (own := "TreeDifferModel") hΛ (by decide) rfl rfl (Nat.le_of_ble_eq_true rfl) (fun G hG ri rz rv rj ra => b_Mo_isText_0 hG (fun pc lv x S d hb hq => rz pc lv x S rfl d hb ⟨x, rfl, hq⟩) v0 S o0 h)
theorem k_Mo_faultPosition : QVf y_Mo_faultPosition c_Mo_faultPosition 1 (some .int) "TreeDifferModel" 0 := ⟨m_950, m_951, m_11, m_952, by decide +kernel⟩
theorem b_Mo_faultPosition_0 {Λ : QLay} {G : Nat → List (Nat × Value) → List Value → QMem → Prop} {Q : Int → QMem → Prop} (hG : QAct c_Mo_faultPosition "TreeDifferModel" 1 { frames := 3, cells := 0, slots := 0, locals := 66 } Λ G) (hR : RtI c_Mo_faultPosition G Q) (v0 : Nat) (S : QMem) (o0 : qob Λ 10 v0) (h : w_Mo_faultPosition Λ v0 S Q) : G 0 [(0, .ref v0)] [] S := by
  have hΛ := hG.lay
  unfold w_Mo_faultPosition at h
  refine pw_aload_n (pc := 0) hG d_Mo_faultPosition_0 rfl ?_
  refine pw_calli (pc := 1) hG (fun l Δ => ct_Mo_isText l Δ hΛ o0 h) o0 rfl (by decide) m_953 k_Mo_isText rfl ⟨by decide, by decide⟩ (Nat.le_of_ble_eq_true rfl) d_Mo_faultPosition_1 rfl (fun r1 S1 h => ?_)
  obtain ⟨hrx4, ha4, hb4⟩ := h
  refine pw_if_eq (tgt := 12) (pc := 4) hG d_Mo_faultPosition_4 (by decide) hrx4 (fun hc4 => ?_) (fun hc4 => ?_)
  · replace h := ha4 hc4
    refine pw_aload_n (pc := 12) hG d_Mo_faultPosition_12 rfl ?_
    refine g10_13 (pc := 13) hG m_815 d_Mo_faultPosition_13 o0 ?_
    exact hR 16 _ _ _ d_Mo_faultPosition_16 h
  · replace h := hb4 hc4
    refine pw_bipush (pc := 7) hG d_Mo_faultPosition_7 (by decide) ?_
    refine pw_goto (tgt := 16) (pc := 9) hG d_Mo_faultPosition_9 (by decide) ?_
    exact hR 16 _ _ _ d_Mo_faultPosition_16 h
theorem ct_Mo_faultPosition (l : Launch) (Δ : QDl) {Λ : QLay} (hΛ : LayOk Λ) {v0 : Nat} {S : QMem} {Q : Int → QMem → Prop} (o0 : qob Λ 10 v0) (h : w_Mo_faultPosition Λ v0 S Q) : QCt l y_Mo_faultPosition c_Mo_faultPosition 1 (some .int) 3 66 Δ Λ [.ref v0] S (qI Q) :=
  QCt.mk (own := "TreeDifferModel") hΛ (by decide) rfl rfl (Nat.le_of_ble_eq_true rfl) (fun G hG ri rz rv rj ra => b_Mo_faultPosition_0 hG (fun pc lv x S d hq => ri pc lv x S rfl d ⟨x, rfl, hq⟩) v0 S o0 h)
theorem k_Mo_faultDepth : QVf y_Mo_faultDepth c_Mo_faultDepth 1 (some .int) "TreeDifferModel" 0 := ⟨m_974, m_975, m_11, m_976, by decide +kernel⟩
theorem b_Mo_faultDepth_0 {Λ : QLay} {G : Nat → List (Nat × Value) → List Value → QMem → Prop} {Q : Int → QMem → Prop} (hG : QAct c_Mo_faultDepth "TreeDifferModel" 1 { frames := 3, cells := 0, slots := 0, locals := 66 } Λ G) (hR : RtI c_Mo_faultDepth G Q) (v0 : Nat) (S : QMem) (o0 : qob Λ 10 v0) (h : w_Mo_faultDepth Λ v0 S Q) : G 0 [(0, .ref v0)] [] S := by
  have hΛ := hG.lay
  unfold w_Mo_faultDepth at h
  refine pw_aload_n (pc := 0) hG d_Mo_faultDepth_0 rfl ?_
  refine pw_calli (pc := 1) hG (fun l Δ => ct_Mo_isText l Δ hΛ o0 h) o0 rfl (by decide) m_953 k_Mo_isText rfl ⟨by decide, by decide⟩ (Nat.le_of_ble_eq_true rfl) d_Mo_faultDepth_1 rfl (fun r1 S1 h => ?_)
  obtain ⟨hrx4, ha4, hb4⟩ := h
  refine pw_if_eq (tgt := 12) (pc := 4) hG d_Mo_faultDepth_4 (by decide) hrx4 (fun hc4 => ?_) (fun hc4 => ?_)
  · replace h := ha4 hc4
    refine pw_aload_n (pc := 12) hG d_Mo_faultDepth_12 rfl ?_
    refine g10_15 (pc := 13) hG m_817 d_Mo_faultDepth_13 o0 ?_
    exact hR 16 _ _ _ d_Mo_faultDepth_16 h
  · replace h := hb4 hc4
    refine pw_bipush (pc := 7) hG d_Mo_faultDepth_7 (by decide) ?_
    refine pw_goto (tgt := 16) (pc := 9) hG d_Mo_faultDepth_9 (by decide) ?_
    exact hR 16 _ _ _ d_Mo_faultDepth_16 h
theorem ct_Mo_faultDepth (l : Launch) (Δ : QDl) {Λ : QLay} (hΛ : LayOk Λ) {v0 : Nat} {S : QMem} {Q : Int → QMem → Prop} (o0 : qob Λ 10 v0) (h : w_Mo_faultDepth Λ v0 S Q) : QCt l y_Mo_faultDepth c_Mo_faultDepth 1 (some .int) 3 66 Δ Λ [.ref v0] S (qI Q) :=
  QCt.mk (own := "TreeDifferModel") hΛ (by decide) rfl rfl (Nat.le_of_ble_eq_true rfl) (fun G hG ri rz rv rj ra => b_Mo_faultDepth_0 hG (fun pc lv x S d hq => ri pc lv x S rfl d ⟨x, rfl, hq⟩) v0 S o0 h)
theorem k_Mo_copiesTree : QVf y_Mo_copiesTree c_Mo_copiesTree 4 none "TreeDifferModel" 2 := ⟨m_983, m_p43, m_11, m_984, by decide +kernel⟩
theorem b_Mo_copiesTree_14 {Λ : QLay} {G : Nat → List (Nat × Value) → List Value → QMem → Prop} {Q : QMem → Prop} (hG : QAct c_Mo_copiesTree "TreeDifferModel" 4 { frames := 1, cells := 0, slots := 0, locals := 21 } Λ G) (hR : RtV c_Mo_copiesTree G Q) : ∀ (n : Nat) (v0 : Nat) (v1 : Int) (v2 : Int) (v3 : Int) (S : QMem), qob Λ 10 v0 → w_Mo_copiesTree_14 Λ Q n v0 v1 v2 v3 S → G 14 [(0, .ref v0), (1, vI v1), (2, vI v2), (3, vI v3)] [] S := by
  have hΛ := hG.lay
  intro n
  induction n with
  | zero => intro v0 v1 v2 v3 S o_v0 h; exact h.elim
  | succ n ih =>
    intro v0 v1 v2 v3 S o_v0 h
    rw [w_Mo_copiesTree_14] at h
    refine pw_iload_n (pc := 14) hG d_Mo_copiesTree_14 rfl ?_
    refine pw_bipush (pc := 15) hG d_Mo_copiesTree_15 (by decide) ?_
    obtain ⟨hrx17, ha17, hb17⟩ := h
    refine pw_icmp_ge (tgt := 86) (pc := 17) hG d_Mo_copiesTree_17 (by decide) hrx17 (q_lit rfl) (fun hc17 => ?_) (fun hc17 => ?_)
    · replace h := ha17 hc17
      exact hR 86 _ _ d_Mo_copiesTree_86 h
    · replace h := hb17 hc17
      refine pw_aload_n (pc := 20) hG d_Mo_copiesTree_20 rfl ?_
      refine g10_1 (pc := 21) hG m_803 d_Mo_copiesTree_21 o_v0 ?_
      refine pw_iload_n (pc := 24) hG d_Mo_copiesTree_24 rfl ?_
      refine pw_iload_n (pc := 25) hG d_Mo_copiesTree_25 rfl ?_
      refine pw_scalli (pc := 26) hG (fun l Δ => ct_Mo_at l Δ hΛ  h) m_791 k_Mo_at rfl ⟨by decide, by decide⟩ (Nat.le_of_ble_eq_true rfl) d_Mo_copiesTree_26 rfl (fun r26 S26 h => ?_)
      refine pw_aload_n (pc := 29) hG d_Mo_copiesTree_29 rfl ?_
      refine g10_1 (pc := 30) hG m_803 d_Mo_copiesTree_30 o_v0 ?_
      refine pw_iload_n (pc := 33) hG d_Mo_copiesTree_33 rfl ?_
      refine pw_iload_n (pc := 34) hG d_Mo_copiesTree_34 rfl ?_
      refine pw_scalli (pc := 35) hG (fun l Δ => ct_Mo_at l Δ hΛ  h) m_791 k_Mo_at rfl ⟨by decide, by decide⟩ (Nat.le_of_ble_eq_true rfl) d_Mo_copiesTree_35 rfl (fun r35 S35 h => ?_)
      obtain ⟨hi38, h⟩ := h
      refine pw_aI (pc := 38) hG (q_arr hΛ o_v0 rfl (by decide)) hi38 d_Mo_copiesTree_38 ?_
      obtain ⟨hi39, h⟩ := h
      refine pw_sI (pc := 39) hG (q_arr hΛ o_v0 rfl (by decide)) hi39 d_Mo_copiesTree_39 (fun S39 eS39 => ?_)
      replace h := h S39 eS39
      refine pw_aload_n (pc := 40) hG d_Mo_copiesTree_40 rfl ?_
      refine g10_2 (pc := 41) hG m_804 d_Mo_copiesTree_41 o_v0 ?_
      refine pw_iload_n (pc := 44) hG d_Mo_copiesTree_44 rfl ?_
      refine pw_iload_n (pc := 45) hG d_Mo_copiesTree_45 rfl ?_
      refine pw_scalli (pc := 46) hG (fun l Δ => ct_Mo_at l Δ hΛ  h) m_791 k_Mo_at rfl ⟨by decide, by decide⟩ (Nat.le_of_ble_eq_true rfl) d_Mo_copiesTree_46 rfl (fun r46 S46 h => ?_)
      refine pw_aload_n (pc := 49) hG d_Mo_copiesTree_49 rfl ?_
      refine g10_2 (pc := 50) hG m_804 d_Mo_copiesTree_50 o_v0 ?_
      refine pw_iload_n (pc := 53) hG d_Mo_copiesTree_53 rfl ?_
      refine pw_iload_n (pc := 54) hG d_Mo_copiesTree_54 rfl ?_
      refine pw_scalli (pc := 55) hG (fun l Δ => ct_Mo_at l Δ hΛ  h) m_791 k_Mo_at rfl ⟨by decide, by decide⟩ (Nat.le_of_ble_eq_true rfl) d_Mo_copiesTree_55 rfl (fun r55 S55 h => ?_)
      obtain ⟨hi58, h⟩ := h
      refine pw_aI (pc := 58) hG (q_arr hΛ o_v0 rfl (by decide)) hi58 d_Mo_copiesTree_58 ?_
      obtain ⟨hi59, h⟩ := h
      refine pw_sI (pc := 59) hG (q_arr hΛ o_v0 rfl (by decide)) hi59 d_Mo_copiesTree_59 (fun S59 eS59 => ?_)
      replace h := h S59 eS59
      refine pw_aload_n (pc := 60) hG d_Mo_copiesTree_60 rfl ?_
      refine g10_3 (pc := 61) hG m_805 d_Mo_copiesTree_61 o_v0 ?_
      refine pw_iload_n (pc := 64) hG d_Mo_copiesTree_64 rfl ?_
      refine pw_iload_n (pc := 65) hG d_Mo_copiesTree_65 rfl ?_
      refine pw_scalli (pc := 66) hG (fun l Δ => ct_Mo_at l Δ hΛ  h) m_791 k_Mo_at rfl ⟨by decide, by decide⟩ (Nat.le_of_ble_eq_true rfl) d_Mo_copiesTree_66 rfl (fun r66 S66 h => ?_)
      refine pw_aload_n (pc := 69) hG d_Mo_copiesTree_69 rfl ?_
      refine g10_3 (pc := 70) hG m_805 d_Mo_copiesTree_70 o_v0 ?_
      refine pw_iload_n (pc := 73) hG d_Mo_copiesTree_73 rfl ?_
      refine pw_iload_n (pc := 74) hG d_Mo_copiesTree_74 rfl ?_
      refine pw_scalli (pc := 75) hG (fun l Δ => ct_Mo_at l Δ hΛ  h) m_791 k_Mo_at rfl ⟨by decide, by decide⟩ (Nat.le_of_ble_eq_true rfl) d_Mo_copiesTree_75 rfl (fun r75 S75 h => ?_)
      obtain ⟨hi78, h⟩ := h
      refine pw_aI (pc := 78) hG (q_arr hΛ o_v0 rfl (by decide)) hi78 d_Mo_copiesTree_78 ?_
      obtain ⟨hi79, h⟩ := h
      refine pw_sI (pc := 79) hG (q_arr hΛ o_v0 rfl (by decide)) hi79 d_Mo_copiesTree_79 (fun S79 eS79 => ?_)
      replace h := h S79 eS79
      refine pw_iinc0 (pc := 80) hG d_Mo_copiesTree_80 rfl (by decide) rfl ?_
      refine pw_goto (tgt := 14) (pc := 83) hG d_Mo_copiesTree_83 (by decide) ?_
      exact pw_sub hG [0, 1, 2, 3] rfl (ih v0 v1 v2 (v3 + 1) S79 o_v0 h)
theorem b_Mo_copiesTree_0 {Λ : QLay} {G : Nat → List (Nat × Value) → List Value → QMem → Prop} {Q : QMem → Prop} (hG : QAct c_Mo_copiesTree "TreeDifferModel" 4 { frames := 1, cells := 0, slots := 0, locals := 21 } Λ G) (hR : RtV c_Mo_copiesTree G Q) (v0 : Nat) (v1 : Int) (v2 : Int) (S : QMem) (o0 : qob Λ 10 v0) (h : w_Mo_copiesTree Λ v0 v1 v2 S Q) : G 0 [(0, .ref v0), (1, vI v1), (2, vI v2)] [] S := by
  have hΛ := hG.lay
  unfold w_Mo_copiesTree at h
  refine pw_aload_n (pc := 0) hG d_Mo_copiesTree_0 rfl ?_
  refine g10_0 (pc := 1) hG m_802 d_Mo_copiesTree_1 o0 ?_
  refine pw_iload_n (pc := 4) hG d_Mo_copiesTree_4 rfl ?_
  refine pw_aload_n (pc := 5) hG d_Mo_copiesTree_5 rfl ?_
  refine g10_0 (pc := 6) hG m_802 d_Mo_copiesTree_6 o0 ?_
  refine pw_iload_n (pc := 9) hG d_Mo_copiesTree_9 rfl ?_
  obtain ⟨hi10, h⟩ := h
  refine pw_aI (pc := 10) hG (q_arr hΛ o0 rfl (by decide)) hi10 d_Mo_copiesTree_10 ?_
  obtain ⟨hi11, h⟩ := h
  refine pw_sI (pc := 11) hG (q_arr hΛ o0 rfl (by decide)) hi11 d_Mo_copiesTree_11 (fun S11 eS11 => ?_)
  replace h := h S11 eS11
  refine pw_iconst (pc := 12) hG d_Mo_copiesTree_12 ?_
  refine pw_ist_n (pc := 13) hG d_Mo_copiesTree_13 (by decide) rfl ?_
  obtain ⟨n13, h⟩ := h
  exact pw_sub hG [0, 1, 2, 3] rfl (b_Mo_copiesTree_14 hG hR n13 v0 v1 v2 0 S11 o0 h)
theorem ct_Mo_copiesTree (l : Launch) (Δ : QDl) {Λ : QLay} (hΛ : LayOk Λ) {v0 : Nat} {v1 : Int} {v2 : Int} {S : QMem} {Q : QMem → Prop} (o0 : qob Λ 10 v0) (h : w_Mo_copiesTree Λ v0 v1 v2 S Q) : QCt l y_Mo_copiesTree c_Mo_copiesTree 4 none 1 21 Δ Λ [.ref v0, vI v1, vI v2] S (qV Q) :=
  QCt.mk (own := "TreeDifferModel") hΛ (by decide) rfl rfl (Nat.le_of_ble_eq_true rfl) (fun G hG ri rz rv rj ra => b_Mo_copiesTree_0 hG (fun pc lv S d hq => rv pc lv S rfl d ⟨rfl, hq⟩) v0 v1 v2 S o0 h)
theorem k_Mo_measures : QVf y_Mo_measures c_Mo_measures 5 none "TreeDifferModel" 1 := ⟨m_800, m_p37, m_11, m_801, by decide +kernel⟩
theorem b_Mo_measures_49 {Λ : QLay} {G : Nat → List (Nat × Value) → List Value → QMem → Prop} {Q : QMem → Prop} (hG : QAct c_Mo_measures "TreeDifferModel" 5 { frames := 1, cells := 0, slots := 0, locals := 21 } Λ G) (hR : RtV c_Mo_measures G Q) : ∀ (n : Nat) (v0 : Nat) (v1 : Int) (v2 : Int) (S : QMem), qob Λ 10 v0 → w_Mo_measures_49 Λ Q n v0 v1 v2 S → G 49 [(0, .ref v0), (1, vI v1), (2, vI v2)] [] S := by
  have hΛ := hG.lay
  intro n
  induction n with
  | zero => intro v0 v1 v2 S o_v0 h; exact h.elim
  | succ n ih =>
    intro v0 v1 v2 S o_v0 h
    rw [w_Mo_measures_49] at h
    refine pw_iload_n (pc := 49) hG d_Mo_measures_49 rfl ?_
    obtain ⟨hrx50, ha50, hb50⟩ := h
    refine pw_if_le (tgt := 135) (pc := 50) hG d_Mo_measures_50 (by decide) hrx50 (fun hc50 => ?_) (fun hc50 => ?_)
    · replace h := ha50 hc50
      exact hR 135 _ _ d_Mo_measures_135 h
    · replace h := hb50 hc50
      refine pw_iload_n (pc := 53) hG d_Mo_measures_53 rfl ?_
      refine pw_aload_n (pc := 54) hG d_Mo_measures_54 rfl ?_
      refine g10_3 (pc := 55) hG m_805 d_Mo_measures_55 o_v0 ?_
      refine pw_iload_n (pc := 58) hG d_Mo_measures_58 rfl ?_
      refine pw_iload_n (pc := 59) hG d_Mo_measures_59 rfl ?_
      refine pw_scalli (pc := 60) hG (fun l Δ => ct_Mo_at l Δ hΛ  h) m_791 k_Mo_at rfl ⟨by decide, by decide⟩ (Nat.le_of_ble_eq_true rfl) d_Mo_measures_60 rfl (fun r60 S60 h => ?_)
      obtain ⟨hi63, h⟩ := h
      refine pw_aI (pc := 63) hG (q_arr hΛ o_v0 rfl (by decide)) hi63 d_Mo_measures_63 ?_
      refine pw_scalli (pc := 64) hG (fun l Δ => ct_Mo_at l Δ hΛ  h) m_791 k_Mo_at rfl ⟨by decide, by decide⟩ (Nat.le_of_ble_eq_true rfl) d_Mo_measures_64 rfl (fun r64 S64 h => ?_)
      refine pw_ist_n (pc := 67) hG d_Mo_measures_67 (by decide) rfl ?_
      refine pw_aload_n (pc := 68) hG d_Mo_measures_68 rfl ?_
      refine g10_19 (pc := 69) hG m_821 d_Mo_measures_69 o_v0 ?_
      refine pw_iload_n (pc := 72) hG d_Mo_measures_72 rfl ?_
      refine pw_iload_n (pc := 73) hG d_Mo_measures_73 rfl ?_
      refine pw_scalli (pc := 74) hG (fun l Δ => ct_Mo_at l Δ hΛ  h) m_791 k_Mo_at rfl ⟨by decide, by decide⟩ (Nat.le_of_ble_eq_true rfl) d_Mo_measures_74 rfl (fun r74 S74 h => ?_)
      obtain ⟨hi77, h⟩ := h
      refine pw_aI (pc := 77) hG (q_arr hΛ o_v0 rfl (by decide)) hi77 d_Mo_measures_77 ?_
      refine pw_iconst (pc := 78) hG d_Mo_measures_78 ?_
      refine pw_iadd (pc := 79) hG d_Mo_measures_79 ?_
      refine pw_istore (pc := 80) hG d_Mo_measures_80 (by decide) (fun x80 ex80 => ⟨_, rfl, ?_⟩)
      replace h := h x80 ex80
      refine pw_aload_n (pc := 82) hG d_Mo_measures_82 rfl ?_
      refine g10_18 (pc := 83) hG m_820 d_Mo_measures_83 o_v0 ?_
      refine pw_iload_n (pc := 86) hG d_Mo_measures_86 rfl ?_
      refine pw_dup2 (pc := 87) hG d_Mo_measures_87 rfl rfl ?_
      obtain ⟨hi88, h⟩ := h
      refine pw_aI (pc := 88) hG (q_arr hΛ o_v0 rfl (by decide)) hi88 d_Mo_measures_88 ?_
      refine pw_aload_n (pc := 89) hG d_Mo_measures_89 rfl ?_
      refine g10_18 (pc := 90) hG m_820 d_Mo_measures_90 o_v0 ?_
      refine pw_iload_n (pc := 93) hG d_Mo_measures_93 rfl ?_
      refine pw_iload_n (pc := 94) hG d_Mo_measures_94 rfl ?_
      refine pw_scalli (pc := 95) hG (fun l Δ => ct_Mo_at l Δ hΛ  h) m_791 k_Mo_at rfl ⟨by decide, by decide⟩ (Nat.le_of_ble_eq_true rfl) d_Mo_measures_95 rfl (fun r95 S95 h => ?_)
      obtain ⟨hi98, h⟩ := h
      refine pw_aI (pc := 98) hG (q_arr hΛ o_v0 rfl (by decide)) hi98 d_Mo_measures_98 ?_
      refine pw_iadd (pc := 99) hG d_Mo_measures_99 ?_
      obtain ⟨hi100, h⟩ := h
      refine pw_sI (pc := 100) hG (q_arr hΛ o_v0 rfl (by decide)) hi100 d_Mo_measures_100 (fun S100 eS100 => ?_)
      replace h := h S100 eS100
      refine pw_aload_n (pc := 101) hG d_Mo_measures_101 rfl ?_
      refine g10_19 (pc := 102) hG m_821 d_Mo_measures_102 o_v0 ?_
      refine pw_iload_n (pc := 105) hG d_Mo_measures_105 rfl ?_
      refine pw_iload (pc := 106) hG d_Mo_measures_106 rfl ?_
      refine pw_aload_n (pc := 108) hG d_Mo_measures_108 rfl ?_
      refine g10_19 (pc := 109) hG m_821 d_Mo_measures_109 o_v0 ?_
      refine pw_iload_n (pc := 112) hG d_Mo_measures_112 rfl ?_
      obtain ⟨hi113, h⟩ := h
      refine pw_aI (pc := 113) hG (q_arr hΛ o_v0 rfl (by decide)) hi113 d_Mo_measures_113 ?_
      obtain ⟨hrx114, hry114, ha114, hb114⟩ := h
      refine pw_icmp_le (tgt := 122) (pc := 114) hG d_Mo_measures_114 (by decide) hrx114 hry114 (fun hc114 => ?_) (fun hc114 => ?_)
      · replace h := ha114 hc114
        refine pw_aload_n (pc := 122) hG d_Mo_measures_122 rfl ?_
        refine g10_19 (pc := 123) hG m_821 d_Mo_measures_123 o_v0 ?_
        refine pw_iload_n (pc := 126) hG d_Mo_measures_126 rfl ?_
        obtain ⟨hi127, h⟩ := h
        refine pw_aI (pc := 127) hG (q_arr hΛ o_v0 rfl (by decide)) hi127 d_Mo_measures_127 ?_
        obtain ⟨hi128, h⟩ := h
        refine pw_sI (pc := 128) hG (q_arr hΛ o_v0 rfl (by decide)) hi128 d_Mo_measures_128 (fun S128 eS128 => ?_)
        replace h := h S128 eS128
        refine pw_iinc0 (pc := 129) hG d_Mo_measures_129 rfl (by decide) rfl ?_
        refine pw_goto (tgt := 49) (pc := 132) hG d_Mo_measures_132 (by decide) ?_
        exact pw_sub hG [0, 1, 2] rfl (ih v0 v1 (v2 + (-1)) S128 o_v0 h)
      · replace h := hb114 hc114
        refine pw_iload (pc := 117) hG d_Mo_measures_117 rfl ?_
        refine pw_goto (tgt := 128) (pc := 119) hG d_Mo_measures_119 (by decide) ?_
        obtain ⟨hi128, h⟩ := h
        refine pw_sI (pc := 128) hG (q_arr hΛ o_v0 rfl (by decide)) hi128 d_Mo_measures_128 (fun S128 eS128 => ?_)
        replace h := h S128 eS128
        refine pw_iinc0 (pc := 129) hG d_Mo_measures_129 rfl (by decide) rfl ?_
        refine pw_goto (tgt := 49) (pc := 132) hG d_Mo_measures_132 (by decide) ?_
        exact pw_sub hG [0, 1, 2] rfl (ih v0 v1 (v2 + (-1)) S128 o_v0 h)
theorem b_Mo_measures_2 {Λ : QLay} {G : Nat → List (Nat × Value) → List Value → QMem → Prop} {Q : QMem → Prop} (hG : QAct c_Mo_measures "TreeDifferModel" 5 { frames := 1, cells := 0, slots := 0, locals := 21 } Λ G) (hR : RtV c_Mo_measures G Q) : ∀ (n : Nat) (v0 : Nat) (v1 : Int) (v2 : Int) (S : QMem), qob Λ 10 v0 → w_Mo_measures_2 Λ Q n v0 v1 v2 S → G 2 [(0, .ref v0), (1, vI v1), (2, vI v2)] [] S := by
  have hΛ := hG.lay
  intro n
  induction n with
  | zero => intro v0 v1 v2 S o_v0 h; exact h.elim
  | succ n ih =>
    intro v0 v1 v2 S o_v0 h
    rw [w_Mo_measures_2] at h
    refine pw_iload_n (pc := 2) hG d_Mo_measures_2 rfl ?_
    refine pw_aload_n (pc := 3) hG d_Mo_measures_3 rfl ?_
    refine g10_0 (pc := 4) hG m_802 d_Mo_measures_4 o_v0 ?_
    refine pw_iload_n (pc := 7) hG d_Mo_measures_7 rfl ?_
    obtain ⟨hi8, h⟩ := h
    refine pw_aI (pc := 8) hG (q_arr hΛ o_v0 rfl (by decide)) hi8 d_Mo_measures_8 ?_
    obtain ⟨hrx9, hry9, ha9, hb9⟩ := h
    refine pw_icmp_ge (tgt := 40) (pc := 9) hG d_Mo_measures_9 (by decide) hrx9 hry9 (fun hc9 => ?_) (fun hc9 => ?_)
    · replace h := ha9 hc9
      refine pw_aload_n (pc := 40) hG d_Mo_measures_40 rfl ?_
      refine g10_0 (pc := 41) hG m_802 d_Mo_measures_41 o_v0 ?_
      refine pw_iload_n (pc := 44) hG d_Mo_measures_44 rfl ?_
      obtain ⟨hi45, h⟩ := h
      refine pw_aI (pc := 45) hG (q_arr hΛ o_v0 rfl (by decide)) hi45 d_Mo_measures_45 ?_
      refine pw_iconst (pc := 46) hG d_Mo_measures_46 ?_
      refine pw_isub (pc := 47) hG d_Mo_measures_47 ?_
      refine pw_istore_n (pc := 48) hG d_Mo_measures_48 (by decide) (fun x48 ex48 => ⟨_, rfl, ?_⟩)
      replace h := h x48 ex48
      obtain ⟨n48, h⟩ := h
      exact pw_sub hG [0, 1, 2] rfl (b_Mo_measures_49 hG hR n48 v0 v1 x48 S o_v0 h)
    · replace h := hb9 hc9
      refine pw_aload_n (pc := 12) hG d_Mo_measures_12 rfl ?_
      refine g10_18 (pc := 13) hG m_820 d_Mo_measures_13 o_v0 ?_
      refine pw_iload_n (pc := 16) hG d_Mo_measures_16 rfl ?_
      refine pw_iload_n (pc := 17) hG d_Mo_measures_17 rfl ?_
      refine pw_scalli (pc := 18) hG (fun l Δ => ct_Mo_at l Δ hΛ  h) m_791 k_Mo_at rfl ⟨by decide, by decide⟩ (Nat.le_of_ble_eq_true rfl) d_Mo_measures_18 rfl (fun r18 S18 h => ?_)
      refine pw_iconst (pc := 21) hG d_Mo_measures_21 ?_
      obtain ⟨hi22, h⟩ := h
      refine pw_sI (pc := 22) hG (q_arr hΛ o_v0 rfl (by decide)) hi22 d_Mo_measures_22 (fun S22 eS22 => ?_)
      replace h := h S22 eS22
      refine pw_aload_n (pc := 23) hG d_Mo_measures_23 rfl ?_
      refine g10_19 (pc := 24) hG m_821 d_Mo_measures_24 o_v0 ?_
      refine pw_iload_n (pc := 27) hG d_Mo_measures_27 rfl ?_
      refine pw_iload_n (pc := 28) hG d_Mo_measures_28 rfl ?_
      refine pw_scalli (pc := 29) hG (fun l Δ => ct_Mo_at l Δ hΛ  h) m_791 k_Mo_at rfl ⟨by decide, by decide⟩ (Nat.le_of_ble_eq_true rfl) d_Mo_measures_29 rfl (fun r29 S29 h => ?_)
      refine pw_iconst (pc := 32) hG d_Mo_measures_32 ?_
      obtain ⟨hi33, h⟩ := h
      refine pw_sI (pc := 33) hG (q_arr hΛ o_v0 rfl (by decide)) hi33 d_Mo_measures_33 (fun S33 eS33 => ?_)
      replace h := h S33 eS33
      refine pw_iinc0 (pc := 34) hG d_Mo_measures_34 rfl (by decide) rfl ?_
      refine pw_goto (tgt := 2) (pc := 37) hG d_Mo_measures_37 (by decide) ?_
      exact pw_sub hG [0, 1, 2] rfl (ih v0 v1 (v2 + 1) S33 o_v0 h)
theorem b_Mo_measures_0 {Λ : QLay} {G : Nat → List (Nat × Value) → List Value → QMem → Prop} {Q : QMem → Prop} (hG : QAct c_Mo_measures "TreeDifferModel" 5 { frames := 1, cells := 0, slots := 0, locals := 21 } Λ G) (hR : RtV c_Mo_measures G Q) (v0 : Nat) (v1 : Int) (S : QMem) (o0 : qob Λ 10 v0) (h : w_Mo_measures Λ v0 v1 S Q) : G 0 [(0, .ref v0), (1, vI v1)] [] S := by
  have hΛ := hG.lay
  unfold w_Mo_measures at h
  refine pw_iconst (pc := 0) hG d_Mo_measures_0 ?_
  refine pw_ist_n (pc := 1) hG d_Mo_measures_1 (by decide) rfl ?_
  obtain ⟨n1, h⟩ := h
  exact pw_sub hG [0, 1, 2] rfl (b_Mo_measures_2 hG hR n1 v0 v1 0 S o0 h)
theorem ct_Mo_measures (l : Launch) (Δ : QDl) {Λ : QLay} (hΛ : LayOk Λ) {v0 : Nat} {v1 : Int} {S : QMem} {Q : QMem → Prop} (o0 : qob Λ 10 v0) (h : w_Mo_measures Λ v0 v1 S Q) : QCt l y_Mo_measures c_Mo_measures 5 none 1 21 Δ Λ [.ref v0, vI v1] S (qV Q) :=
  QCt.mk (own := "TreeDifferModel") hΛ (by decide) rfl rfl (Nat.le_of_ble_eq_true rfl) (fun G hG ri rz rv rj ra => b_Mo_measures_0 hG (fun pc lv S d hq => rv pc lv S rfl d ⟨rfl, hq⟩) v0 v1 S o0 h)
theorem k_Mo_changes : QVf y_Mo_changes c_Mo_changes 1 none "TreeDifferModel" 0 := ⟨m_796, m_p36, m_11, m_797, by decide +kernel⟩
theorem b_Mo_changes_0 {Λ : QLay} {G : Nat → List (Nat × Value) → List Value → QMem → Prop} {Q : QMem → Prop} (hG : QAct c_Mo_changes "TreeDifferModel" 1 { frames := 2, cells := 0, slots := 0, locals := 45 } Λ G) (hR : RtV c_Mo_changes G Q) (v0 : Nat) (S : QMem) (o0 : qob Λ 10 v0) (h : w_Mo_changes Λ v0 S Q) : G 0 [(0, .ref v0)] [] S := by
  have hΛ := hG.lay
  unfold w_Mo_changes at h
  refine pw_aload_n (pc := 0) hG d_Mo_changes_0 rfl ?_
  refine pw_iconst (pc := 1) hG d_Mo_changes_1 ?_
  refine p10_20 (pc := 2) hG m_822 d_Mo_changes_2 o0 (Or.inl rfl) (fun S2 eS2 => ?_)
  replace h := h S2 eS2
  refine pw_aload_n (pc := 5) hG d_Mo_changes_5 rfl ?_
  refine pw_iconst (pc := 6) hG d_Mo_changes_6 ?_
  refine p10_6 (pc := 7) hG m_808 d_Mo_changes_7 o0 (fun S7 eS7 => ?_)
  replace h := h S7 eS7
  refine pw_aload_n (pc := 10) hG d_Mo_changes_10 rfl ?_
  refine pw_iconst (pc := 11) hG d_Mo_changes_11 ?_
  refine pw_callv (pc := 12) hG (fun l Δ => ct_Mo_measures l Δ hΛ o0 h) o0 rfl (by decide) m_798 k_Mo_measures rfl ⟨by decide, by decide⟩ (Nat.le_of_ble_eq_true rfl) d_Mo_changes_12 rfl (fun S12 h => ?_)
  refine pw_aload_n (pc := 15) hG d_Mo_changes_15 rfl ?_
  refine pw_iconst (pc := 16) hG d_Mo_changes_16 ?_
  refine pw_callv (pc := 17) hG (fun l Δ => ct_Mo_measures l Δ hΛ o0 h) o0 rfl (by decide) m_798 k_Mo_measures rfl ⟨by decide, by decide⟩ (Nat.le_of_ble_eq_true rfl) d_Mo_changes_17 rfl (fun S17 h => ?_)
  exact hR 20 _ _ d_Mo_changes_20 h
theorem ct_Mo_changes (l : Launch) (Δ : QDl) {Λ : QLay} (hΛ : LayOk Λ) {v0 : Nat} {S : QMem} {Q : QMem → Prop} (o0 : qob Λ 10 v0) (h : w_Mo_changes Λ v0 S Q) : QCt l y_Mo_changes c_Mo_changes 1 none 2 45 Δ Λ [.ref v0] S (qV Q) :=
  QCt.mk (own := "TreeDifferModel") hΛ (by decide) rfl rfl (Nat.le_of_ble_eq_true rfl) (fun G hG ri rz rv rj ra => b_Mo_changes_0 hG (fun pc lv S d hq => rv pc lv S rfl d ⟨rfl, hq⟩) v0 S o0 h)
theorem k_Mo_read : QVf y_Mo_read c_Mo_read 2 (some .int) "TreeDifferModel" 1 := ⟨m_978, m_979, m_11, m_980, by decide +kernel⟩
theorem b_Mo_read_0 {Λ : QLay} {G : Nat → List (Nat × Value) → List Value → QMem → Prop} {Q : Int → QMem → Prop} (hG : QAct c_Mo_read "TreeDifferModel" 2 { frames := 3, cells := 0, slots := 0, locals := 66 } Λ G) (hR : RtI c_Mo_read G Q) (v0 : Nat) (v1 : Int) (S : QMem) (o0 : qob Λ 10 v0) (h : w_Mo_read Λ v0 v1 S Q) : G 0 [(0, .ref v0), (1, vI v1)] [] S := by
  have hΛ := hG.lay
  unfold w_Mo_read at h
  refine pw_iload_n (pc := 0) hG d_Mo_read_0 rfl ?_
  refine pw_iconst (pc := 1) hG d_Mo_read_1 ?_
  refine pw_iconst (pc := 2) hG d_Mo_read_2 ?_
  refine pw_scalli (pc := 3) hG (fun l Δ => ct_Mo_in l Δ hΛ  h) m_942 k_Mo_in rfl ⟨by decide, by decide⟩ (Nat.le_of_ble_eq_true rfl) d_Mo_read_3 rfl (fun r3 S3 h => ?_)
  obtain ⟨hrx6, ha6, hb6⟩ := h
  refine pw_if_ne (tgt := 12) (pc := 6) hG d_Mo_read_6 (by decide) hrx6 (fun hc6 => ?_) (fun hc6 => ?_)
  · replace h := ha6 hc6
    refine pw_aload_n (pc := 12) hG d_Mo_read_12 rfl ?_
    refine pw_calli (pc := 13) hG (fun l Δ => ct_Mo_isText l Δ hΛ o0 h) o0 rfl (by decide) m_953 k_Mo_isText rfl ⟨by decide, by decide⟩ (Nat.le_of_ble_eq_true rfl) d_Mo_read_13 rfl (fun r13 S13 h => ?_)
    obtain ⟨hrx16, ha16, hb16⟩ := h
    refine pw_if_ne (tgt := 22) (pc := 16) hG d_Mo_read_16 (by decide) hrx16 (fun hc16 => ?_) (fun hc16 => ?_)
    · replace h := ha16 hc16
      refine pw_aload_n (pc := 22) hG d_Mo_read_22 rfl ?_
      refine pw_iconst (pc := 23) hG d_Mo_read_23 ?_
      refine pw_iload_n (pc := 24) hG d_Mo_read_24 rfl ?_
      refine pw_callv (pc := 25) hG (fun l Δ => ct_Mo_copiesTree l Δ hΛ o0 h) o0 rfl (by decide) m_981 k_Mo_copiesTree rfl ⟨by decide, by decide⟩ (Nat.le_of_ble_eq_true rfl) d_Mo_read_25 rfl (fun S25 h => ?_)
      refine pw_aload_n (pc := 28) hG d_Mo_read_28 rfl ?_
      refine pw_callv (pc := 29) hG (fun l Δ => ct_Mo_changes l Δ hΛ o0 h) o0 rfl (by decide) m_794 k_Mo_changes rfl ⟨by decide, by decide⟩ (Nat.le_of_ble_eq_true rfl) d_Mo_read_29 rfl (fun S29 h => ?_)
      refine pw_aload_n (pc := 32) hG d_Mo_read_32 rfl ?_
      refine g10_0 (pc := 33) hG m_802 d_Mo_read_33 o0 ?_
      refine pw_iload_n (pc := 36) hG d_Mo_read_36 rfl ?_
      obtain ⟨hi37, h⟩ := h
      refine pw_aI (pc := 37) hG (q_arr hΛ o0 rfl (by decide)) hi37 d_Mo_read_37 ?_
      exact hR 38 _ _ _ d_Mo_read_38 h
    · replace h := hb16 hc16
      refine pw_bipush (pc := 19) hG d_Mo_read_19 (by decide) ?_
      exact hR 21 _ _ _ d_Mo_read_21 h
  · replace h := hb6 hc6
    refine pw_bipush (pc := 9) hG d_Mo_read_9 (by decide) ?_
    exact hR 11 _ _ _ d_Mo_read_11 h
theorem ct_Mo_read (l : Launch) (Δ : QDl) {Λ : QLay} (hΛ : LayOk Λ) {v0 : Nat} {v1 : Int} {S : QMem} {Q : Int → QMem → Prop} (o0 : qob Λ 10 v0) (h : w_Mo_read Λ v0 v1 S Q) : QCt l y_Mo_read c_Mo_read 2 (some .int) 3 66 Δ Λ [.ref v0, vI v1] S (qI Q) :=
  QCt.mk (own := "TreeDifferModel") hΛ (by decide) rfl rfl (Nat.le_of_ble_eq_true rfl) (fun G hG ri rz rv rj ra => b_Mo_read_0 hG (fun pc lv x S d hq => ri pc lv x S rfl d ⟨x, rfl, hq⟩) v0 v1 S o0 h)
theorem k_Mo_exchange : QVf y_Mo_exchange c_Mo_exchange 1 (some .int) "TreeDifferModel" 0 := ⟨m_986, m_987, m_11, m_988, by decide +kernel⟩
theorem b_Mo_exchange_0 {Λ : QLay} {G : Nat → List (Nat × Value) → List Value → QMem → Prop} {Q : Int → QMem → Prop} (hG : QAct c_Mo_exchange "TreeDifferModel" 1 { frames := 3, cells := 0, slots := 0, locals := 65 } Λ G) (hR : RtI c_Mo_exchange G Q) (v0 : Nat) (S : QMem) (o0 : qob Λ 10 v0) (h : w_Mo_exchange Λ v0 S Q) : G 0 [(0, .ref v0)] [] S := by
  have hΛ := hG.lay
  unfold w_Mo_exchange at h
  refine pw_aload_n (pc := 0) hG d_Mo_exchange_0 rfl ?_
  refine pw_iconst (pc := 1) hG d_Mo_exchange_1 ?_
  refine pw_iconst (pc := 2) hG d_Mo_exchange_2 ?_
  refine pw_callv (pc := 3) hG (fun l Δ => ct_Mo_copiesTree l Δ hΛ o0 h) o0 rfl (by decide) m_981 k_Mo_copiesTree rfl ⟨by decide, by decide⟩ (Nat.le_of_ble_eq_true rfl) d_Mo_exchange_3 rfl (fun S3 h => ?_)
  refine pw_aload_n (pc := 6) hG d_Mo_exchange_6 rfl ?_
  refine pw_iconst (pc := 7) hG d_Mo_exchange_7 ?_
  refine pw_iconst (pc := 8) hG d_Mo_exchange_8 ?_
  refine pw_callv (pc := 9) hG (fun l Δ => ct_Mo_copiesTree l Δ hΛ o0 h) o0 rfl (by decide) m_981 k_Mo_copiesTree rfl ⟨by decide, by decide⟩ (Nat.le_of_ble_eq_true rfl) d_Mo_exchange_9 rfl (fun S9 h => ?_)
  refine pw_aload_n (pc := 12) hG d_Mo_exchange_12 rfl ?_
  refine pw_iconst (pc := 13) hG d_Mo_exchange_13 ?_
  refine pw_iconst (pc := 14) hG d_Mo_exchange_14 ?_
  refine pw_callv (pc := 15) hG (fun l Δ => ct_Mo_copiesTree l Δ hΛ o0 h) o0 rfl (by decide) m_981 k_Mo_copiesTree rfl ⟨by decide, by decide⟩ (Nat.le_of_ble_eq_true rfl) d_Mo_exchange_15 rfl (fun S15 h => ?_)
  refine pw_aload_n (pc := 18) hG d_Mo_exchange_18 rfl ?_
  refine pw_callv (pc := 19) hG (fun l Δ => ct_Mo_changes l Δ hΛ o0 h) o0 rfl (by decide) m_794 k_Mo_changes rfl ⟨by decide, by decide⟩ (Nat.le_of_ble_eq_true rfl) d_Mo_exchange_19 rfl (fun S19 h => ?_)
  refine pw_aload_n (pc := 22) hG d_Mo_exchange_22 rfl ?_
  refine g10_0 (pc := 23) hG m_802 d_Mo_exchange_23 o0 ?_
  refine pw_iconst (pc := 26) hG d_Mo_exchange_26 ?_
  refine pw_aI (pc := 27) hG (q_arr hΛ o0 rfl (by decide)) (by decide) d_Mo_exchange_27 ?_
  exact hR 28 _ _ _ d_Mo_exchange_28 h
theorem ct_Mo_exchange (l : Launch) (Δ : QDl) {Λ : QLay} (hΛ : LayOk Λ) {v0 : Nat} {S : QMem} {Q : Int → QMem → Prop} (o0 : qob Λ 10 v0) (h : w_Mo_exchange Λ v0 S Q) : QCt l y_Mo_exchange c_Mo_exchange 1 (some .int) 3 65 Δ Λ [.ref v0] S (qI Q) :=
  QCt.mk (own := "TreeDifferModel") hΛ (by decide) rfl rfl (Nat.le_of_ble_eq_true rfl) (fun G hG ri rz rv rj ra => b_Mo_exchange_0 hG (fun pc lv x S d hq => ri pc lv x S rfl d ⟨x, rfl, hq⟩) v0 S o0 h)
theorem k_Mo_size : QVf y_Mo_size c_Mo_size 3 (some .int) "TreeDifferModel" 2 := ⟨m_1011, m_p47, m_11, m_1012, by decide +kernel⟩
theorem b_Mo_size_0 {Λ : QLay} {G : Nat → List (Nat × Value) → List Value → QMem → Prop} {Q : Int → QMem → Prop} (hG : QAct c_Mo_size "TreeDifferModel" 3 { frames := 1, cells := 0, slots := 0, locals := 21 } Λ G) (hR : RtI c_Mo_size G Q) (v0 : Nat) (v1 : Int) (v2 : Int) (S : QMem) (o0 : qob Λ 10 v0) (h : w_Mo_size Λ v0 v1 v2 S Q) : G 0 [(0, .ref v0), (1, vI v1), (2, vI v2)] [] S := by
  have hΛ := hG.lay
  unfold w_Mo_size at h
  refine pw_aload_n (pc := 0) hG d_Mo_size_0 rfl ?_
  refine g10_18 (pc := 1) hG m_820 d_Mo_size_1 o0 ?_
  refine pw_iload_n (pc := 4) hG d_Mo_size_4 rfl ?_
  refine pw_iload_n (pc := 5) hG d_Mo_size_5 rfl ?_
  refine pw_scalli (pc := 6) hG (fun l Δ => ct_Mo_at l Δ hΛ  h) m_791 k_Mo_at rfl ⟨by decide, by decide⟩ (Nat.le_of_ble_eq_true rfl) d_Mo_size_6 rfl (fun r6 S6 h => ?_)
  obtain ⟨hi9, h⟩ := h
  refine pw_aI (pc := 9) hG (q_arr hΛ o0 rfl (by decide)) hi9 d_Mo_size_9 ?_
  exact hR 10 _ _ _ d_Mo_size_10 h
theorem ct_Mo_size (l : Launch) (Δ : QDl) {Λ : QLay} (hΛ : LayOk Λ) {v0 : Nat} {v1 : Int} {v2 : Int} {S : QMem} {Q : Int → QMem → Prop} (o0 : qob Λ 10 v0) (h : w_Mo_size Λ v0 v1 v2 S Q) : QCt l y_Mo_size c_Mo_size 3 (some .int) 1 21 Δ Λ [.ref v0, vI v1, vI v2] S (qI Q) :=
  QCt.mk (own := "TreeDifferModel") hΛ (by decide) rfl rfl (Nat.le_of_ble_eq_true rfl) (fun G hG ri rz rv rj ra => b_Mo_size_0 hG (fun pc lv x S d hq => ri pc lv x S rfl d ⟨x, rfl, hq⟩) v0 v1 v2 S o0 h)
theorem k_Mo_isBelow : QVf y_Mo_isBelow c_Mo_isBelow 4 (some .boolean) "TreeDifferModel" 3 := ⟨m_1079, m_p60, m_11, m_1080, by decide +kernel⟩
theorem b_Mo_isBelow_0 {Λ : QLay} {G : Nat → List (Nat × Value) → List Value → QMem → Prop} {Q : Int → QMem → Prop} (hG : QAct c_Mo_isBelow "TreeDifferModel" 4 { frames := 2, cells := 0, slots := 0, locals := 43 } Λ G) (hR : RtZ c_Mo_isBelow G Q) (v0 : Nat) (v1 : Int) (v2 : Int) (v3 : Int) (S : QMem) (o0 : qob Λ 10 v0) (h : w_Mo_isBelow Λ v0 v1 v2 v3 S Q) : G 0 [(0, .ref v0), (1, vI v1), (2, vI v2), (3, vI v3)] [] S := by
  have hΛ := hG.lay
  unfold w_Mo_isBelow at h
  refine pw_iload_n (pc := 0) hG d_Mo_isBelow_0 rfl ?_
  refine pw_iload_n (pc := 1) hG d_Mo_isBelow_1 rfl ?_
  obtain ⟨hrx2, hry2, ha2, hb2⟩ := h
  refine pw_icmp_le (tgt := 21) (pc := 2) hG d_Mo_isBelow_2 (by decide) hrx2 hry2 (fun hc2 => ?_) (fun hc2 => ?_)
  · replace h := ha2 hc2
    refine pw_iconst (pc := 21) hG d_Mo_isBelow_21 ?_
    exact hR 22 _ _ _ d_Mo_isBelow_22 (Or.inl rfl) h
  · replace h := hb2 hc2
    refine pw_iload_n (pc := 5) hG d_Mo_isBelow_5 rfl ?_
    refine pw_iload_n (pc := 6) hG d_Mo_isBelow_6 rfl ?_
    refine pw_aload_n (pc := 7) hG d_Mo_isBelow_7 rfl ?_
    refine pw_iload_n (pc := 8) hG d_Mo_isBelow_8 rfl ?_
    refine pw_iload_n (pc := 9) hG d_Mo_isBelow_9 rfl ?_
    refine pw_calli (pc := 10) hG (fun l Δ => ct_Mo_size l Δ hΛ o0 h) o0 rfl (by decide) m_1009 k_Mo_size rfl ⟨by decide, by decide⟩ (Nat.le_of_ble_eq_true rfl) d_Mo_isBelow_10 rfl (fun r10 S10 h => ?_)
    refine pw_iadd (pc := 13) hG d_Mo_isBelow_13 ?_
    obtain ⟨hrx14, hry14, ha14, hb14⟩ := h
    refine pw_icmp_ge (tgt := 21) (pc := 14) hG d_Mo_isBelow_14 (by decide) hrx14 hry14 (fun hc14 => ?_) (fun hc14 => ?_)
    · replace h := ha14 hc14
      refine pw_iconst (pc := 21) hG d_Mo_isBelow_21 ?_
      exact hR 22 _ _ _ d_Mo_isBelow_22 (Or.inl rfl) h
    · replace h := hb14 hc14
      refine pw_iconst (pc := 17) hG d_Mo_isBelow_17 ?_
      refine pw_goto (tgt := 22) (pc := 18) hG d_Mo_isBelow_18 (by decide) ?_
      exact hR 22 _ _ _ d_Mo_isBelow_22 (Or.inr rfl) h
theorem ct_Mo_isBelow (l : Launch) (Δ : QDl) {Λ : QLay} (hΛ : LayOk Λ) {v0 : Nat} {v1 : Int} {v2 : Int} {v3 : Int} {S : QMem} {Q : Int → QMem → Prop} (o0 : qob Λ 10 v0) (h : w_Mo_isBelow Λ v0 v1 v2 v3 S Q) : QCt l y_Mo_isBelow c_Mo_isBelow 4 (some .boolean) 2 43 Δ Λ [.ref v0, vI v1, vI v2, vI v3] S (qI Q) :=
  QCt.mk (own := "TreeDifferModel") hΛ (by decide) rfl rfl (Nat.le_of_ble_eq_true rfl) (fun G hG ri rz rv rj ra => b_Mo_isBelow_0 hG (fun pc lv x S d hb hq => rz pc lv x S rfl d hb ⟨x, rfl, hq⟩) v0 v1 v2 v3 S o0 h)
theorem k_Mo_height : QVf y_Mo_height c_Mo_height 3 (some .int) "TreeDifferModel" 2 := ⟨m_1007, m_p46, m_11, m_1008, by decide +kernel⟩
theorem b_Mo_height_0 {Λ : QLay} {G : Nat → List (Nat × Value) → List Value → QMem → Prop} {Q : Int → QMem → Prop} (hG : QAct c_Mo_height "TreeDifferModel" 3 { frames := 1, cells := 0, slots := 0, locals := 21 } Λ G) (hR : RtI c_Mo_height G Q) (v0 : Nat) (v1 : Int) (v2 : Int) (S : QMem) (o0 : qob Λ 10 v0) (h : w_Mo_height Λ v0 v1 v2 S Q) : G 0 [(0, .ref v0), (1, vI v1), (2, vI v2)] [] S := by
  have hΛ := hG.lay
  unfold w_Mo_height at h
  refine pw_aload_n (pc := 0) hG d_Mo_height_0 rfl ?_
  refine g10_19 (pc := 1) hG m_821 d_Mo_height_1 o0 ?_
  refine pw_iload_n (pc := 4) hG d_Mo_height_4 rfl ?_
  refine pw_iload_n (pc := 5) hG d_Mo_height_5 rfl ?_
  refine pw_scalli (pc := 6) hG (fun l Δ => ct_Mo_at l Δ hΛ  h) m_791 k_Mo_at rfl ⟨by decide, by decide⟩ (Nat.le_of_ble_eq_true rfl) d_Mo_height_6 rfl (fun r6 S6 h => ?_)
  obtain ⟨hi9, h⟩ := h
  refine pw_aI (pc := 9) hG (q_arr hΛ o0 rfl (by decide)) hi9 d_Mo_height_9 ?_
  exact hR 10 _ _ _ d_Mo_height_10 h
theorem ct_Mo_height (l : Launch) (Δ : QDl) {Λ : QLay} (hΛ : LayOk Λ) {v0 : Nat} {v1 : Int} {v2 : Int} {S : QMem} {Q : Int → QMem → Prop} (o0 : qob Λ 10 v0) (h : w_Mo_height Λ v0 v1 v2 S Q) : QCt l y_Mo_height c_Mo_height 3 (some .int) 1 21 Δ Λ [.ref v0, vI v1, vI v2] S (qI Q) :=
  QCt.mk (own := "TreeDifferModel") hΛ (by decide) rfl rfl (Nat.le_of_ble_eq_true rfl) (fun G hG ri rz rv rj ra => b_Mo_height_0 hG (fun pc lv x S d hq => ri pc lv x S rfl d ⟨x, rfl, hq⟩) v0 v1 v2 S o0 h)
theorem k_Mo_childAt : QVf y_Mo_childAt c_Mo_childAt 6 (some .int) "TreeDifferModel" 3 := ⟨m_1019, m_p48, m_11, m_1020, by decide +kernel⟩
theorem b_Mo_childAt_8 {Λ : QLay} {G : Nat → List (Nat × Value) → List Value → QMem → Prop} {Q : Int → QMem → Prop} (hG : QAct c_Mo_childAt "TreeDifferModel" 6 { frames := 1, cells := 0, slots := 0, locals := 21 } Λ G) (hR : RtI c_Mo_childAt G Q) : ∀ (n : Nat) (v0 : Nat) (v1 : Int) (v2 : Int) (v4 : Int) (v5 : Int) (S : QMem), qob Λ 10 v0 → w_Mo_childAt_8 Λ Q n v0 v1 v2 v4 v5 S → G 8 [(0, .ref v0), (1, vI v1), (2, vI v2), (4, vI v4), (5, vI v5)] [] S := by
  have hΛ := hG.lay
  intro n
  induction n with
  | zero => intro v0 v1 v2 v4 v5 S o_v0 h; exact h.elim
  | succ n ih =>
    intro v0 v1 v2 v4 v5 S o_v0 h
    rw [w_Mo_childAt_8] at h
    refine pw_iload (pc := 8) hG d_Mo_childAt_8 rfl ?_
    refine pw_aload_n (pc := 10) hG d_Mo_childAt_10 rfl ?_
    refine g10_0 (pc := 11) hG m_802 d_Mo_childAt_11 o_v0 ?_
    refine pw_iload_n (pc := 14) hG d_Mo_childAt_14 rfl ?_
    obtain ⟨hi15, h⟩ := h
    refine pw_aI (pc := 15) hG (q_arr hΛ o_v0 rfl (by decide)) hi15 d_Mo_childAt_15 ?_
    obtain ⟨hrx16, hry16, ha16, hb16⟩ := h
    refine pw_icmp_ge (tgt := 56) (pc := 16) hG d_Mo_childAt_16 (by decide) hrx16 hry16 (fun hc16 => ?_) (fun hc16 => ?_)
    · replace h := ha16 hc16
      refine pw_bipush (pc := 56) hG d_Mo_childAt_56 (by decide) ?_
      exact hR 58 _ _ _ d_Mo_childAt_58 h
    · replace h := hb16 hc16
      refine pw_iload (pc := 19) hG d_Mo_childAt_19 rfl ?_
      obtain ⟨hrx21, ha21, hb21⟩ := h
      refine pw_if_lt (tgt := 56) (pc := 21) hG d_Mo_childAt_21 (by decide) hrx21 (fun hc21 => ?_) (fun hc21 => ?_)
      · replace h := ha21 hc21
        refine pw_bipush (pc := 56) hG d_Mo_childAt_56 (by decide) ?_
        exact hR 58 _ _ _ d_Mo_childAt_58 h
      · replace h := hb21 hc21
        refine pw_aload_n (pc := 24) hG d_Mo_childAt_24 rfl ?_
        refine g10_3 (pc := 25) hG m_805 d_Mo_childAt_25 o_v0 ?_
        refine pw_iload_n (pc := 28) hG d_Mo_childAt_28 rfl ?_
        refine pw_iload (pc := 29) hG d_Mo_childAt_29 rfl ?_
        refine pw_scalli (pc := 31) hG (fun l Δ => ct_Mo_at l Δ hΛ  h) m_791 k_Mo_at rfl ⟨by decide, by decide⟩ (Nat.le_of_ble_eq_true rfl) d_Mo_childAt_31 rfl (fun r31 S31 h => ?_)
        obtain ⟨hi34, h⟩ := h
        refine pw_aI (pc := 34) hG (q_arr hΛ o_v0 rfl (by decide)) hi34 d_Mo_childAt_34 ?_
        refine pw_iload_n (pc := 35) hG d_Mo_childAt_35 rfl ?_
        obtain ⟨hrx36, hry36, ha36, hb36⟩ := h
        refine pw_icmp_ne (tgt := 50) (pc := 36) hG d_Mo_childAt_36 (by decide) hrx36 hry36 (fun hc36 => ?_) (fun hc36 => ?_)
        · replace h := ha36 hc36
          refine pw_iinc0 (pc := 50) hG d_Mo_childAt_50 rfl (by decide) rfl ?_
          refine pw_goto (tgt := 8) (pc := 53) hG d_Mo_childAt_53 (by decide) ?_
          exact pw_sub hG [0, 1, 2, 4, 5] rfl (ih v0 v1 v2 v4 (v5 + 1) S31 o_v0 h)
        · replace h := hb36 hc36
          refine pw_iload (pc := 39) hG d_Mo_childAt_39 rfl ?_
          obtain ⟨hrx41, ha41, hb41⟩ := h
          refine pw_if_ne (tgt := 47) (pc := 41) hG d_Mo_childAt_41 (by decide) hrx41 (fun hc41 => ?_) (fun hc41 => ?_)
          · replace h := ha41 hc41
            refine pw_iinc0 (pc := 47) hG d_Mo_childAt_47 rfl (by decide) rfl ?_
            refine pw_iinc0 (pc := 50) hG d_Mo_childAt_50 rfl (by decide) rfl ?_
            refine pw_goto (tgt := 8) (pc := 53) hG d_Mo_childAt_53 (by decide) ?_
            exact pw_sub hG [0, 1, 2, 4, 5] rfl (ih v0 v1 v2 (v4 + (-1)) (v5 + 1) S31 o_v0 h)
          · replace h := hb41 hc41
            refine pw_iload (pc := 44) hG d_Mo_childAt_44 rfl ?_
            exact hR 46 _ _ _ d_Mo_childAt_46 h
theorem b_Mo_childAt_0 {Λ : QLay} {G : Nat → List (Nat × Value) → List Value → QMem → Prop} {Q : Int → QMem → Prop} (hG : QAct c_Mo_childAt "TreeDifferModel" 6 { frames := 1, cells := 0, slots := 0, locals := 21 } Λ G) (hR : RtI c_Mo_childAt G Q) (v0 : Nat) (v1 : Int) (v2 : Int) (v3 : Int) (S : QMem) (o0 : qob Λ 10 v0) (h : w_Mo_childAt Λ v0 v1 v2 v3 S Q) : G 0 [(0, .ref v0), (1, vI v1), (2, vI v2), (3, vI v3)] [] S := by
  have hΛ := hG.lay
  unfold w_Mo_childAt at h
  refine pw_iload_n (pc := 0) hG d_Mo_childAt_0 rfl ?_
  refine pw_ist (pc := 1) hG d_Mo_childAt_1 (by decide) rfl ?_
  refine pw_iload_n (pc := 3) hG d_Mo_childAt_3 rfl ?_
  refine pw_iconst (pc := 4) hG d_Mo_childAt_4 ?_
  refine pw_iadd (pc := 5) hG d_Mo_childAt_5 ?_
  refine pw_istore (pc := 6) hG d_Mo_childAt_6 (by decide) (fun x6 ex6 => ⟨_, rfl, ?_⟩)
  replace h := h x6 ex6
  obtain ⟨n6, h⟩ := h
  exact pw_sub hG [0, 1, 2, 4, 5] rfl (b_Mo_childAt_8 hG hR n6 v0 v1 v2 v3 x6 S o0 h)
theorem ct_Mo_childAt (l : Launch) (Δ : QDl) {Λ : QLay} (hΛ : LayOk Λ) {v0 : Nat} {v1 : Int} {v2 : Int} {v3 : Int} {S : QMem} {Q : Int → QMem → Prop} (o0 : qob Λ 10 v0) (h : w_Mo_childAt Λ v0 v1 v2 v3 S Q) : QCt l y_Mo_childAt c_Mo_childAt 6 (some .int) 1 21 Δ Λ [.ref v0, vI v1, vI v2, vI v3] S (qI Q) :=
  QCt.mk (own := "TreeDifferModel") hΛ (by decide) rfl rfl (Nat.le_of_ble_eq_true rfl) (fun G hG ri rz rv rj ra => b_Mo_childAt_0 hG (fun pc lv x S d hq => ri pc lv x S rfl d ⟨x, rfl, hq⟩) v0 v1 v2 v3 S o0 h)
theorem k_Mo_children : QVf y_Mo_children c_Mo_children 5 (some .int) "TreeDifferModel" 2 := ⟨m_1003, m_p45, m_11, m_1004, by decide +kernel⟩
theorem b_Mo_children_7 {Λ : QLay} {G : Nat → List (Nat × Value) → List Value → QMem → Prop} {Q : Int → QMem → Prop} (hG : QAct c_Mo_children "TreeDifferModel" 5 { frames := 1, cells := 0, slots := 0, locals := 21 } Λ G) (hR : RtI c_Mo_children G Q) : ∀ (n : Nat) (v0 : Nat) (v1 : Int) (v2 : Int) (v3 : Int) (v4 : Int) (S : QMem), qob Λ 10 v0 → w_Mo_children_7 Λ Q n v0 v1 v2 v3 v4 S → G 7 [(0, .ref v0), (1, vI v1), (2, vI v2), (3, vI v3), (4, vI v4)] [] S := by
  have hΛ := hG.lay
  intro n
  induction n with
  | zero => intro v0 v1 v2 v3 v4 S o_v0 h; exact h.elim
  | succ n ih =>
    intro v0 v1 v2 v3 v4 S o_v0 h
    rw [w_Mo_children_7] at h
    refine pw_iload (pc := 7) hG d_Mo_children_7 rfl ?_
    refine pw_aload_n (pc := 9) hG d_Mo_children_9 rfl ?_
    refine g10_0 (pc := 10) hG m_802 d_Mo_children_10 o_v0 ?_
    refine pw_iload_n (pc := 13) hG d_Mo_children_13 rfl ?_
    obtain ⟨hi14, h⟩ := h
    refine pw_aI (pc := 14) hG (q_arr hΛ o_v0 rfl (by decide)) hi14 d_Mo_children_14 ?_
    obtain ⟨hrx15, hry15, ha15, hb15⟩ := h
    refine pw_icmp_ge (tgt := 47) (pc := 15) hG d_Mo_children_15 (by decide) hrx15 hry15 (fun hc15 => ?_) (fun hc15 => ?_)
    · replace h := ha15 hc15
      refine pw_iload_n (pc := 47) hG d_Mo_children_47 rfl ?_
      exact hR 48 _ _ _ d_Mo_children_48 h
    · replace h := hb15 hc15
      refine pw_iload_n (pc := 18) hG d_Mo_children_18 rfl ?_
      refine pw_aload_n (pc := 19) hG d_Mo_children_19 rfl ?_
      refine g10_3 (pc := 20) hG m_805 d_Mo_children_20 o_v0 ?_
      refine pw_iload_n (pc := 23) hG d_Mo_children_23 rfl ?_
      refine pw_iload (pc := 24) hG d_Mo_children_24 rfl ?_
      refine pw_scalli (pc := 26) hG (fun l Δ => ct_Mo_at l Δ hΛ  h) m_791 k_Mo_at rfl ⟨by decide, by decide⟩ (Nat.le_of_ble_eq_true rfl) d_Mo_children_26 rfl (fun r26 S26 h => ?_)
      obtain ⟨hi29, h⟩ := h
      refine pw_aI (pc := 29) hG (q_arr hΛ o_v0 rfl (by decide)) hi29 d_Mo_children_29 ?_
      refine pw_iload_n (pc := 30) hG d_Mo_children_30 rfl ?_
      obtain ⟨hrx31, hry31, ha31, hb31⟩ := h
      refine pw_icmp_ne (tgt := 38) (pc := 31) hG d_Mo_children_31 (by decide) hrx31 hry31 (fun hc31 => ?_) (fun hc31 => ?_)
      · replace h := ha31 hc31
        refine pw_iconst (pc := 38) hG d_Mo_children_38 ?_
        refine pw_iadd (pc := 39) hG d_Mo_children_39 ?_
        refine pw_istore_n (pc := 40) hG d_Mo_children_40 (by decide) (fun x40 ex40 => ⟨_, rfl, ?_⟩)
        replace h := h x40 ex40
        refine pw_iinc0 (pc := 41) hG d_Mo_children_41 rfl (by decide) rfl ?_
        refine pw_goto (tgt := 7) (pc := 44) hG d_Mo_children_44 (by decide) ?_
        exact pw_sub hG [0, 1, 2, 3, 4] rfl (ih v0 v1 v2 x40 (v4 + 1) S26 o_v0 h)
      · replace h := hb31 hc31
        refine pw_iconst (pc := 34) hG d_Mo_children_34 ?_
        refine pw_goto (tgt := 39) (pc := 35) hG d_Mo_children_35 (by decide) ?_
        refine pw_iadd (pc := 39) hG d_Mo_children_39 ?_
        refine pw_istore_n (pc := 40) hG d_Mo_children_40 (by decide) (fun x40 ex40 => ⟨_, rfl, ?_⟩)
        replace h := h x40 ex40
        refine pw_iinc0 (pc := 41) hG d_Mo_children_41 rfl (by decide) rfl ?_
        refine pw_goto (tgt := 7) (pc := 44) hG d_Mo_children_44 (by decide) ?_
        exact pw_sub hG [0, 1, 2, 3, 4] rfl (ih v0 v1 v2 x40 (v4 + 1) S26 o_v0 h)
theorem b_Mo_children_0 {Λ : QLay} {G : Nat → List (Nat × Value) → List Value → QMem → Prop} {Q : Int → QMem → Prop} (hG : QAct c_Mo_children "TreeDifferModel" 5 { frames := 1, cells := 0, slots := 0, locals := 21 } Λ G) (hR : RtI c_Mo_children G Q) (v0 : Nat) (v1 : Int) (v2 : Int) (S : QMem) (o0 : qob Λ 10 v0) (h : w_Mo_children Λ v0 v1 v2 S Q) : G 0 [(0, .ref v0), (1, vI v1), (2, vI v2)] [] S := by
  have hΛ := hG.lay
  unfold w_Mo_children at h
  refine pw_iconst (pc := 0) hG d_Mo_children_0 ?_
  refine pw_ist_n (pc := 1) hG d_Mo_children_1 (by decide) rfl ?_
  refine pw_iload_n (pc := 2) hG d_Mo_children_2 rfl ?_
  refine pw_iconst (pc := 3) hG d_Mo_children_3 ?_
  refine pw_iadd (pc := 4) hG d_Mo_children_4 ?_
  refine pw_istore (pc := 5) hG d_Mo_children_5 (by decide) (fun x5 ex5 => ⟨_, rfl, ?_⟩)
  replace h := h x5 ex5
  obtain ⟨n5, h⟩ := h
  exact pw_sub hG [0, 1, 2, 3, 4] rfl (b_Mo_children_7 hG hR n5 v0 v1 v2 0 x5 S o0 h)
theorem ct_Mo_children (l : Launch) (Δ : QDl) {Λ : QLay} (hΛ : LayOk Λ) {v0 : Nat} {v1 : Int} {v2 : Int} {S : QMem} {Q : Int → QMem → Prop} (o0 : qob Λ 10 v0) (h : w_Mo_children Λ v0 v1 v2 S Q) : QCt l y_Mo_children c_Mo_children 5 (some .int) 1 21 Δ Λ [.ref v0, vI v1, vI v2] S (qI Q) :=
  QCt.mk (own := "TreeDifferModel") hΛ (by decide) rfl rfl (Nat.le_of_ble_eq_true rfl) (fun G hG ri rz rv rj ra => b_Mo_children_0 hG (fun pc lv x S d hq => ri pc lv x S rfl d ⟨x, rfl, hq⟩) v0 v1 v2 S o0 h)
theorem k_Mo_placeOf : QVf y_Mo_placeOf c_Mo_placeOf 5 (some .int) "TreeDifferModel" 2 := ⟨m_1059, m_p55, m_11, m_1060, by decide +kernel⟩
theorem b_Mo_placeOf_5 {Λ : QLay} {G : Nat → List (Nat × Value) → List Value → QMem → Prop} {Q : Int → QMem → Prop} (hG : QAct c_Mo_placeOf "TreeDifferModel" 5 { frames := 1, cells := 0, slots := 0, locals := 21 } Λ G) (hR : RtI c_Mo_placeOf G Q) : ∀ (n : Nat) (v0 : Nat) (v1 : Int) (v2 : Int) (v3 : Int) (v4 : Int) (S : QMem), qob Λ 10 v0 → w_Mo_placeOf_5 Λ Q n v0 v1 v2 v3 v4 S → G 5 [(0, .ref v0), (1, vI v1), (2, vI v2), (3, vI v3), (4, vI v4)] [] S := by
  have hΛ := hG.lay
  intro n
  induction n with
  | zero => intro v0 v1 v2 v3 v4 S o_v0 h; exact h.elim
  | succ n ih =>
    intro v0 v1 v2 v3 v4 S o_v0 h
    rw [w_Mo_placeOf_5] at h
    refine pw_iload (pc := 5) hG d_Mo_placeOf_5 rfl ?_
    refine pw_iload_n (pc := 7) hG d_Mo_placeOf_7 rfl ?_
    obtain ⟨hrx8, hry8, ha8, hb8⟩ := h
    refine pw_icmp_ge (tgt := 49) (pc := 8) hG d_Mo_placeOf_8 (by decide) hrx8 hry8 (fun hc8 => ?_) (fun hc8 => ?_)
    · replace h := ha8 hc8
      refine pw_iload_n (pc := 49) hG d_Mo_placeOf_49 rfl ?_
      exact hR 50 _ _ _ d_Mo_placeOf_50 h
    · replace h := hb8 hc8
      refine pw_iload_n (pc := 11) hG d_Mo_placeOf_11 rfl ?_
      refine pw_aload_n (pc := 12) hG d_Mo_placeOf_12 rfl ?_
      refine g10_3 (pc := 13) hG m_805 d_Mo_placeOf_13 o_v0 ?_
      refine pw_iload_n (pc := 16) hG d_Mo_placeOf_16 rfl ?_
      refine pw_iload (pc := 17) hG d_Mo_placeOf_17 rfl ?_
      refine pw_scalli (pc := 19) hG (fun l Δ => ct_Mo_at l Δ hΛ  h) m_791 k_Mo_at rfl ⟨by decide, by decide⟩ (Nat.le_of_ble_eq_true rfl) d_Mo_placeOf_19 rfl (fun r19 S19 h => ?_)
      obtain ⟨hi22, h⟩ := h
      refine pw_aI (pc := 22) hG (q_arr hΛ o_v0 rfl (by decide)) hi22 d_Mo_placeOf_22 ?_
      refine pw_aload_n (pc := 23) hG d_Mo_placeOf_23 rfl ?_
      refine g10_3 (pc := 24) hG m_805 d_Mo_placeOf_24 o_v0 ?_
      refine pw_iload_n (pc := 27) hG d_Mo_placeOf_27 rfl ?_
      refine pw_iload_n (pc := 28) hG d_Mo_placeOf_28 rfl ?_
      refine pw_scalli (pc := 29) hG (fun l Δ => ct_Mo_at l Δ hΛ  h) m_791 k_Mo_at rfl ⟨by decide, by decide⟩ (Nat.le_of_ble_eq_true rfl) d_Mo_placeOf_29 rfl (fun r29 S29 h => ?_)
      obtain ⟨hi32, h⟩ := h
      refine pw_aI (pc := 32) hG (q_arr hΛ o_v0 rfl (by decide)) hi32 d_Mo_placeOf_32 ?_
      obtain ⟨hrx33, hry33, ha33, hb33⟩ := h
      refine pw_icmp_ne (tgt := 40) (pc := 33) hG d_Mo_placeOf_33 (by decide) hrx33 hry33 (fun hc33 => ?_) (fun hc33 => ?_)
      · replace h := ha33 hc33
        refine pw_iconst (pc := 40) hG d_Mo_placeOf_40 ?_
        refine pw_iadd (pc := 41) hG d_Mo_placeOf_41 ?_
        refine pw_istore_n (pc := 42) hG d_Mo_placeOf_42 (by decide) (fun x42 ex42 => ⟨_, rfl, ?_⟩)
        replace h := h x42 ex42
        refine pw_iinc0 (pc := 43) hG d_Mo_placeOf_43 rfl (by decide) rfl ?_
        refine pw_goto (tgt := 5) (pc := 46) hG d_Mo_placeOf_46 (by decide) ?_
        exact pw_sub hG [0, 1, 2, 3, 4] rfl (ih v0 v1 v2 x42 (v4 + 1) S29 o_v0 h)
      · replace h := hb33 hc33
        refine pw_iconst (pc := 36) hG d_Mo_placeOf_36 ?_
        refine pw_goto (tgt := 41) (pc := 37) hG d_Mo_placeOf_37 (by decide) ?_
        refine pw_iadd (pc := 41) hG d_Mo_placeOf_41 ?_
        refine pw_istore_n (pc := 42) hG d_Mo_placeOf_42 (by decide) (fun x42 ex42 => ⟨_, rfl, ?_⟩)
        replace h := h x42 ex42
        refine pw_iinc0 (pc := 43) hG d_Mo_placeOf_43 rfl (by decide) rfl ?_
        refine pw_goto (tgt := 5) (pc := 46) hG d_Mo_placeOf_46 (by decide) ?_
        exact pw_sub hG [0, 1, 2, 3, 4] rfl (ih v0 v1 v2 x42 (v4 + 1) S29 o_v0 h)
theorem b_Mo_placeOf_0 {Λ : QLay} {G : Nat → List (Nat × Value) → List Value → QMem → Prop} {Q : Int → QMem → Prop} (hG : QAct c_Mo_placeOf "TreeDifferModel" 5 { frames := 1, cells := 0, slots := 0, locals := 21 } Λ G) (hR : RtI c_Mo_placeOf G Q) (v0 : Nat) (v1 : Int) (v2 : Int) (S : QMem) (o0 : qob Λ 10 v0) (h : w_Mo_placeOf Λ v0 v1 v2 S Q) : G 0 [(0, .ref v0), (1, vI v1), (2, vI v2)] [] S := by
  have hΛ := hG.lay
  unfold w_Mo_placeOf at h
  refine pw_iconst (pc := 0) hG d_Mo_placeOf_0 ?_
  refine pw_ist_n (pc := 1) hG d_Mo_placeOf_1 (by decide) rfl ?_
  refine pw_iconst (pc := 2) hG d_Mo_placeOf_2 ?_
  refine pw_ist (pc := 3) hG d_Mo_placeOf_3 (by decide) rfl ?_
  obtain ⟨n3, h⟩ := h
  exact pw_sub hG [0, 1, 2, 3, 4] rfl (b_Mo_placeOf_5 hG hR n3 v0 v1 v2 0 1 S o0 h)
theorem ct_Mo_placeOf (l : Launch) (Δ : QDl) {Λ : QLay} (hΛ : LayOk Λ) {v0 : Nat} {v1 : Int} {v2 : Int} {S : QMem} {Q : Int → QMem → Prop} (o0 : qob Λ 10 v0) (h : w_Mo_placeOf Λ v0 v1 v2 S Q) : QCt l y_Mo_placeOf c_Mo_placeOf 5 (some .int) 1 21 Δ Λ [.ref v0, vI v1, vI v2] S (qI Q) :=
  QCt.mk (own := "TreeDifferModel") hΛ (by decide) rfl rfl (Nat.le_of_ble_eq_true rfl) (fun G hG ri rz rv rj ra => b_Mo_placeOf_0 hG (fun pc lv x S d hq => ri pc lv x S rfl d ⟨x, rfl, hq⟩) v0 v1 v2 S o0 h)
theorem k_Mo_nodes : QVf y_Mo_nodes c_Mo_nodes 2 (some .int) "TreeDifferModel" 1 := ⟨m_990, m_991, m_11, m_992, by decide +kernel⟩
theorem b_Mo_nodes_0 {Λ : QLay} {G : Nat → List (Nat × Value) → List Value → QMem → Prop} {Q : Int → QMem → Prop} (hG : QAct c_Mo_nodes "TreeDifferModel" 2 { frames := 1, cells := 0, slots := 0, locals := 22 } Λ G) (hR : RtI c_Mo_nodes G Q) (v0 : Nat) (v1 : Int) (S : QMem) (o0 : qob Λ 10 v0) (h : w_Mo_nodes Λ v0 v1 S Q) : G 0 [(0, .ref v0), (1, vI v1)] [] S := by
  have hΛ := hG.lay
  unfold w_Mo_nodes at h
  refine pw_iload_n (pc := 0) hG d_Mo_nodes_0 rfl ?_
  refine pw_iconst (pc := 1) hG d_Mo_nodes_1 ?_
  refine pw_iconst (pc := 2) hG d_Mo_nodes_2 ?_
  refine pw_scalli (pc := 3) hG (fun l Δ => ct_Mo_in l Δ hΛ  h) m_942 k_Mo_in rfl ⟨by decide, by decide⟩ (Nat.le_of_ble_eq_true rfl) d_Mo_nodes_3 rfl (fun r3 S3 h => ?_)
  obtain ⟨hrx6, ha6, hb6⟩ := h
  refine pw_if_eq (tgt := 18) (pc := 6) hG d_Mo_nodes_6 (by decide) hrx6 (fun hc6 => ?_) (fun hc6 => ?_)
  · replace h := ha6 hc6
    refine pw_bipush (pc := 18) hG d_Mo_nodes_18 (by decide) ?_
    exact hR 20 _ _ _ d_Mo_nodes_20 h
  · replace h := hb6 hc6
    refine pw_aload_n (pc := 9) hG d_Mo_nodes_9 rfl ?_
    refine g10_0 (pc := 10) hG m_802 d_Mo_nodes_10 o0 ?_
    refine pw_iload_n (pc := 13) hG d_Mo_nodes_13 rfl ?_
    obtain ⟨hi14, h⟩ := h
    refine pw_aI (pc := 14) hG (q_arr hΛ o0 rfl (by decide)) hi14 d_Mo_nodes_14 ?_
    refine pw_goto (tgt := 20) (pc := 15) hG d_Mo_nodes_15 (by decide) ?_
    exact hR 20 _ _ _ d_Mo_nodes_20 h
theorem ct_Mo_nodes (l : Launch) (Δ : QDl) {Λ : QLay} (hΛ : LayOk Λ) {v0 : Nat} {v1 : Int} {S : QMem} {Q : Int → QMem → Prop} (o0 : qob Λ 10 v0) (h : w_Mo_nodes Λ v0 v1 S Q) : QCt l y_Mo_nodes c_Mo_nodes 2 (some .int) 1 22 Δ Λ [.ref v0, vI v1] S (qI Q) :=
  QCt.mk (own := "TreeDifferModel") hΛ (by decide) rfl rfl (Nat.le_of_ble_eq_true rfl) (fun G hG ri rz rv rj ra => b_Mo_nodes_0 hG (fun pc lv x S d hq => ri pc lv x S rfl d ⟨x, rfl, hq⟩) v0 v1 S o0 h)
theorem k_Mo_node : QVf y_Mo_node c_Mo_node 4 (some .int) "TreeDifferModel" 3 := ⟨m_994, m_995, m_11, m_996, by decide +kernel⟩
theorem b_Mo_node_0 {Λ : QLay} {G : Nat → List (Nat × Value) → List Value → QMem → Prop} {Q : Int → QMem → Prop} (hG : QAct c_Mo_node "TreeDifferModel" 4 { frames := 2, cells := 0, slots := 0, locals := 45 } Λ G) (hR : RtI c_Mo_node G Q) (v0 : Nat) (v1 : Int) (v2 : Int) (v3 : Int) (S : QMem) (o0 : qob Λ 10 v0) (h : w_Mo_node Λ v0 v1 v2 v3 S Q) : G 0 [(0, .ref v0), (1, vI v1), (2, vI v2), (3, vI v3)] [] S := by
  have hΛ := hG.lay
  unfold w_Mo_node at h
  refine pw_aload_n (pc := 0) hG d_Mo_node_0 rfl ?_
  refine pw_iload_n (pc := 1) hG d_Mo_node_1 rfl ?_
  refine pw_iload_n (pc := 2) hG d_Mo_node_2 rfl ?_
  refine pw_calli (pc := 3) hG (fun l Δ => ct_Mo_isNode l Δ hΛ o0 h) o0 rfl (by decide) m_997 k_Mo_isNode rfl ⟨by decide, by decide⟩ (Nat.le_of_ble_eq_true rfl) d_Mo_node_3 rfl (fun r3 S3 h => ?_)
  obtain ⟨hrx6, ha6, hb6⟩ := h
  refine pw_if_ne (tgt := 12) (pc := 6) hG d_Mo_node_6 (by decide) hrx6 (fun hc6 => ?_) (fun hc6 => ?_)
  · replace h := ha6 hc6
    refine pw_iload_n (pc := 12) hG d_Mo_node_12 rfl ?_
    obtain ⟨hr13, hz13_0, hz13_1, hz13_2, hz13_3, hz13_4, hz13_5, hzd13⟩ := h
    by_cases hc13_0 : v3 = 0
    · refine pw_table (tgt := 52) (pc := 13) hG d_Mo_node_13 hr13 (by omega) (by omega) (off := 39) (by rw [hc13_0]; rfl) (by decide) ?_
      replace h := hz13_0 hc13_0
      refine pw_aload_n (pc := 52) hG d_Mo_node_52 rfl ?_
      refine g10_1 (pc := 53) hG m_803 d_Mo_node_53 o0 ?_
      refine pw_iload_n (pc := 56) hG d_Mo_node_56 rfl ?_
      refine pw_iload_n (pc := 57) hG d_Mo_node_57 rfl ?_
      refine pw_scalli (pc := 58) hG (fun l Δ => ct_Mo_at l Δ hΛ  h) m_791 k_Mo_at rfl ⟨by decide, by decide⟩ (Nat.le_of_ble_eq_true rfl) d_Mo_node_58 rfl (fun r58 S58 h => ?_)
      obtain ⟨hi61, h⟩ := h
      refine pw_aI (pc := 61) hG (q_arr hΛ o0 rfl (by decide)) hi61 d_Mo_node_61 ?_
      exact hR 62 _ _ _ d_Mo_node_62 h
    by_cases hc13_1 : v3 = 1
    · refine pw_table (tgt := 63) (pc := 13) hG d_Mo_node_13 hr13 (by omega) (by omega) (off := 50) (by rw [hc13_1]; rfl) (by decide) ?_
      replace h := hz13_1 hc13_1
      refine pw_aload_n (pc := 63) hG d_Mo_node_63 rfl ?_
      refine g10_2 (pc := 64) hG m_804 d_Mo_node_64 o0 ?_
      refine pw_iload_n (pc := 67) hG d_Mo_node_67 rfl ?_
      refine pw_iload_n (pc := 68) hG d_Mo_node_68 rfl ?_
      refine pw_scalli (pc := 69) hG (fun l Δ => ct_Mo_at l Δ hΛ  h) m_791 k_Mo_at rfl ⟨by decide, by decide⟩ (Nat.le_of_ble_eq_true rfl) d_Mo_node_69 rfl (fun r69 S69 h => ?_)
      obtain ⟨hi72, h⟩ := h
      refine pw_aI (pc := 72) hG (q_arr hΛ o0 rfl (by decide)) hi72 d_Mo_node_72 ?_
      exact hR 73 _ _ _ d_Mo_node_73 h
    by_cases hc13_2 : v3 = 2
    · refine pw_table (tgt := 74) (pc := 13) hG d_Mo_node_13 hr13 (by omega) (by omega) (off := 61) (by rw [hc13_2]; rfl) (by decide) ?_
      replace h := hz13_2 hc13_2
      refine pw_aload_n (pc := 74) hG d_Mo_node_74 rfl ?_
      refine g10_3 (pc := 75) hG m_805 d_Mo_node_75 o0 ?_
      refine pw_iload_n (pc := 78) hG d_Mo_node_78 rfl ?_
      refine pw_iload_n (pc := 79) hG d_Mo_node_79 rfl ?_
      refine pw_scalli (pc := 80) hG (fun l Δ => ct_Mo_at l Δ hΛ  h) m_791 k_Mo_at rfl ⟨by decide, by decide⟩ (Nat.le_of_ble_eq_true rfl) d_Mo_node_80 rfl (fun r80 S80 h => ?_)
      obtain ⟨hi83, h⟩ := h
      refine pw_aI (pc := 83) hG (q_arr hΛ o0 rfl (by decide)) hi83 d_Mo_node_83 ?_
      exact hR 84 _ _ _ d_Mo_node_84 h
    by_cases hc13_3 : v3 = 3
    · refine pw_table (tgt := 85) (pc := 13) hG d_Mo_node_13 hr13 (by omega) (by omega) (off := 72) (by rw [hc13_3]; rfl) (by decide) ?_
      replace h := hz13_3 hc13_3
      refine pw_aload_n (pc := 85) hG d_Mo_node_85 rfl ?_
      refine pw_iload_n (pc := 86) hG d_Mo_node_86 rfl ?_
      refine pw_iload_n (pc := 87) hG d_Mo_node_87 rfl ?_
      refine pw_calli (pc := 88) hG (fun l Δ => ct_Mo_children l Δ hΛ o0 h) o0 rfl (by decide) m_1001 k_Mo_children rfl ⟨by decide, by decide⟩ (Nat.le_of_ble_eq_true rfl) d_Mo_node_88 rfl (fun r88 S88 h => ?_)
      exact hR 91 _ _ _ d_Mo_node_91 h
    by_cases hc13_4 : v3 = 4
    · refine pw_table (tgt := 92) (pc := 13) hG d_Mo_node_13 hr13 (by omega) (by omega) (off := 79) (by rw [hc13_4]; rfl) (by decide) ?_
      replace h := hz13_4 hc13_4
      refine pw_aload_n (pc := 92) hG d_Mo_node_92 rfl ?_
      refine pw_iload_n (pc := 93) hG d_Mo_node_93 rfl ?_
      refine pw_iload_n (pc := 94) hG d_Mo_node_94 rfl ?_
      refine pw_calli (pc := 95) hG (fun l Δ => ct_Mo_height l Δ hΛ o0 h) o0 rfl (by decide) m_1005 k_Mo_height rfl ⟨by decide, by decide⟩ (Nat.le_of_ble_eq_true rfl) d_Mo_node_95 rfl (fun r95 S95 h => ?_)
      exact hR 98 _ _ _ d_Mo_node_98 h
    by_cases hc13_5 : v3 = 5
    · refine pw_table (tgt := 99) (pc := 13) hG d_Mo_node_13 hr13 (by omega) (by omega) (off := 86) (by rw [hc13_5]; rfl) (by decide) ?_
      replace h := hz13_5 hc13_5
      refine pw_aload_n (pc := 99) hG d_Mo_node_99 rfl ?_
      refine pw_iload_n (pc := 100) hG d_Mo_node_100 rfl ?_
      refine pw_iload_n (pc := 101) hG d_Mo_node_101 rfl ?_
      refine pw_calli (pc := 102) hG (fun l Δ => ct_Mo_size l Δ hΛ o0 h) o0 rfl (by decide) m_1009 k_Mo_size rfl ⟨by decide, by decide⟩ (Nat.le_of_ble_eq_true rfl) d_Mo_node_102 rfl (fun r102 S102 h => ?_)
      refine pw_iconst (pc := 105) hG d_Mo_node_105 ?_
      refine pw_isub (pc := 106) hG d_Mo_node_106 ?_
      exact hR 107 _ _ _ d_Mo_node_107 h
    have hcd13 : v3 < 0 ∨ 5 < v3 := by omega
    refine pw_tableD (tgt := 108) (pc := 13) hG d_Mo_node_13 hr13 hcd13 (by decide) ?_
    replace h := hzd13 hcd13
    refine pw_bipush (pc := 108) hG d_Mo_node_108 (by decide) ?_
    exact hR 110 _ _ _ d_Mo_node_110 h
  · replace h := hb6 hc6
    refine pw_bipush (pc := 9) hG d_Mo_node_9 (by decide) ?_
    exact hR 11 _ _ _ d_Mo_node_11 h
theorem ct_Mo_node (l : Launch) (Δ : QDl) {Λ : QLay} (hΛ : LayOk Λ) {v0 : Nat} {v1 : Int} {v2 : Int} {v3 : Int} {S : QMem} {Q : Int → QMem → Prop} (o0 : qob Λ 10 v0) (h : w_Mo_node Λ v0 v1 v2 v3 S Q) : QCt l y_Mo_node c_Mo_node 4 (some .int) 2 45 Δ Λ [.ref v0, vI v1, vI v2, vI v3] S (qI Q) :=
  QCt.mk (own := "TreeDifferModel") hΛ (by decide) rfl rfl (Nat.le_of_ble_eq_true rfl) (fun G hG ri rz rv rj ra => b_Mo_node_0 hG (fun pc lv x S d hq => ri pc lv x S rfl d ⟨x, rfl, hq⟩) v0 v1 v2 v3 S o0 h)
theorem k_Mo_child : QVf y_Mo_child c_Mo_child 4 (some .int) "TreeDifferModel" 3 := ⟨m_1014, m_1015, m_11, m_1016, by decide +kernel⟩
theorem b_Mo_child_0 {Λ : QLay} {G : Nat → List (Nat × Value) → List Value → QMem → Prop} {Q : Int → QMem → Prop} (hG : QAct c_Mo_child "TreeDifferModel" 4 { frames := 2, cells := 0, slots := 0, locals := 46 } Λ G) (hR : RtI c_Mo_child G Q) (v0 : Nat) (v1 : Int) (v2 : Int) (v3 : Int) (S : QMem) (o0 : qob Λ 10 v0) (h : w_Mo_child Λ v0 v1 v2 v3 S Q) : G 0 [(0, .ref v0), (1, vI v1), (2, vI v2), (3, vI v3)] [] S := by
  have hΛ := hG.lay
  unfold w_Mo_child at h
  refine pw_aload_n (pc := 0) hG d_Mo_child_0 rfl ?_
  refine pw_iload_n (pc := 1) hG d_Mo_child_1 rfl ?_
  refine pw_iload_n (pc := 2) hG d_Mo_child_2 rfl ?_
  refine pw_calli (pc := 3) hG (fun l Δ => ct_Mo_isNode l Δ hΛ o0 h) o0 rfl (by decide) m_997 k_Mo_isNode rfl ⟨by decide, by decide⟩ (Nat.le_of_ble_eq_true rfl) d_Mo_child_3 rfl (fun r3 S3 h => ?_)
  obtain ⟨hrx6, ha6, hb6⟩ := h
  refine pw_if_eq (tgt := 19) (pc := 6) hG d_Mo_child_6 (by decide) hrx6 (fun hc6 => ?_) (fun hc6 => ?_)
  · replace h := ha6 hc6
    refine pw_bipush (pc := 19) hG d_Mo_child_19 (by decide) ?_
    exact hR 21 _ _ _ d_Mo_child_21 h
  · replace h := hb6 hc6
    refine pw_aload_n (pc := 9) hG d_Mo_child_9 rfl ?_
    refine pw_iload_n (pc := 10) hG d_Mo_child_10 rfl ?_
    refine pw_iload_n (pc := 11) hG d_Mo_child_11 rfl ?_
    refine pw_iload_n (pc := 12) hG d_Mo_child_12 rfl ?_
    refine pw_calli (pc := 13) hG (fun l Δ => ct_Mo_childAt l Δ hΛ o0 h) o0 rfl (by decide) m_1017 k_Mo_childAt rfl ⟨by decide, by decide⟩ (Nat.le_of_ble_eq_true rfl) d_Mo_child_13 rfl (fun r13 S13 h => ?_)
    refine pw_goto (tgt := 21) (pc := 16) hG d_Mo_child_16 (by decide) ?_
    exact hR 21 _ _ _ d_Mo_child_21 h
theorem ct_Mo_child (l : Launch) (Δ : QDl) {Λ : QLay} (hΛ : LayOk Λ) {v0 : Nat} {v1 : Int} {v2 : Int} {v3 : Int} {S : QMem} {Q : Int → QMem → Prop} (o0 : qob Λ 10 v0) (h : w_Mo_child Λ v0 v1 v2 v3 S Q) : QCt l y_Mo_child c_Mo_child 4 (some .int) 2 46 Δ Λ [.ref v0, vI v1, vI v2, vI v3] S (qI Q) :=
  QCt.mk (own := "TreeDifferModel") hΛ (by decide) rfl rfl (Nat.le_of_ble_eq_true rfl) (fun G hG ri rz rv rj ra => b_Mo_child_0 hG (fun pc lv x S d hq => ri pc lv x S rfl d ⟨x, rfl, hq⟩) v0 v1 v2 v3 S o0 h)
theorem k_Mo_areEqual : QVf y_Mo_areEqual c_Mo_areEqual 8 (some .boolean) "TreeDifferModel" 2 := ⟨m_1027, m_p49, m_11, m_1028, by decide +kernel⟩
theorem b_Mo_areEqual_27 {Λ : QLay} {G : Nat → List (Nat × Value) → List Value → QMem → Prop} {Q : Int → QMem → Prop} (hG : QAct c_Mo_areEqual "TreeDifferModel" 8 { frames := 2, cells := 0, slots := 0, locals := 43 } Λ G) (hR : RtZ c_Mo_areEqual G Q) : ∀ (n : Nat) (v0 : Nat) (v1 : Int) (v2 : Int) (v3 : Int) (v4 : Int) (v5 : Int) (S : QMem), qob Λ 10 v0 → w_Mo_areEqual_27 Λ Q n v0 v1 v2 v3 v4 v5 S → G 27 [(0, .ref v0), (1, vI v1), (2, vI v2), (3, vI v3), (4, vI v4), (5, vI v5)] [] S := by
  have hΛ := hG.lay
  intro n
  induction n with
  | zero => intro v0 v1 v2 v3 v4 v5 S o_v0 h; exact h.elim
  | succ n ih =>
    intro v0 v1 v2 v3 v4 v5 S o_v0 h
    rw [w_Mo_areEqual_27] at h
    refine pw_iload (pc := 27) hG d_Mo_areEqual_27 rfl ?_
    refine pw_iload_n (pc := 29) hG d_Mo_areEqual_29 rfl ?_
    obtain ⟨hrx30, hry30, ha30, hb30⟩ := h
    refine pw_icmp_ge (tgt := 131) (pc := 30) hG d_Mo_areEqual_30 (by decide) hrx30 hry30 (fun hc30 => ?_) (fun hc30 => ?_)
    · replace h := ha30 hc30
      refine pw_iload (pc := 131) hG d_Mo_areEqual_131 rfl ?_
      obtain ⟨hb133, h⟩ := h
      exact hR 133 _ _ _ d_Mo_areEqual_133 hb133 h
    · replace h := hb30 hc30
      refine pw_iload (pc := 33) hG d_Mo_areEqual_33 rfl ?_
      obtain ⟨hrx35, ha35, hb35⟩ := h
      refine pw_if_eq (tgt := 131) (pc := 35) hG d_Mo_areEqual_35 (by decide) hrx35 (fun hc35 => ?_) (fun hc35 => ?_)
      · replace h := ha35 hc35
        refine pw_iload (pc := 131) hG d_Mo_areEqual_131 rfl ?_
        obtain ⟨hb133, h⟩ := h
        exact hR 133 _ _ _ d_Mo_areEqual_133 hb133 h
      · replace h := hb35 hc35
        refine pw_iconst (pc := 38) hG d_Mo_areEqual_38 ?_
        refine pw_iload_n (pc := 39) hG d_Mo_areEqual_39 rfl ?_
        refine pw_iload (pc := 40) hG d_Mo_areEqual_40 rfl ?_
        refine pw_iadd (pc := 42) hG d_Mo_areEqual_42 ?_
        refine pw_scalli (pc := 43) hG (fun l Δ => ct_Mo_at l Δ hΛ  h) m_791 k_Mo_at rfl ⟨by decide, by decide⟩ (Nat.le_of_ble_eq_true rfl) d_Mo_areEqual_43 rfl (fun r43 S43 h => ?_)
        refine pw_ist (pc := 46) hG d_Mo_areEqual_46 (by decide) rfl ?_
        refine pw_iconst (pc := 48) hG d_Mo_areEqual_48 ?_
        refine pw_iload_n (pc := 49) hG d_Mo_areEqual_49 rfl ?_
        refine pw_iload (pc := 50) hG d_Mo_areEqual_50 rfl ?_
        refine pw_iadd (pc := 52) hG d_Mo_areEqual_52 ?_
        refine pw_scalli (pc := 53) hG (fun l Δ => ct_Mo_at l Δ hΛ  h) m_791 k_Mo_at rfl ⟨by decide, by decide⟩ (Nat.le_of_ble_eq_true rfl) d_Mo_areEqual_53 rfl (fun r53 S53 h => ?_)
        refine pw_ist (pc := 56) hG d_Mo_areEqual_56 (by decide) rfl ?_
        refine pw_aload_n (pc := 58) hG d_Mo_areEqual_58 rfl ?_
        refine g10_1 (pc := 59) hG m_803 d_Mo_areEqual_59 o_v0 ?_
        refine pw_iload (pc := 62) hG d_Mo_areEqual_62 rfl ?_
        obtain ⟨hi64, h⟩ := h
        refine pw_aI (pc := 64) hG (q_arr hΛ o_v0 rfl (by decide)) hi64 d_Mo_areEqual_64 ?_
        refine pw_aload_n (pc := 65) hG d_Mo_areEqual_65 rfl ?_
        refine g10_1 (pc := 66) hG m_803 d_Mo_areEqual_66 o_v0 ?_
        refine pw_iload (pc := 69) hG d_Mo_areEqual_69 rfl ?_
        obtain ⟨hi71, h⟩ := h
        refine pw_aI (pc := 71) hG (q_arr hΛ o_v0 rfl (by decide)) hi71 d_Mo_areEqual_71 ?_
        obtain ⟨hrx72, hry72, ha72, hb72⟩ := h
        refine pw_icmp_ne (tgt := 122) (pc := 72) hG d_Mo_areEqual_72 (by decide) hrx72 hry72 (fun hc72 => ?_) (fun hc72 => ?_)
        · replace h := ha72 hc72
          refine pw_iconst (pc := 122) hG d_Mo_areEqual_122 ?_
          refine pw_ist (pc := 123) hG d_Mo_areEqual_123 (by decide) rfl ?_
          refine pw_iinc0 (pc := 125) hG d_Mo_areEqual_125 rfl (by decide) rfl ?_
          refine pw_goto (tgt := 27) (pc := 128) hG d_Mo_areEqual_128 (by decide) ?_
          exact pw_sub hG [0, 1, 2, 3, 4, 5] rfl (ih v0 v1 v2 v3 0 (v5 + 1) S53 o_v0 h)
        · replace h := hb72 hc72
          refine pw_aload_n (pc := 75) hG d_Mo_areEqual_75 rfl ?_
          refine g10_2 (pc := 76) hG m_804 d_Mo_areEqual_76 o_v0 ?_
          refine pw_iload (pc := 79) hG d_Mo_areEqual_79 rfl ?_
          obtain ⟨hi81, h⟩ := h
          refine pw_aI (pc := 81) hG (q_arr hΛ o_v0 rfl (by decide)) hi81 d_Mo_areEqual_81 ?_
          refine pw_aload_n (pc := 82) hG d_Mo_areEqual_82 rfl ?_
          refine g10_2 (pc := 83) hG m_804 d_Mo_areEqual_83 o_v0 ?_
          refine pw_iload (pc := 86) hG d_Mo_areEqual_86 rfl ?_
          obtain ⟨hi88, h⟩ := h
          refine pw_aI (pc := 88) hG (q_arr hΛ o_v0 rfl (by decide)) hi88 d_Mo_areEqual_88 ?_
          obtain ⟨hrx89, hry89, ha89, hb89⟩ := h
          refine pw_icmp_ne (tgt := 122) (pc := 89) hG d_Mo_areEqual_89 (by decide) hrx89 hry89 (fun hc89 => ?_) (fun hc89 => ?_)
          · replace h := ha89 hc89
            refine pw_iconst (pc := 122) hG d_Mo_areEqual_122 ?_
            refine pw_ist (pc := 123) hG d_Mo_areEqual_123 (by decide) rfl ?_
            refine pw_iinc0 (pc := 125) hG d_Mo_areEqual_125 rfl (by decide) rfl ?_
            refine pw_goto (tgt := 27) (pc := 128) hG d_Mo_areEqual_128 (by decide) ?_
            exact pw_sub hG [0, 1, 2, 3, 4, 5] rfl (ih v0 v1 v2 v3 0 (v5 + 1) S53 o_v0 h)
          · replace h := hb89 hc89
            refine pw_iload (pc := 92) hG d_Mo_areEqual_92 rfl ?_
            obtain ⟨hrx94, ha94, hb94⟩ := h
            refine pw_if_eq (tgt := 118) (pc := 94) hG d_Mo_areEqual_94 (by decide) hrx94 (fun hc94 => ?_) (fun hc94 => ?_)
            · replace h := ha94 hc94
              refine pw_iconst (pc := 118) hG d_Mo_areEqual_118 ?_
              refine pw_goto (tgt := 123) (pc := 119) hG d_Mo_areEqual_119 (by decide) ?_
              refine pw_ist (pc := 123) hG d_Mo_areEqual_123 (by decide) rfl ?_
              refine pw_iinc0 (pc := 125) hG d_Mo_areEqual_125 rfl (by decide) rfl ?_
              refine pw_goto (tgt := 27) (pc := 128) hG d_Mo_areEqual_128 (by decide) ?_
              exact pw_sub hG [0, 1, 2, 3, 4, 5] rfl (ih v0 v1 v2 v3 1 (v5 + 1) S53 o_v0 h)
            · replace h := hb94 hc94
              refine pw_aload_n (pc := 97) hG d_Mo_areEqual_97 rfl ?_
              refine g10_3 (pc := 98) hG m_805 d_Mo_areEqual_98 o_v0 ?_
              refine pw_iload (pc := 101) hG d_Mo_areEqual_101 rfl ?_
              obtain ⟨hi103, h⟩ := h
              refine pw_aI (pc := 103) hG (q_arr hΛ o_v0 rfl (by decide)) hi103 d_Mo_areEqual_103 ?_
              refine pw_iload_n (pc := 104) hG d_Mo_areEqual_104 rfl ?_
              refine pw_isub (pc := 105) hG d_Mo_areEqual_105 ?_
              refine pw_aload_n (pc := 106) hG d_Mo_areEqual_106 rfl ?_
              refine g10_3 (pc := 107) hG m_805 d_Mo_areEqual_107 o_v0 ?_
              refine pw_iload (pc := 110) hG d_Mo_areEqual_110 rfl ?_
              obtain ⟨hi112, h⟩ := h
              refine pw_aI (pc := 112) hG (q_arr hΛ o_v0 rfl (by decide)) hi112 d_Mo_areEqual_112 ?_
              refine pw_iload_n (pc := 113) hG d_Mo_areEqual_113 rfl ?_
              refine pw_isub (pc := 114) hG d_Mo_areEqual_114 ?_
              obtain ⟨hrx115, hry115, ha115, hb115⟩ := h
              refine pw_icmp_ne (tgt := 122) (pc := 115) hG d_Mo_areEqual_115 (by decide) hrx115 hry115 (fun hc115 => ?_) (fun hc115 => ?_)
              · replace h := ha115 hc115
                refine pw_iconst (pc := 122) hG d_Mo_areEqual_122 ?_
                refine pw_ist (pc := 123) hG d_Mo_areEqual_123 (by decide) rfl ?_
                refine pw_iinc0 (pc := 125) hG d_Mo_areEqual_125 rfl (by decide) rfl ?_
                refine pw_goto (tgt := 27) (pc := 128) hG d_Mo_areEqual_128 (by decide) ?_
                exact pw_sub hG [0, 1, 2, 3, 4, 5] rfl (ih v0 v1 v2 v3 0 (v5 + 1) S53 o_v0 h)
              · replace h := hb115 hc115
                refine pw_iconst (pc := 118) hG d_Mo_areEqual_118 ?_
                refine pw_goto (tgt := 123) (pc := 119) hG d_Mo_areEqual_119 (by decide) ?_
                refine pw_ist (pc := 123) hG d_Mo_areEqual_123 (by decide) rfl ?_
                refine pw_iinc0 (pc := 125) hG d_Mo_areEqual_125 rfl (by decide) rfl ?_
                refine pw_goto (tgt := 27) (pc := 128) hG d_Mo_areEqual_128 (by decide) ?_
                exact pw_sub hG [0, 1, 2, 3, 4, 5] rfl (ih v0 v1 v2 v3 1 (v5 + 1) S53 o_v0 h)
theorem b_Mo_areEqual_0 {Λ : QLay} {G : Nat → List (Nat × Value) → List Value → QMem → Prop} {Q : Int → QMem → Prop} (hG : QAct c_Mo_areEqual "TreeDifferModel" 8 { frames := 2, cells := 0, slots := 0, locals := 43 } Λ G) (hR : RtZ c_Mo_areEqual G Q) (v0 : Nat) (v1 : Int) (v2 : Int) (S : QMem) (o0 : qob Λ 10 v0) (h : w_Mo_areEqual Λ v0 v1 v2 S Q) : G 0 [(0, .ref v0), (1, vI v1), (2, vI v2)] [] S := by
  have hΛ := hG.lay
  unfold w_Mo_areEqual at h
  refine pw_aload_n (pc := 0) hG d_Mo_areEqual_0 rfl ?_
  refine pw_iconst (pc := 1) hG d_Mo_areEqual_1 ?_
  refine pw_iload_n (pc := 2) hG d_Mo_areEqual_2 rfl ?_
  refine pw_calli (pc := 3) hG (fun l Δ => ct_Mo_size l Δ hΛ o0 h) o0 rfl (by decide) m_1009 k_Mo_size rfl ⟨by decide, by decide⟩ (Nat.le_of_ble_eq_true rfl) d_Mo_areEqual_3 rfl (fun r3 S3 h => ?_)
  refine pw_ist_n (pc := 6) hG d_Mo_areEqual_6 (by decide) rfl ?_
  refine pw_iload_n (pc := 7) hG d_Mo_areEqual_7 rfl ?_
  refine pw_aload_n (pc := 8) hG d_Mo_areEqual_8 rfl ?_
  refine pw_iconst (pc := 9) hG d_Mo_areEqual_9 ?_
  refine pw_iload_n (pc := 10) hG d_Mo_areEqual_10 rfl ?_
  refine pw_calli (pc := 11) hG (fun l Δ => ct_Mo_size l Δ hΛ o0 h) o0 rfl (by decide) m_1009 k_Mo_size rfl ⟨by decide, by decide⟩ (Nat.le_of_ble_eq_true rfl) d_Mo_areEqual_11 rfl (fun r11 S11 h => ?_)
  obtain ⟨hrx14, hry14, ha14, hb14⟩ := h
  refine pw_icmp_ne (tgt := 21) (pc := 14) hG d_Mo_areEqual_14 (by decide) hrx14 hry14 (fun hc14 => ?_) (fun hc14 => ?_)
  · replace h := ha14 hc14
    refine pw_iconst (pc := 21) hG d_Mo_areEqual_21 ?_
    refine pw_ist (pc := 22) hG d_Mo_areEqual_22 (by decide) rfl ?_
    refine pw_iconst (pc := 24) hG d_Mo_areEqual_24 ?_
    refine pw_ist (pc := 25) hG d_Mo_areEqual_25 (by decide) rfl ?_
    obtain ⟨n25, h⟩ := h
    exact pw_sub hG [0, 1, 2, 3, 4, 5] rfl (b_Mo_areEqual_27 hG hR n25 v0 v1 v2 r3 0 0 S11 o0 h)
  · replace h := hb14 hc14
    refine pw_iconst (pc := 17) hG d_Mo_areEqual_17 ?_
    refine pw_goto (tgt := 22) (pc := 18) hG d_Mo_areEqual_18 (by decide) ?_
    refine pw_ist (pc := 22) hG d_Mo_areEqual_22 (by decide) rfl ?_
    refine pw_iconst (pc := 24) hG d_Mo_areEqual_24 ?_
    refine pw_ist (pc := 25) hG d_Mo_areEqual_25 (by decide) rfl ?_
    obtain ⟨n25, h⟩ := h
    exact pw_sub hG [0, 1, 2, 3, 4, 5] rfl (b_Mo_areEqual_27 hG hR n25 v0 v1 v2 r3 1 0 S11 o0 h)
theorem ct_Mo_areEqual (l : Launch) (Δ : QDl) {Λ : QLay} (hΛ : LayOk Λ) {v0 : Nat} {v1 : Int} {v2 : Int} {S : QMem} {Q : Int → QMem → Prop} (o0 : qob Λ 10 v0) (h : w_Mo_areEqual Λ v0 v1 v2 S Q) : QCt l y_Mo_areEqual c_Mo_areEqual 8 (some .boolean) 2 43 Δ Λ [.ref v0, vI v1, vI v2] S (qI Q) :=
  QCt.mk (own := "TreeDifferModel") hΛ (by decide) rfl rfl (Nat.le_of_ble_eq_true rfl) (fun G hG ri rz rv rj ra => b_Mo_areEqual_0 hG (fun pc lv x S d hb hq => rz pc lv x S rfl d hb ⟨x, rfl, hq⟩) v0 v1 v2 S o0 h)
