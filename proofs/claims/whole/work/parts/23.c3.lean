theorem k_Tx_takesDigit : QVf y_Tx_takesDigit c_Tx_takesDigit 4 (some .boolean) "TreeDiffer$Text" 1 := ⟨m_415, m_p5, m_2, m_416, by decide +kernel⟩
theorem b_Tx_takesDigit_21 {Λ : QLay} {G : Nat → List (Nat × Value) → List Value → QMem → Prop} {Q : Int → QMem → Prop} (hG : QAct c_Tx_takesDigit "TreeDiffer$Text" 4 { frames := 0, cells := 0, slots := 0, locals := 0 } Λ G) (hR : RtZ c_Tx_takesDigit G Q) (v0 : Nat) (v1 : Int) (s0 : Int) (S : QMem) (o_v0 : qob Λ 6 v0) (h : w_Tx_takesDigit_21 Λ Q v0 v1 s0 S) : G 21 [(0, .ref v0), (1, vI v1)] [vI s0] S := by
  have hΛ := hG.lay
  unfold w_Tx_takesDigit_21 at h
  refine pw_ist_n (pc := 21) hG d_Tx_takesDigit_21 (by decide) rfl ?_
  refine pw_aload_n (pc := 22) hG d_Tx_takesDigit_22 rfl ?_
  refine g6_2 (pc := 23) hG m_101 d_Tx_takesDigit_23 o_v0 ?_
  refine g7_0 (pc := 26) hG m_37 d_Tx_takesDigit_26 (q_rf hΛ o_v0 rfl (by decide)) ?_
  refine pw_iconst (pc := 29) hG d_Tx_takesDigit_29 ?_
  refine pw_isub (pc := 30) hG d_Tx_takesDigit_30 ?_
  refine pw_istore_n (pc := 31) hG d_Tx_takesDigit_31 (by decide) (fun x31 ex31 => ⟨_, rfl, ?_⟩)
  replace h := h x31 ex31
  refine pw_iload_n (pc := 32) hG d_Tx_takesDigit_32 rfl ?_
  refine pw_bipush (pc := 33) hG d_Tx_takesDigit_33 (by decide) ?_
  obtain ⟨hrx35, ha35, hb35⟩ := h
  refine pw_icmp_lt (tgt := 52) (pc := 35) hG d_Tx_takesDigit_35 (by decide) hrx35 (q_lit rfl) (fun hc35 => ?_) (fun hc35 => ?_)
  · replace h := ha35 hc35
    refine pw_iconst (pc := 52) hG d_Tx_takesDigit_52 ?_
    exact hR 53 _ _ _ d_Tx_takesDigit_53 (Or.inl rfl) h
  · replace h := hb35 hc35
    refine pw_iload_n (pc := 38) hG d_Tx_takesDigit_38 rfl ?_
    refine pw_bipush (pc := 39) hG d_Tx_takesDigit_39 (by decide) ?_
    obtain ⟨hrx41, ha41, hb41⟩ := h
    refine pw_icmp_gt (tgt := 52) (pc := 41) hG d_Tx_takesDigit_41 (by decide) hrx41 (q_lit rfl) (fun hc41 => ?_) (fun hc41 => ?_)
    · replace h := ha41 hc41
      refine pw_iconst (pc := 52) hG d_Tx_takesDigit_52 ?_
      exact hR 53 _ _ _ d_Tx_takesDigit_53 (Or.inl rfl) h
    · replace h := hb41 hc41
      refine pw_iload_n (pc := 44) hG d_Tx_takesDigit_44 rfl ?_
      obtain ⟨hrx45, ha45, hb45⟩ := h
      refine pw_if_eq (tgt := 52) (pc := 45) hG d_Tx_takesDigit_45 (by decide) hrx45 (fun hc45 => ?_) (fun hc45 => ?_)
      · replace h := ha45 hc45
        refine pw_iconst (pc := 52) hG d_Tx_takesDigit_52 ?_
        exact hR 53 _ _ _ d_Tx_takesDigit_53 (Or.inl rfl) h
      · replace h := hb45 hc45
        refine pw_iload_n (pc := 48) hG d_Tx_takesDigit_48 rfl ?_
        obtain ⟨hrx49, ha49, hb49⟩ := h
        refine pw_if_ge (tgt := 54) (pc := 49) hG d_Tx_takesDigit_49 (by decide) hrx49 (fun hc49 => ?_) (fun hc49 => ?_)
        · replace h := ha49 hc49
          refine pw_aload_n (pc := 54) hG d_Tx_takesDigit_54 rfl ?_
          refine g6_2 (pc := 55) hG m_101 d_Tx_takesDigit_55 o_v0 ?_
          refine g7_2 (pc := 58) hG m_49 d_Tx_takesDigit_58 (q_rf hΛ o_v0 rfl (by decide)) ?_
          refine pw_iload_n (pc := 61) hG d_Tx_takesDigit_61 rfl ?_
          refine pw_bipush (pc := 62) hG d_Tx_takesDigit_62 (by decide) ?_
          refine pw_aload_n (pc := 64) hG d_Tx_takesDigit_64 rfl ?_
          refine g6_2 (pc := 65) hG m_101 d_Tx_takesDigit_65 o_v0 ?_
          refine g7_2 (pc := 68) hG m_49 d_Tx_takesDigit_68 (q_rf hΛ o_v0 rfl (by decide)) ?_
          refine pw_iload_n (pc := 71) hG d_Tx_takesDigit_71 rfl ?_
          obtain ⟨hi72, h⟩ := h
          refine pw_aI (pc := 72) hG (q_arr hΛ (q_rf hΛ o_v0 rfl (by decide)) rfl (by decide)) hi72 d_Tx_takesDigit_72 ?_
          refine pw_imul (pc := 73) hG d_Tx_takesDigit_73 ?_
          refine pw_iload_n (pc := 74) hG d_Tx_takesDigit_74 rfl ?_
          refine pw_iadd (pc := 75) hG d_Tx_takesDigit_75 ?_
          refine pw_bipush (pc := 76) hG d_Tx_takesDigit_76 (by decide) ?_
          refine pw_isub (pc := 78) hG d_Tx_takesDigit_78 ?_
          obtain ⟨hi79, h⟩ := h
          refine pw_sI (pc := 79) hG (q_arr hΛ (q_rf hΛ o_v0 rfl (by decide)) rfl (by decide)) hi79 d_Tx_takesDigit_79 (fun S79 eS79 => ?_)
          replace h := h S79 eS79
          refine pw_aload_n (pc := 80) hG d_Tx_takesDigit_80 rfl ?_
          refine pw_aload_n (pc := 81) hG d_Tx_takesDigit_81 rfl ?_
          refine g6_4 (pc := 82) hG m_105 d_Tx_takesDigit_82 o_v0 ?_
          refine pw_iconst (pc := 85) hG d_Tx_takesDigit_85 ?_
          obtain ⟨hrx86, ha86, hb86⟩ := h
          refine pw_icmp_ne (tgt := 99) (pc := 86) hG d_Tx_takesDigit_86 (by decide) hrx86 (q_lit rfl) (fun hc86 => ?_) (fun hc86 => ?_)
          · replace h := ha86 hc86
            refine pw_iconst (pc := 99) hG d_Tx_takesDigit_99 ?_
            refine p6_4 (pc := 100) hG m_105 d_Tx_takesDigit_100 o_v0 (fun S100 eS100 => ?_)
            replace h := h S100 eS100
            refine pw_iconst (pc := 103) hG d_Tx_takesDigit_103 ?_
            exact hR 104 _ _ _ d_Tx_takesDigit_104 (Or.inr rfl) h
          · replace h := hb86 hc86
            refine pw_iload_n (pc := 89) hG d_Tx_takesDigit_89 rfl ?_
            refine pw_bipush (pc := 90) hG d_Tx_takesDigit_90 (by decide) ?_
            obtain ⟨hrx92, ha92, hb92⟩ := h
            refine pw_icmp_eq (tgt := 99) (pc := 92) hG d_Tx_takesDigit_92 (by decide) hrx92 (q_lit rfl) (fun hc92 => ?_) (fun hc92 => ?_)
            · replace h := ha92 hc92
              refine pw_iconst (pc := 99) hG d_Tx_takesDigit_99 ?_
              refine p6_4 (pc := 100) hG m_105 d_Tx_takesDigit_100 o_v0 (fun S100 eS100 => ?_)
              replace h := h S100 eS100
              refine pw_iconst (pc := 103) hG d_Tx_takesDigit_103 ?_
              exact hR 104 _ _ _ d_Tx_takesDigit_104 (Or.inr rfl) h
            · replace h := hb92 hc92
              refine pw_iconst (pc := 95) hG d_Tx_takesDigit_95 ?_
              refine pw_goto (tgt := 100) (pc := 96) hG d_Tx_takesDigit_96 (by decide) ?_
              refine p6_4 (pc := 100) hG m_105 d_Tx_takesDigit_100 o_v0 (fun S100 eS100 => ?_)
              replace h := h S100 eS100
              refine pw_iconst (pc := 103) hG d_Tx_takesDigit_103 ?_
              exact hR 104 _ _ _ d_Tx_takesDigit_104 (Or.inr rfl) h
        · replace h := hb49 hc49
          refine pw_iconst (pc := 52) hG d_Tx_takesDigit_52 ?_
          exact hR 53 _ _ _ d_Tx_takesDigit_53 (Or.inl rfl) h
theorem b_Tx_takesDigit_16 {Λ : QLay} {G : Nat → List (Nat × Value) → List Value → QMem → Prop} {Q : Int → QMem → Prop} (hG : QAct c_Tx_takesDigit "TreeDiffer$Text" 4 { frames := 0, cells := 0, slots := 0, locals := 0 } Λ G) (hR : RtZ c_Tx_takesDigit G Q) (v0 : Nat) (v1 : Int) (S : QMem) (o_v0 : qob Λ 6 v0) (h : w_Tx_takesDigit_16 Λ Q v0 v1 S) : G 16 [(0, .ref v0), (1, vI v1)] [] S := by
  have hΛ := hG.lay
  unfold w_Tx_takesDigit_16 at h
  refine pw_iconst (pc := 16) hG d_Tx_takesDigit_16 ?_
  refine pw_goto (tgt := 21) (pc := 17) hG d_Tx_takesDigit_17 (by decide) ?_
  exact pw_sub hG [0, 1] rfl (b_Tx_takesDigit_21 hG hR v0 v1 1 S o_v0 h)
theorem b_Tx_takesDigit_0 {Λ : QLay} {G : Nat → List (Nat × Value) → List Value → QMem → Prop} {Q : Int → QMem → Prop} (hG : QAct c_Tx_takesDigit "TreeDiffer$Text" 4 { frames := 0, cells := 0, slots := 0, locals := 0 } Λ G) (hR : RtZ c_Tx_takesDigit G Q) (v0 : Nat) (v1 : Int) (S : QMem) (o0 : qob Λ 6 v0) (h : w_Tx_takesDigit Λ v0 v1 S Q) : G 0 [(0, .ref v0), (1, vI v1)] [] S := by
  have hΛ := hG.lay
  unfold w_Tx_takesDigit at h
  refine pw_aload_n (pc := 0) hG d_Tx_takesDigit_0 rfl ?_
  refine g6_4 (pc := 1) hG m_105 d_Tx_takesDigit_1 o0 ?_
  refine pw_iconst (pc := 4) hG d_Tx_takesDigit_4 ?_
  obtain ⟨hrx5, ha5, hb5⟩ := h
  refine pw_icmp_eq (tgt := 16) (pc := 5) hG d_Tx_takesDigit_5 (by decide) hrx5 (q_lit rfl) (fun hc5 => ?_) (fun hc5 => ?_)
  · replace h := ha5 hc5
    exact pw_sub hG [0, 1] rfl (b_Tx_takesDigit_16 hG hR v0 v1 S o0 h)
  · replace h := hb5 hc5
    refine pw_aload_n (pc := 8) hG d_Tx_takesDigit_8 rfl ?_
    refine g6_4 (pc := 9) hG m_105 d_Tx_takesDigit_9 o0 ?_
    refine pw_iconst (pc := 12) hG d_Tx_takesDigit_12 ?_
    obtain ⟨hrx13, ha13, hb13⟩ := h
    refine pw_icmp_ne (tgt := 20) (pc := 13) hG d_Tx_takesDigit_13 (by decide) hrx13 (q_lit rfl) (fun hc13 => ?_) (fun hc13 => ?_)
    · replace h := ha13 hc13
      refine pw_iconst (pc := 20) hG d_Tx_takesDigit_20 ?_
      exact pw_sub hG [0, 1] rfl (b_Tx_takesDigit_21 hG hR v0 v1 0 S o0 h)
    · replace h := hb13 hc13
      exact pw_sub hG [0, 1] rfl (b_Tx_takesDigit_16 hG hR v0 v1 S o0 h)
theorem ct_Tx_takesDigit (l : Launch) (Δ : QDl) {Λ : QLay} (hΛ : LayOk Λ) {v0 : Nat} {v1 : Int} {S : QMem} {Q : Int → QMem → Prop} (o0 : qob Λ 6 v0) (h : w_Tx_takesDigit Λ v0 v1 S Q) : QCt l y_Tx_takesDigit c_Tx_takesDigit 4 (some .boolean) 0 0 Δ Λ [.ref v0, vI v1] S (qI Q) :=
  QCt.mk (own := "TreeDiffer$Text") hΛ (by decide) rfl rfl (Nat.le_of_ble_eq_true rfl) (fun G hG ri rz rv rj ra => b_Tx_takesDigit_0 hG (fun pc lv x S d hb hq => rz pc lv x S rfl d hb ⟨x, rfl, hq⟩) v0 v1 S o0 h)
theorem k_Tx_takes : QVf y_Tx_takes c_Tx_takes 2 (some .boolean) "TreeDiffer$Text" 1 := ⟨m_391, m_p0, m_2, m_392, by decide +kernel⟩
theorem b_Tx_takes_0 {Λ : QLay} {G : Nat → List (Nat × Value) → List Value → QMem → Prop} {Q : Int → QMem → Prop} (hG : QAct c_Tx_takes "TreeDiffer$Text" 2 { frames := 2, cells := 0, slots := 0, locals := 43 } Λ G) (hR : RtZ c_Tx_takes G Q) (v0 : Nat) (v1 : Int) (S : QMem) (o0 : qob Λ 6 v0) (h : w_Tx_takes Λ v0 v1 S Q) : G 0 [(0, .ref v0), (1, vI v1)] [] S := by
  have hΛ := hG.lay
  unfold w_Tx_takes at h
  refine pw_aload_n (pc := 0) hG d_Tx_takes_0 rfl ?_
  refine g6_4 (pc := 1) hG m_105 d_Tx_takes_1 o0 ?_
  obtain ⟨hrx4, ha4, hb4⟩ := h
  refine pw_if_ne (tgt := 13) (pc := 4) hG d_Tx_takes_4 (by decide) hrx4 (fun hc4 => ?_) (fun hc4 => ?_)
  · replace h := ha4 hc4
    refine pw_iload_n (pc := 13) hG d_Tx_takes_13 rfl ?_
    obtain ⟨hr14, hz14_32, hz14_40, hz14_41, hzd14⟩ := h
    by_cases hc14_32 : v1 = 32
    · refine pw_look (tgt := 53) (pc := 14) hG d_Tx_takes_14 hr14 (by decide) (off := 39) (by rw [hc14_32]; rfl) (by decide) ?_
      replace h := hz14_32 hc14_32
      refine pw_aload_n (pc := 53) hG d_Tx_takes_53 rfl ?_
      refine pw_calli (pc := 54) hG (fun l Δ => ct_Tx_takesSpace l Δ hΛ o0 h) o0 rfl (by decide) m_405 k_Tx_takesSpace rfl ⟨by decide, by decide⟩ (Nat.le_of_ble_eq_true rfl) d_Tx_takes_54 rfl (fun r54 S54 h => ?_)
      obtain ⟨hb57, h⟩ := h
      exact hR 57 _ _ _ d_Tx_takes_57 hb57 h
    by_cases hc14_40 : v1 = 40
    · refine pw_look (tgt := 48) (pc := 14) hG d_Tx_takes_14 hr14 (by decide) (off := 34) (by rw [hc14_40]; rfl) (by decide) ?_
      replace h := hz14_40 hc14_40
      refine pw_aload_n (pc := 48) hG d_Tx_takes_48 rfl ?_
      refine pw_calli (pc := 49) hG (fun l Δ => ct_Tx_takesOpening l Δ hΛ o0 h) o0 rfl (by decide) m_401 k_Tx_takesOpening rfl ⟨by decide, by decide⟩ (Nat.le_of_ble_eq_true rfl) d_Tx_takes_49 rfl (fun r49 S49 h => ?_)
      obtain ⟨hb52, h⟩ := h
      exact hR 52 _ _ _ d_Tx_takes_52 hb52 h
    by_cases hc14_41 : v1 = 41
    · refine pw_look (tgt := 58) (pc := 14) hG d_Tx_takes_14 hr14 (by decide) (off := 44) (by rw [hc14_41]; rfl) (by decide) ?_
      replace h := hz14_41 hc14_41
      refine pw_aload_n (pc := 58) hG d_Tx_takes_58 rfl ?_
      refine pw_calli (pc := 59) hG (fun l Δ => ct_Tx_takesClosing l Δ hΛ o0 h) o0 rfl (by decide) m_409 k_Tx_takesClosing rfl ⟨by decide, by decide⟩ (Nat.le_of_ble_eq_true rfl) d_Tx_takes_59 rfl (fun r59 S59 h => ?_)
      obtain ⟨hb62, h⟩ := h
      exact hR 62 _ _ _ d_Tx_takes_62 hb62 h
    have hcd14 : ¬ v1 = 32 ∧ ¬ v1 = 40 ∧ ¬ v1 = 41 := ⟨hc14_32, hc14_40, hc14_41⟩
    refine pw_look (tgt := 63) (pc := 14) hG d_Tx_takes_14 hr14 (by decide) (off := 49) (by simp [Op.lookupswitch.offset, show ¬ (32 : Int) = v1 from fun q => hc14_32 q.symm, show ¬ (40 : Int) = v1 from fun q => hc14_40 q.symm, show ¬ (41 : Int) = v1 from fun q => hc14_41 q.symm]) (by decide) ?_
    replace h := hzd14 hcd14
    refine pw_aload_n (pc := 63) hG d_Tx_takes_63 rfl ?_
    refine pw_iload_n (pc := 64) hG d_Tx_takes_64 rfl ?_
    refine pw_calli (pc := 65) hG (fun l Δ => ct_Tx_takesDigit l Δ hΛ o0 h) o0 rfl (by decide) m_413 k_Tx_takesDigit rfl ⟨by decide, by decide⟩ (Nat.le_of_ble_eq_true rfl) d_Tx_takes_65 rfl (fun r65 S65 h => ?_)
    obtain ⟨hb68, h⟩ := h
    exact hR 68 _ _ _ d_Tx_takes_68 hb68 h
  · replace h := hb4 hc4
    refine pw_aload_n (pc := 7) hG d_Tx_takes_7 rfl ?_
    refine pw_iload_n (pc := 8) hG d_Tx_takes_8 rfl ?_
    refine pw_calli (pc := 9) hG (fun l Δ => ct_Tx_takesLabel l Δ hΛ o0 h) o0 rfl (by decide) m_393 k_Tx_takesLabel rfl ⟨by decide, by decide⟩ (Nat.le_of_ble_eq_true rfl) d_Tx_takes_9 rfl (fun r9 S9 h => ?_)
    obtain ⟨hb12, h⟩ := h
    exact hR 12 _ _ _ d_Tx_takes_12 hb12 h
theorem ct_Tx_takes (l : Launch) (Δ : QDl) {Λ : QLay} (hΛ : LayOk Λ) {v0 : Nat} {v1 : Int} {S : QMem} {Q : Int → QMem → Prop} (o0 : qob Λ 6 v0) (h : w_Tx_takes Λ v0 v1 S Q) : QCt l y_Tx_takes c_Tx_takes 2 (some .boolean) 2 43 Δ Λ [.ref v0, vI v1] S (qI Q) :=
  QCt.mk (own := "TreeDiffer$Text") hΛ (by decide) rfl rfl (Nat.le_of_ble_eq_true rfl) (fun G hG ri rz rv rj ra => b_Tx_takes_0 hG (fun pc lv x S d hb hq => rz pc lv x S rfl d hb ⟨x, rfl, hq⟩) v0 v1 S o0 h)
theorem k_Tx_findFault : QVf y_Tx_findFault c_Tx_findFault 2 (some .int) "TreeDiffer$Text" 0 := ⟨m_386, m_387, m_2, m_388, by decide +kernel⟩
theorem b_Tx_findFault_25 {Λ : QLay} {G : Nat → List (Nat × Value) → List Value → QMem → Prop} {Q : Int → QMem → Prop} (hG : QAct c_Tx_findFault "TreeDiffer$Text" 2 { frames := 3, cells := 0, slots := 0, locals := 64 } Λ G) (hR : RtI c_Tx_findFault G Q) : ∀ (n : Nat) (v0 : Nat) (v1 : Int) (S : QMem), qob Λ 6 v0 → w_Tx_findFault_25 Λ Q n v0 v1 S → G 25 [(0, .ref v0), (1, vI v1)] [] S := by
  have hΛ := hG.lay
  intro n
  induction n with
  | zero => intro v0 v1 S o_v0 h; exact h.elim
  | succ n ih =>
    intro v0 v1 S o_v0 h
    rw [w_Tx_findFault_25] at h
    refine pw_iload_n (pc := 25) hG d_Tx_findFault_25 rfl ?_
    refine pw_aload_n (pc := 26) hG d_Tx_findFault_26 rfl ?_
    refine g6_1 (pc := 27) hG m_99 d_Tx_findFault_27 o_v0 ?_
    obtain ⟨hrx30, hry30, ha30, hb30⟩ := h
    refine pw_icmp_ge (tgt := 54) (pc := 30) hG d_Tx_findFault_30 (by decide) hrx30 hry30 (fun hc30 => ?_) (fun hc30 => ?_)
    · replace h := ha30 hc30
      refine pw_aload_n (pc := 54) hG d_Tx_findFault_54 rfl ?_
      refine g6_3 (pc := 55) hG m_103 d_Tx_findFault_55 o_v0 ?_
      obtain ⟨hrx58, ha58, hb58⟩ := h
      refine pw_if_ne (tgt := 73) (pc := 58) hG d_Tx_findFault_58 (by decide) hrx58 (fun hc58 => ?_) (fun hc58 => ?_)
      · replace h := ha58 hc58
        refine pw_aload_n (pc := 73) hG d_Tx_findFault_73 rfl ?_
        refine g6_1 (pc := 74) hG m_99 d_Tx_findFault_74 o_v0 ?_
        exact hR 77 _ _ _ d_Tx_findFault_77 h
      · replace h := hb58 hc58
        refine pw_aload_n (pc := 61) hG d_Tx_findFault_61 rfl ?_
        refine g6_4 (pc := 62) hG m_105 d_Tx_findFault_62 o_v0 ?_
        obtain ⟨hrx65, ha65, hb65⟩ := h
        refine pw_if_eq (tgt := 73) (pc := 65) hG d_Tx_findFault_65 (by decide) hrx65 (fun hc65 => ?_) (fun hc65 => ?_)
        · replace h := ha65 hc65
          refine pw_aload_n (pc := 73) hG d_Tx_findFault_73 rfl ?_
          refine g6_1 (pc := 74) hG m_99 d_Tx_findFault_74 o_v0 ?_
          exact hR 77 _ _ _ d_Tx_findFault_77 h
        · replace h := hb65 hc65
          refine pw_bipush (pc := 68) hG d_Tx_findFault_68 (by decide) ?_
          refine pw_goto (tgt := 77) (pc := 70) hG d_Tx_findFault_70 (by decide) ?_
          exact hR 77 _ _ _ d_Tx_findFault_77 h
    · replace h := hb30 hc30
      refine pw_aload_n (pc := 33) hG d_Tx_findFault_33 rfl ?_
      refine pw_aload_n (pc := 34) hG d_Tx_findFault_34 rfl ?_
      refine g6_0 (pc := 35) hG m_98 d_Tx_findFault_35 o_v0 ?_
      refine pw_iload_n (pc := 38) hG d_Tx_findFault_38 rfl ?_
      obtain ⟨hi39, h⟩ := h
      refine pw_aI (pc := 39) hG (q_arr hΛ o_v0 rfl (by decide)) hi39 d_Tx_findFault_39 ?_
      refine pw_calli (pc := 40) hG (fun l Δ => ct_Tx_takes l Δ hΛ o_v0 h) o_v0 rfl (by decide) m_389 k_Tx_takes rfl ⟨by decide, by decide⟩ (Nat.le_of_ble_eq_true rfl) d_Tx_findFault_40 rfl (fun r40 S40 h => ?_)
      obtain ⟨hrx43, ha43, hb43⟩ := h
      refine pw_if_ne (tgt := 48) (pc := 43) hG d_Tx_findFault_43 (by decide) hrx43 (fun hc43 => ?_) (fun hc43 => ?_)
      · replace h := ha43 hc43
        refine pw_iinc0 (pc := 48) hG d_Tx_findFault_48 rfl (by decide) rfl ?_
        refine pw_goto (tgt := 25) (pc := 51) hG d_Tx_findFault_51 (by decide) ?_
        exact pw_sub hG [0, 1] rfl (ih v0 (v1 + 1) S40 o_v0 h)
      · replace h := hb43 hc43
        refine pw_iload_n (pc := 46) hG d_Tx_findFault_46 rfl ?_
        exact hR 47 _ _ _ d_Tx_findFault_47 h
theorem b_Tx_findFault_0 {Λ : QLay} {G : Nat → List (Nat × Value) → List Value → QMem → Prop} {Q : Int → QMem → Prop} (hG : QAct c_Tx_findFault "TreeDiffer$Text" 2 { frames := 3, cells := 0, slots := 0, locals := 64 } Λ G) (hR : RtI c_Tx_findFault G Q) (v0 : Nat) (S : QMem) (o0 : qob Λ 6 v0) (h : w_Tx_findFault Λ v0 S Q) : G 0 [(0, .ref v0)] [] S := by
  have hΛ := hG.lay
  unfold w_Tx_findFault at h
  refine pw_aload_n (pc := 0) hG d_Tx_findFault_0 rfl ?_
  refine g6_2 (pc := 1) hG m_101 d_Tx_findFault_1 o0 ?_
  refine pw_iconst (pc := 4) hG d_Tx_findFault_4 ?_
  refine p7_0 (pc := 5) hG m_37 d_Tx_findFault_5 (q_rf hΛ o0 rfl (by decide)) (fun S5 eS5 => ?_)
  replace h := h S5 eS5
  refine pw_aload_n (pc := 8) hG d_Tx_findFault_8 rfl ?_
  refine pw_iconst (pc := 9) hG d_Tx_findFault_9 ?_
  refine p6_3 (pc := 10) hG m_103 d_Tx_findFault_10 o0 (fun S10 eS10 => ?_)
  replace h := h S10 eS10
  refine pw_aload_n (pc := 13) hG d_Tx_findFault_13 rfl ?_
  refine pw_iconst (pc := 14) hG d_Tx_findFault_14 ?_
  refine p6_4 (pc := 15) hG m_105 d_Tx_findFault_15 o0 (fun S15 eS15 => ?_)
  replace h := h S15 eS15
  refine pw_aload_n (pc := 18) hG d_Tx_findFault_18 rfl ?_
  refine pw_iconst (pc := 19) hG d_Tx_findFault_19 ?_
  refine p6_5 (pc := 20) hG m_106 d_Tx_findFault_20 o0 (fun S20 eS20 => ?_)
  replace h := h S20 eS20
  refine pw_iconst (pc := 23) hG d_Tx_findFault_23 ?_
  refine pw_ist_n (pc := 24) hG d_Tx_findFault_24 (by decide) rfl ?_
  obtain ⟨n24, h⟩ := h
  exact pw_sub hG [0, 1] rfl (b_Tx_findFault_25 hG hR n24 v0 0 S20 o0 h)
theorem ct_Tx_findFault (l : Launch) (Δ : QDl) {Λ : QLay} (hΛ : LayOk Λ) {v0 : Nat} {S : QMem} {Q : Int → QMem → Prop} (o0 : qob Λ 6 v0) (h : w_Tx_findFault Λ v0 S Q) : QCt l y_Tx_findFault c_Tx_findFault 2 (some .int) 3 64 Δ Λ [.ref v0] S (qI Q) :=
  QCt.mk (own := "TreeDiffer$Text") hΛ (by decide) rfl rfl (Nat.le_of_ble_eq_true rfl) (fun G hG ri rz rv rj ra => b_Tx_findFault_0 hG (fun pc lv x S d hq => ri pc lv x S rfl d ⟨x, rfl, hq⟩) v0 S o0 h)
theorem k_Tr_sortInPostorder : QVf y_Tr_sortInPostorder c_Tr_sortInPostorder 2 none "TreeDiffer$Tree" 0 := ⟨m_445, m_p6, m_3, m_446, by decide +kernel⟩
theorem b_Tr_sortInPostorder_2 {Λ : QLay} {G : Nat → List (Nat × Value) → List Value → QMem → Prop} {Q : QMem → Prop} (hG : QAct c_Tr_sortInPostorder "TreeDiffer$Tree" 2 { frames := 0, cells := 0, slots := 0, locals := 0 } Λ G) (hR : RtV c_Tr_sortInPostorder G Q) : ∀ (n : Nat) (v0 : Nat) (v1 : Int) (S : QMem), qob Λ 7 v0 → w_Tr_sortInPostorder_2 Λ Q n v0 v1 S → G 2 [(0, .ref v0), (1, vI v1)] [] S := by
  have hΛ := hG.lay
  intro n
  induction n with
  | zero => intro v0 v1 S o_v0 h; exact h.elim
  | succ n ih =>
    intro v0 v1 S o_v0 h
    rw [w_Tr_sortInPostorder_2] at h
    refine pw_iload_n (pc := 2) hG d_Tr_sortInPostorder_2 rfl ?_
    refine pw_aload_n (pc := 3) hG d_Tr_sortInPostorder_3 rfl ?_
    refine g7_0 (pc := 4) hG m_33 d_Tr_sortInPostorder_4 o_v0 ?_
    obtain ⟨hrx7, hry7, ha7, hb7⟩ := h
    refine pw_icmp_ge (tgt := 37) (pc := 7) hG d_Tr_sortInPostorder_7 (by decide) hrx7 hry7 (fun hc7 => ?_) (fun hc7 => ?_)
    · replace h := ha7 hc7
      exact hR 37 _ _ d_Tr_sortInPostorder_37 h
    · replace h := hb7 hc7
      refine pw_aload_n (pc := 10) hG d_Tr_sortInPostorder_10 rfl ?_
      refine g7_9 (pc := 11) hG m_73 d_Tr_sortInPostorder_11 o_v0 ?_
      refine pw_iload_n (pc := 14) hG d_Tr_sortInPostorder_14 rfl ?_
      refine pw_aload_n (pc := 15) hG d_Tr_sortInPostorder_15 rfl ?_
      refine g7_5 (pc := 16) hG m_61 d_Tr_sortInPostorder_16 o_v0 ?_
      refine pw_iload_n (pc := 19) hG d_Tr_sortInPostorder_19 rfl ?_
      obtain ⟨hi20, h⟩ := h
      refine pw_aI (pc := 20) hG (q_arr hΛ o_v0 rfl (by decide)) hi20 d_Tr_sortInPostorder_20 ?_
      refine pw_isub (pc := 21) hG d_Tr_sortInPostorder_21 ?_
      refine pw_aload_n (pc := 22) hG d_Tr_sortInPostorder_22 rfl ?_
      refine g7_7 (pc := 23) hG m_65 d_Tr_sortInPostorder_23 o_v0 ?_
      refine pw_iload_n (pc := 26) hG d_Tr_sortInPostorder_26 rfl ?_
      obtain ⟨hi27, h⟩ := h
      refine pw_aI (pc := 27) hG (q_arr hΛ o_v0 rfl (by decide)) hi27 d_Tr_sortInPostorder_27 ?_
      refine pw_iadd (pc := 28) hG d_Tr_sortInPostorder_28 ?_
      refine pw_iload_n (pc := 29) hG d_Tr_sortInPostorder_29 rfl ?_
      obtain ⟨hi30, h⟩ := h
      refine pw_sI (pc := 30) hG (q_arr hΛ o_v0 rfl (by decide)) hi30 d_Tr_sortInPostorder_30 (fun S30 eS30 => ?_)
      replace h := h S30 eS30
      refine pw_iinc0 (pc := 31) hG d_Tr_sortInPostorder_31 rfl (by decide) rfl ?_
      refine pw_goto (tgt := 2) (pc := 34) hG d_Tr_sortInPostorder_34 (by decide) ?_
      exact pw_sub hG [0, 1] rfl (ih v0 (v1 + 1) S30 o_v0 h)
theorem b_Tr_sortInPostorder_0 {Λ : QLay} {G : Nat → List (Nat × Value) → List Value → QMem → Prop} {Q : QMem → Prop} (hG : QAct c_Tr_sortInPostorder "TreeDiffer$Tree" 2 { frames := 0, cells := 0, slots := 0, locals := 0 } Λ G) (hR : RtV c_Tr_sortInPostorder G Q) (v0 : Nat) (S : QMem) (o0 : qob Λ 7 v0) (h : w_Tr_sortInPostorder Λ v0 S Q) : G 0 [(0, .ref v0)] [] S := by
  have hΛ := hG.lay
  unfold w_Tr_sortInPostorder at h
  refine pw_iconst (pc := 0) hG d_Tr_sortInPostorder_0 ?_
  refine pw_ist_n (pc := 1) hG d_Tr_sortInPostorder_1 (by decide) rfl ?_
  obtain ⟨n1, h⟩ := h
  exact pw_sub hG [0, 1] rfl (b_Tr_sortInPostorder_2 hG hR n1 v0 0 S o0 h)
theorem ct_Tr_sortInPostorder (l : Launch) (Δ : QDl) {Λ : QLay} (hΛ : LayOk Λ) {v0 : Nat} {S : QMem} {Q : QMem → Prop} (o0 : qob Λ 7 v0) (h : w_Tr_sortInPostorder Λ v0 S Q) : QCt l y_Tr_sortInPostorder c_Tr_sortInPostorder 2 none 0 0 Δ Λ [.ref v0] S (qV Q) :=
  QCt.mk (own := "TreeDiffer$Tree") hΛ (by decide) rfl rfl (Nat.le_of_ble_eq_true rfl) (fun G hG ri rz rv rj ra => b_Tr_sortInPostorder_0 hG (fun pc lv S d hq => rv pc lv S rfl d ⟨rfl, hq⟩) v0 S o0 h)
theorem k_Tr_complete : QVf y_Tr_complete c_Tr_complete 3 none "TreeDiffer$Tree" 0 := ⟨m_437, m_438, m_3, m_439, by decide +kernel⟩
theorem b_Tr_complete_79 {Λ : QLay} {G : Nat → List (Nat × Value) → List Value → QMem → Prop} {Q : QMem → Prop} (hG : QAct c_Tr_complete "TreeDiffer$Tree" 3 { frames := 1, cells := 0, slots := 0, locals := 21 } Λ G) (hR : RtV c_Tr_complete G Q) {K2 : Nat → Int → QMem → Prop} (hK2 : ∀ (v0 : Nat) (v1 : Int) (S : QMem), qob Λ 7 v0 → K2 v0 v1 S → G 2 [(0, .ref v0), (1, vI v1)] [] S) (v0 : Nat) (v1 : Int) (v2 : Int) (s0 : Nat) (s1 : Int) (s2 : Int) (S : QMem) (o_v0 : qob Λ 7 v0) (o_s0 : qob Λ 7 s0) (h : w_Tr_complete_79 Λ K2 Q v0 v1 v2 s0 s1 s2 S) : G 79 [(0, .ref v0), (1, vI v1), (2, vI v2)] [vI s2, vI s1, .ref (yA Λ s0 5)] S := by
  have hΛ := hG.lay
  unfold w_Tr_complete_79 at h
  obtain ⟨hi79, h⟩ := h
  refine pw_sI (pc := 79) hG (q_arr hΛ o_s0 rfl (by decide)) hi79 d_Tr_complete_79 (fun S79 eS79 => ?_)
  replace h := h S79 eS79
  refine pw_iload_n (pc := 80) hG d_Tr_complete_80 rfl ?_
  obtain ⟨hrx81, ha81, hb81⟩ := h
  refine pw_if_lt (tgt := 94) (pc := 81) hG d_Tr_complete_81 (by decide) hrx81 (fun hc81 => ?_) (fun hc81 => ?_)
  · replace h := ha81 hc81
    refine pw_iinc0 (pc := 94) hG d_Tr_complete_94 rfl (by decide) rfl ?_
    refine pw_goto (tgt := 2) (pc := 97) hG d_Tr_complete_97 (by decide) ?_
    exact pw_sub hG [0, 1] rfl (hK2 v0 (v1 + 1) S79 o_v0 h)
  · replace h := hb81 hc81
    refine pw_aload_n (pc := 84) hG d_Tr_complete_84 rfl ?_
    refine g7_6 (pc := 85) hG m_63 d_Tr_complete_85 o_v0 ?_
    refine pw_iload_n (pc := 88) hG d_Tr_complete_88 rfl ?_
    refine pw_dup2 (pc := 89) hG d_Tr_complete_89 rfl rfl ?_
    obtain ⟨hi90, h⟩ := h
    refine pw_aI (pc := 90) hG (q_arr hΛ o_v0 rfl (by decide)) hi90 d_Tr_complete_90 ?_
    refine pw_iconst (pc := 91) hG d_Tr_complete_91 ?_
    refine pw_iadd (pc := 92) hG d_Tr_complete_92 ?_
    obtain ⟨hi93, h⟩ := h
    refine pw_sI (pc := 93) hG (q_arr hΛ o_v0 rfl (by decide)) hi93 d_Tr_complete_93 (fun S93 eS93 => ?_)
    replace h := h S93 eS93
    refine pw_iinc0 (pc := 94) hG d_Tr_complete_94 rfl (by decide) rfl ?_
    refine pw_goto (tgt := 2) (pc := 97) hG d_Tr_complete_97 (by decide) ?_
    exact pw_sub hG [0, 1] rfl (hK2 v0 (v1 + 1) S93 o_v0 h)
theorem b_Tr_complete_57 {Λ : QLay} {G : Nat → List (Nat × Value) → List Value → QMem → Prop} {Q : QMem → Prop} (hG : QAct c_Tr_complete "TreeDiffer$Tree" 3 { frames := 1, cells := 0, slots := 0, locals := 21 } Λ G) (hR : RtV c_Tr_complete G Q) {K2 : Nat → Int → QMem → Prop} (hK2 : ∀ (v0 : Nat) (v1 : Int) (S : QMem), qob Λ 7 v0 → K2 v0 v1 S → G 2 [(0, .ref v0), (1, vI v1)] [] S) (v0 : Nat) (v1 : Int) (v2 : Int) (s0 : Nat) (s1 : Int) (s2 : Int) (S : QMem) (o_v0 : qob Λ 7 v0) (o_s0 : qob Λ 7 s0) (h : w_Tr_complete_57 Λ K2 Q v0 v1 v2 s0 s1 s2 S) : G 57 [(0, .ref v0), (1, vI v1), (2, vI v2)] [vI s2, vI s1, .ref (yA Λ s0 4)] S := by
  have hΛ := hG.lay
  unfold w_Tr_complete_57 at h
  obtain ⟨hi57, h⟩ := h
  refine pw_sI (pc := 57) hG (q_arr hΛ o_s0 rfl (by decide)) hi57 d_Tr_complete_57 (fun S57 eS57 => ?_)
  replace h := h S57 eS57
  refine pw_aload_n (pc := 58) hG d_Tr_complete_58 rfl ?_
  refine g7_5 (pc := 59) hG m_61 d_Tr_complete_59 o_v0 ?_
  refine pw_iload_n (pc := 62) hG d_Tr_complete_62 rfl ?_
  refine pw_iload_n (pc := 63) hG d_Tr_complete_63 rfl ?_
  obtain ⟨hrx64, ha64, hb64⟩ := h
  refine pw_if_ge (tgt := 71) (pc := 64) hG d_Tr_complete_64 (by decide) hrx64 (fun hc64 => ?_) (fun hc64 => ?_)
  · replace h := ha64 hc64
    refine pw_aload_n (pc := 71) hG d_Tr_complete_71 rfl ?_
    refine g7_5 (pc := 72) hG m_61 d_Tr_complete_72 o_v0 ?_
    refine pw_iload_n (pc := 75) hG d_Tr_complete_75 rfl ?_
    obtain ⟨hi76, h⟩ := h
    refine pw_aI (pc := 76) hG (q_arr hΛ o_v0 rfl (by decide)) hi76 d_Tr_complete_76 ?_
    refine pw_iconst (pc := 77) hG d_Tr_complete_77 ?_
    refine pw_iadd (pc := 78) hG d_Tr_complete_78 ?_
    exact pw_sub hG [0, 1, 2] rfl (b_Tr_complete_79 hG hR hK2 v0 v1 v2 v0 v1 ((S57.1 v0 5 v2) + 1) S57 o_v0 o_v0 h)
  · replace h := hb64 hc64
    refine pw_iconst (pc := 67) hG d_Tr_complete_67 ?_
    refine pw_goto (tgt := 79) (pc := 68) hG d_Tr_complete_68 (by decide) ?_
    exact pw_sub hG [0, 1, 2] rfl (b_Tr_complete_79 hG hR hK2 v0 v1 v2 v0 v1 0 S57 o_v0 o_v0 h)
theorem b_Tr_complete_107 {Λ : QLay} {G : Nat → List (Nat × Value) → List Value → QMem → Prop} {Q : QMem → Prop} (hG : QAct c_Tr_complete "TreeDiffer$Tree" 3 { frames := 1, cells := 0, slots := 0, locals := 21 } Λ G) (hR : RtV c_Tr_complete G Q) : ∀ (n : Nat) (v0 : Nat) (v1 : Int) (S : QMem), qob Λ 7 v0 → w_Tr_complete_107 Λ Q n v0 v1 S → G 107 [(0, .ref v0), (1, vI v1)] [] S := by
  have hΛ := hG.lay
  intro n
  induction n with
  | zero => intro v0 v1 S o_v0 h; exact h.elim
  | succ n ih =>
    intro v0 v1 S o_v0 h
    rw [w_Tr_complete_107] at h
    refine pw_iload_n (pc := 107) hG d_Tr_complete_107 rfl ?_
    obtain ⟨hrx108, ha108, hb108⟩ := h
    refine pw_if_lt (tgt := 168) (pc := 108) hG d_Tr_complete_108 (by decide) hrx108 (fun hc108 => ?_) (fun hc108 => ?_)
    · replace h := ha108 hc108
      refine pw_aload_n (pc := 168) hG d_Tr_complete_168 rfl ?_
      refine pw_callv (pc := 169) hG (fun l Δ => ct_Tr_sortInPostorder l Δ hΛ o_v0 h) o_v0 rfl (by decide) m_443 k_Tr_sortInPostorder rfl ⟨by decide, by decide⟩ (Nat.le_of_ble_eq_true rfl) d_Tr_complete_169 rfl (fun S169 h => ?_)
      exact hR 172 _ _ d_Tr_complete_172 h
    · replace h := hb108 hc108
      refine pw_aload_n (pc := 111) hG d_Tr_complete_111 rfl ?_
      refine g7_3 (pc := 112) hG m_51 d_Tr_complete_112 o_v0 ?_
      refine pw_iload_n (pc := 115) hG d_Tr_complete_115 rfl ?_
      obtain ⟨hi116, h⟩ := h
      refine pw_aI (pc := 116) hG (q_arr hΛ o_v0 rfl (by decide)) hi116 d_Tr_complete_116 ?_
      refine pw_istore_n (pc := 117) hG d_Tr_complete_117 (by decide) (fun x117 ex117 => ⟨_, rfl, ?_⟩)
      replace h := h x117 ex117
      refine pw_iload_n (pc := 118) hG d_Tr_complete_118 rfl ?_
      obtain ⟨hrx119, ha119, hb119⟩ := h
      refine pw_if_lt (tgt := 162) (pc := 119) hG d_Tr_complete_119 (by decide) hrx119 (fun hc119 => ?_) (fun hc119 => ?_)
      · replace h := ha119 hc119
        refine pw_iinc0 (pc := 162) hG d_Tr_complete_162 rfl (by decide) rfl ?_
        refine pw_goto (tgt := 107) (pc := 165) hG d_Tr_complete_165 (by decide) ?_
        exact pw_sub hG [0, 1] rfl (ih v0 (v1 + (-1)) S o_v0 h)
      · replace h := hb119 hc119
        refine pw_aload_n (pc := 122) hG d_Tr_complete_122 rfl ?_
        refine g7_7 (pc := 123) hG m_65 d_Tr_complete_123 o_v0 ?_
        refine pw_iload_n (pc := 126) hG d_Tr_complete_126 rfl ?_
        refine pw_dup2 (pc := 127) hG d_Tr_complete_127 rfl rfl ?_
        obtain ⟨hi128, h⟩ := h
        refine pw_aI (pc := 128) hG (q_arr hΛ o_v0 rfl (by decide)) hi128 d_Tr_complete_128 ?_
        refine pw_aload_n (pc := 129) hG d_Tr_complete_129 rfl ?_
        refine g7_7 (pc := 130) hG m_65 d_Tr_complete_130 o_v0 ?_
        refine pw_iload_n (pc := 133) hG d_Tr_complete_133 rfl ?_
        obtain ⟨hi134, h⟩ := h
        refine pw_aI (pc := 134) hG (q_arr hΛ o_v0 rfl (by decide)) hi134 d_Tr_complete_134 ?_
        refine pw_iconst (pc := 135) hG d_Tr_complete_135 ?_
        refine pw_iadd (pc := 136) hG d_Tr_complete_136 ?_
        refine pw_iadd (pc := 137) hG d_Tr_complete_137 ?_
        obtain ⟨hi138, h⟩ := h
        refine pw_sI (pc := 138) hG (q_arr hΛ o_v0 rfl (by decide)) hi138 d_Tr_complete_138 (fun S138 eS138 => ?_)
        replace h := h S138 eS138
        refine pw_aload_n (pc := 139) hG d_Tr_complete_139 rfl ?_
        refine g7_8 (pc := 140) hG m_69 d_Tr_complete_140 o_v0 ?_
        refine pw_iload_n (pc := 143) hG d_Tr_complete_143 rfl ?_
        refine pw_aload_n (pc := 144) hG d_Tr_complete_144 rfl ?_
        refine g7_8 (pc := 145) hG m_69 d_Tr_complete_145 o_v0 ?_
        refine pw_iload_n (pc := 148) hG d_Tr_complete_148 rfl ?_
        obtain ⟨hi149, h⟩ := h
        refine pw_aI (pc := 149) hG (q_arr hΛ o_v0 rfl (by decide)) hi149 d_Tr_complete_149 ?_
        refine pw_aload_n (pc := 150) hG d_Tr_complete_150 rfl ?_
        refine g7_8 (pc := 151) hG m_69 d_Tr_complete_151 o_v0 ?_
        refine pw_iload_n (pc := 154) hG d_Tr_complete_154 rfl ?_
        obtain ⟨hi155, h⟩ := h
        refine pw_aI (pc := 155) hG (q_arr hΛ o_v0 rfl (by decide)) hi155 d_Tr_complete_155 ?_
        refine pw_iconst (pc := 156) hG d_Tr_complete_156 ?_
        refine pw_iadd (pc := 157) hG d_Tr_complete_157 ?_
        obtain ⟨hrx158, hry158, h⟩ := h
        refine pw_max (pc := 158) hG m_440 d_Tr_complete_158 hrx158 hry158 (by decide) (Nat.le_of_ble_eq_true rfl) ?_
        obtain ⟨hi161, h⟩ := h
        refine pw_sI (pc := 161) hG (q_arr hΛ o_v0 rfl (by decide)) hi161 d_Tr_complete_161 (fun S161 eS161 => ?_)
        replace h := h S161 eS161
        refine pw_iinc0 (pc := 162) hG d_Tr_complete_162 rfl (by decide) rfl ?_
        refine pw_goto (tgt := 107) (pc := 165) hG d_Tr_complete_165 (by decide) ?_
        exact pw_sub hG [0, 1] rfl (ih v0 (v1 + (-1)) S161 o_v0 h)
theorem b_Tr_complete_2 {Λ : QLay} {G : Nat → List (Nat × Value) → List Value → QMem → Prop} {Q : QMem → Prop} (hG : QAct c_Tr_complete "TreeDiffer$Tree" 3 { frames := 1, cells := 0, slots := 0, locals := 21 } Λ G) (hR : RtV c_Tr_complete G Q) : ∀ (n : Nat) (v0 : Nat) (v1 : Int) (S : QMem), qob Λ 7 v0 → w_Tr_complete_2 Λ Q n v0 v1 S → G 2 [(0, .ref v0), (1, vI v1)] [] S := by
  have hΛ := hG.lay
  intro n
  induction n with
  | zero => intro v0 v1 S o_v0 h; exact h.elim
  | succ n ih =>
    intro v0 v1 S o_v0 h
    rw [w_Tr_complete_2] at h
    refine pw_iload_n (pc := 2) hG d_Tr_complete_2 rfl ?_
    refine pw_aload_n (pc := 3) hG d_Tr_complete_3 rfl ?_
    refine g7_0 (pc := 4) hG m_33 d_Tr_complete_4 o_v0 ?_
    obtain ⟨hrx7, hry7, ha7, hb7⟩ := h
    refine pw_icmp_ge (tgt := 100) (pc := 7) hG d_Tr_complete_7 (by decide) hrx7 hry7 (fun hc7 => ?_) (fun hc7 => ?_)
    · replace h := ha7 hc7
      refine pw_aload_n (pc := 100) hG d_Tr_complete_100 rfl ?_
      refine g7_0 (pc := 101) hG m_33 d_Tr_complete_101 o_v0 ?_
      refine pw_iconst (pc := 104) hG d_Tr_complete_104 ?_
      refine pw_isub (pc := 105) hG d_Tr_complete_105 ?_
      refine pw_istore_n (pc := 106) hG d_Tr_complete_106 (by decide) (fun x106 ex106 => ⟨_, rfl, ?_⟩)
      replace h := h x106 ex106
      obtain ⟨n106, h⟩ := h
      exact pw_sub hG [0, 1] rfl (b_Tr_complete_107 hG hR n106 v0 x106 S o_v0 h)
    · replace h := hb7 hc7
      refine pw_aload_n (pc := 10) hG d_Tr_complete_10 rfl ?_
      refine g7_6 (pc := 11) hG m_63 d_Tr_complete_11 o_v0 ?_
      refine pw_iload_n (pc := 14) hG d_Tr_complete_14 rfl ?_
      refine pw_iconst (pc := 15) hG d_Tr_complete_15 ?_
      obtain ⟨hi16, h⟩ := h
      refine pw_sI (pc := 16) hG (q_arr hΛ o_v0 rfl (by decide)) hi16 d_Tr_complete_16 (fun S16 eS16 => ?_)
      replace h := h S16 eS16
      refine pw_aload_n (pc := 17) hG d_Tr_complete_17 rfl ?_
      refine g7_7 (pc := 18) hG m_65 d_Tr_complete_18 o_v0 ?_
      refine pw_iload_n (pc := 21) hG d_Tr_complete_21 rfl ?_
      refine pw_iconst (pc := 22) hG d_Tr_complete_22 ?_
      obtain ⟨hi23, h⟩ := h
      refine pw_sI (pc := 23) hG (q_arr hΛ o_v0 rfl (by decide)) hi23 d_Tr_complete_23 (fun S23 eS23 => ?_)
      replace h := h S23 eS23
      refine pw_aload_n (pc := 24) hG d_Tr_complete_24 rfl ?_
      refine g7_8 (pc := 25) hG m_69 d_Tr_complete_25 o_v0 ?_
      refine pw_iload_n (pc := 28) hG d_Tr_complete_28 rfl ?_
      refine pw_iconst (pc := 29) hG d_Tr_complete_29 ?_
      obtain ⟨hi30, h⟩ := h
      refine pw_sI (pc := 30) hG (q_arr hΛ o_v0 rfl (by decide)) hi30 d_Tr_complete_30 (fun S30 eS30 => ?_)
      replace h := h S30 eS30
      refine pw_aload_n (pc := 31) hG d_Tr_complete_31 rfl ?_
      refine g7_3 (pc := 32) hG m_51 d_Tr_complete_32 o_v0 ?_
      refine pw_iload_n (pc := 35) hG d_Tr_complete_35 rfl ?_
      obtain ⟨hi36, h⟩ := h
      refine pw_aI (pc := 36) hG (q_arr hΛ o_v0 rfl (by decide)) hi36 d_Tr_complete_36 ?_
      refine pw_istore_n (pc := 37) hG d_Tr_complete_37 (by decide) (fun x37 ex37 => ⟨_, rfl, ?_⟩)
      replace h := h x37 ex37
      refine pw_aload_n (pc := 38) hG d_Tr_complete_38 rfl ?_
      refine g7_4 (pc := 39) hG m_58 d_Tr_complete_39 o_v0 ?_
      refine pw_iload_n (pc := 42) hG d_Tr_complete_42 rfl ?_
      refine pw_iload_n (pc := 43) hG d_Tr_complete_43 rfl ?_
      obtain ⟨hrx44, ha44, hb44⟩ := h
      refine pw_if_ge (tgt := 51) (pc := 44) hG d_Tr_complete_44 (by decide) hrx44 (fun hc44 => ?_) (fun hc44 => ?_)
      · replace h := ha44 hc44
        refine pw_aload_n (pc := 51) hG d_Tr_complete_51 rfl ?_
        refine g7_6 (pc := 52) hG m_63 d_Tr_complete_52 o_v0 ?_
        refine pw_iload_n (pc := 55) hG d_Tr_complete_55 rfl ?_
        obtain ⟨hi56, h⟩ := h
        refine pw_aI (pc := 56) hG (q_arr hΛ o_v0 rfl (by decide)) hi56 d_Tr_complete_56 ?_
        exact pw_sub hG [0, 1, 2] rfl (b_Tr_complete_57 hG hR ih v0 v1 x37 v0 v1 (S30.1 v0 6 x37) S30 o_v0 o_v0 h)
      · replace h := hb44 hc44
        refine pw_iconst (pc := 47) hG d_Tr_complete_47 ?_
        refine pw_goto (tgt := 57) (pc := 48) hG d_Tr_complete_48 (by decide) ?_
        exact pw_sub hG [0, 1, 2] rfl (b_Tr_complete_57 hG hR ih v0 v1 x37 v0 v1 0 S30 o_v0 o_v0 h)
theorem b_Tr_complete_0 {Λ : QLay} {G : Nat → List (Nat × Value) → List Value → QMem → Prop} {Q : QMem → Prop} (hG : QAct c_Tr_complete "TreeDiffer$Tree" 3 { frames := 1, cells := 0, slots := 0, locals := 21 } Λ G) (hR : RtV c_Tr_complete G Q) (v0 : Nat) (S : QMem) (o0 : qob Λ 7 v0) (h : w_Tr_complete Λ v0 S Q) : G 0 [(0, .ref v0)] [] S := by
  have hΛ := hG.lay
  unfold w_Tr_complete at h
  refine pw_iconst (pc := 0) hG d_Tr_complete_0 ?_
  refine pw_ist_n (pc := 1) hG d_Tr_complete_1 (by decide) rfl ?_
  obtain ⟨n1, h⟩ := h
  exact pw_sub hG [0, 1] rfl (b_Tr_complete_2 hG hR n1 v0 0 S o0 h)
theorem ct_Tr_complete (l : Launch) (Δ : QDl) {Λ : QLay} (hΛ : LayOk Λ) {v0 : Nat} {S : QMem} {Q : QMem → Prop} (o0 : qob Λ 7 v0) (h : w_Tr_complete Λ v0 S Q) : QCt l y_Tr_complete c_Tr_complete 3 none 1 21 Δ Λ [.ref v0] S (qV Q) :=
  QCt.mk (own := "TreeDiffer$Tree") hΛ (by decide) rfl rfl (Nat.le_of_ble_eq_true rfl) (fun G hG ri rz rv rj ra => b_Tr_complete_0 hG (fun pc lv S d hq => rv pc lv S rfl d ⟨rfl, hq⟩) v0 S o0 h)
theorem k_Tr_childAt : QVf y_Tr_childAt c_Tr_childAt 5 (some .int) "TreeDiffer$Tree" 2 := ⟨m_480, m_481, m_3, m_482, by decide +kernel⟩
theorem b_Tr_childAt_11 {Λ : QLay} {G : Nat → List (Nat × Value) → List Value → QMem → Prop} {Q : Int → QMem → Prop} (hG : QAct c_Tr_childAt "TreeDiffer$Tree" 5 { frames := 1, cells := 0, slots := 0, locals := 21 } Λ G) (hR : RtI c_Tr_childAt G Q) : ∀ (n : Nat) (v0 : Nat) (v1 : Int) (v2 : Int) (v3 : Int) (v4 : Int) (S : QMem), qob Λ 7 v0 → w_Tr_childAt_11 Λ Q n v0 v1 v2 v3 v4 S → G 11 [(0, .ref v0), (1, vI v1), (2, vI v2), (3, vI v3), (4, vI v4)] [] S := by
  have hΛ := hG.lay
  intro n
  induction n with
  | zero => intro v0 v1 v2 v3 v4 S o_v0 h; exact h.elim
  | succ n ih =>
    intro v0 v1 v2 v3 v4 S o_v0 h
    rw [w_Tr_childAt_11] at h
    refine pw_iload (pc := 11) hG d_Tr_childAt_11 rfl ?_
    refine pw_iload_n (pc := 13) hG d_Tr_childAt_13 rfl ?_
    obtain ⟨hrx14, hry14, ha14, hb14⟩ := h
    refine pw_icmp_ge (tgt := 48) (pc := 14) hG d_Tr_childAt_14 (by decide) hrx14 hry14 (fun hc14 => ?_) (fun hc14 => ?_)
    · replace h := ha14 hc14
      refine pw_bipush (pc := 48) hG d_Tr_childAt_48 (by decide) ?_
      exact hR 50 _ _ _ d_Tr_childAt_50 h
    · replace h := hb14 hc14
      refine pw_aload_n (pc := 17) hG d_Tr_childAt_17 rfl ?_
      refine g7_3 (pc := 18) hG m_51 d_Tr_childAt_18 o_v0 ?_
      refine pw_iload (pc := 21) hG d_Tr_childAt_21 rfl ?_
      obtain ⟨hi23, h⟩ := h
      refine pw_aI (pc := 23) hG (q_arr hΛ o_v0 rfl (by decide)) hi23 d_Tr_childAt_23 ?_
      refine pw_iload_n (pc := 24) hG d_Tr_childAt_24 rfl ?_
      obtain ⟨hrx25, hry25, ha25, hb25⟩ := h
      refine pw_icmp_ne (tgt := 42) (pc := 25) hG d_Tr_childAt_25 (by decide) hrx25 hry25 (fun hc25 => ?_) (fun hc25 => ?_)
      · replace h := ha25 hc25
        refine pw_iinc0 (pc := 42) hG d_Tr_childAt_42 rfl (by decide) rfl ?_
        refine pw_goto (tgt := 11) (pc := 45) hG d_Tr_childAt_45 (by decide) ?_
        exact pw_sub hG [0, 1, 2, 3, 4] rfl (ih v0 v1 v2 v3 (v4 + 1) S o_v0 h)
      · replace h := hb25 hc25
        refine pw_aload_n (pc := 28) hG d_Tr_childAt_28 rfl ?_
        refine g7_4 (pc := 29) hG m_58 d_Tr_childAt_29 o_v0 ?_
        refine pw_iload (pc := 32) hG d_Tr_childAt_32 rfl ?_
        obtain ⟨hi34, h⟩ := h
        refine pw_aI (pc := 34) hG (q_arr hΛ o_v0 rfl (by decide)) hi34 d_Tr_childAt_34 ?_
        refine pw_iload_n (pc := 35) hG d_Tr_childAt_35 rfl ?_
        obtain ⟨hrx36, hry36, ha36, hb36⟩ := h
        refine pw_icmp_ne (tgt := 42) (pc := 36) hG d_Tr_childAt_36 (by decide) hrx36 hry36 (fun hc36 => ?_) (fun hc36 => ?_)
        · replace h := ha36 hc36
          refine pw_iinc0 (pc := 42) hG d_Tr_childAt_42 rfl (by decide) rfl ?_
          refine pw_goto (tgt := 11) (pc := 45) hG d_Tr_childAt_45 (by decide) ?_
          exact pw_sub hG [0, 1, 2, 3, 4] rfl (ih v0 v1 v2 v3 (v4 + 1) S o_v0 h)
        · replace h := hb36 hc36
          refine pw_iload (pc := 39) hG d_Tr_childAt_39 rfl ?_
          exact hR 41 _ _ _ d_Tr_childAt_41 h
theorem b_Tr_childAt_0 {Λ : QLay} {G : Nat → List (Nat × Value) → List Value → QMem → Prop} {Q : Int → QMem → Prop} (hG : QAct c_Tr_childAt "TreeDiffer$Tree" 5 { frames := 1, cells := 0, slots := 0, locals := 21 } Λ G) (hR : RtI c_Tr_childAt G Q) (v0 : Nat) (v1 : Int) (v2 : Int) (S : QMem) (o0 : qob Λ 7 v0) (h : w_Tr_childAt Λ v0 v1 v2 S Q) : G 0 [(0, .ref v0), (1, vI v1), (2, vI v2)] [] S := by
  have hΛ := hG.lay
  unfold w_Tr_childAt at h
  refine pw_aload_n (pc := 0) hG d_Tr_childAt_0 rfl ?_
  refine pw_iload_n (pc := 1) hG d_Tr_childAt_1 rfl ?_
  refine pw_calli (pc := 2) hG (fun l Δ => ct_Tr_endOf l Δ hΛ o0 h) o0 rfl (by decide) m_483 k_Tr_endOf rfl ⟨by decide, by decide⟩ (Nat.le_of_ble_eq_true rfl) d_Tr_childAt_2 rfl (fun r2 S2 h => ?_)
  refine pw_ist_n (pc := 5) hG d_Tr_childAt_5 (by decide) rfl ?_
  refine pw_iload_n (pc := 6) hG d_Tr_childAt_6 rfl ?_
  refine pw_iconst (pc := 7) hG d_Tr_childAt_7 ?_
  refine pw_iadd (pc := 8) hG d_Tr_childAt_8 ?_
  refine pw_istore (pc := 9) hG d_Tr_childAt_9 (by decide) (fun x9 ex9 => ⟨_, rfl, ?_⟩)
  replace h := h x9 ex9
  obtain ⟨n9, h⟩ := h
  exact pw_sub hG [0, 1, 2, 3, 4] rfl (b_Tr_childAt_11 hG hR n9 v0 v1 v2 r2 x9 S2 o0 h)
theorem ct_Tr_childAt (l : Launch) (Δ : QDl) {Λ : QLay} (hΛ : LayOk Λ) {v0 : Nat} {v1 : Int} {v2 : Int} {S : QMem} {Q : Int → QMem → Prop} (o0 : qob Λ 7 v0) (h : w_Tr_childAt Λ v0 v1 v2 S Q) : QCt l y_Tr_childAt c_Tr_childAt 5 (some .int) 1 21 Δ Λ [.ref v0, vI v1, vI v2] S (qI Q) :=
  QCt.mk (own := "TreeDiffer$Tree") hΛ (by decide) rfl rfl (Nat.le_of_ble_eq_true rfl) (fun G hG ri rz rv rj ra => b_Tr_childAt_0 hG (fun pc lv x S d hq => ri pc lv x S rfl d ⟨x, rfl, hq⟩) v0 v1 v2 S o0 h)
theorem k_Wt_takeBack : QVf y_Wt_takeBack c_Wt_takeBack 2 none "TreeDiffer$WorkTree" 1 := ⟨m_715, m_716, m_7, m_717, by decide +kernel⟩
theorem b_Wt_takeBack_0 {Λ : QLay} {G : Nat → List (Nat × Value) → List Value → QMem → Prop} {Q : QMem → Prop} (hG : QAct c_Wt_takeBack "TreeDiffer$WorkTree" 2 { frames := 2, cells := 0, slots := 0, locals := 44 } Λ G) (hR : RtV c_Wt_takeBack G Q) (v0 : Nat) (v1 : Nat) (S : QMem) (o0 : qob Λ 8 v0) (o1 : qob Λ 5 v1) (h : w_Wt_takeBack Λ v0 v1 S Q) : G 0 [(0, .ref v0), (1, .ref v1)] [] S := by
  have hΛ := hG.lay
  unfold w_Wt_takeBack at h
  refine pw_aload_n (pc := 0) hG d_Wt_takeBack_0 rfl ?_
  refine g5_0 (pc := 1) hG m_224 d_Wt_takeBack_1 o1 ?_
  obtain ⟨hr4, hz4_0, hz4_1, hz4_2, hzd4⟩ := h
  by_cases hc4_0 : (S.1 v1 0 0) = 0
  · refine pw_table (tgt := 32) (pc := 4) hG d_Wt_takeBack_4 hr4 (by omega) (by omega) (off := 28) (by rw [hc4_0]; rfl) (by decide) ?_
    replace h := hz4_0 hc4_0
    refine pw_aload_n (pc := 32) hG d_Wt_takeBack_32 rfl ?_
    refine g8_1 (pc := 33) hG m_197 d_Wt_takeBack_33 o0 ?_
    refine pw_aload_n (pc := 36) hG d_Wt_takeBack_36 rfl ?_
    refine g5_1 (pc := 37) hG m_228 d_Wt_takeBack_37 o1 ?_
    refine pw_aload_n (pc := 40) hG d_Wt_takeBack_40 rfl ?_
    refine g5_8 (pc := 41) hG m_246 d_Wt_takeBack_41 o1 ?_
    obtain ⟨hi44, h⟩ := h
    refine pw_sI (pc := 44) hG (q_arr hΛ o0 rfl (by decide)) hi44 d_Wt_takeBack_44 (fun S44 eS44 => ?_)
    replace h := h S44 eS44
    refine pw_goto (tgt := 102) (pc := 45) hG d_Wt_takeBack_45 (by decide) ?_
    exact hR 102 _ _ d_Wt_takeBack_102 h
  by_cases hc4_1 : (S.1 v1 0 0) = 1
  · refine pw_table (tgt := 48) (pc := 4) hG d_Wt_takeBack_4 hr4 (by omega) (by omega) (off := 44) (by rw [hc4_1]; rfl) (by decide) ?_
    replace h := hz4_1 hc4_1
    refine pw_aload_n (pc := 48) hG d_Wt_takeBack_48 rfl ?_
    refine pw_aload_n (pc := 49) hG d_Wt_takeBack_49 rfl ?_
    refine g5_1 (pc := 50) hG m_228 d_Wt_takeBack_50 o1 ?_
    refine pw_callv (pc := 53) hG (fun l Δ => ct_Wt_takeOut l Δ hΛ o0 h) o0 rfl (by decide) m_639 k_Wt_takeOut rfl ⟨by decide, by decide⟩ (Nat.le_of_ble_eq_true rfl) d_Wt_takeBack_53 rfl (fun S53 h => ?_)
    refine pw_goto (tgt := 102) (pc := 56) hG d_Wt_takeBack_56 (by decide) ?_
    exact hR 102 _ _ d_Wt_takeBack_102 h
  by_cases hc4_2 : (S.1 v1 0 0) = 2
  · refine pw_table (tgt := 59) (pc := 4) hG d_Wt_takeBack_4 hr4 (by omega) (by omega) (off := 55) (by rw [hc4_2]; rfl) (by decide) ?_
    replace h := hz4_2 hc4_2
    refine pw_aload_n (pc := 59) hG d_Wt_takeBack_59 rfl ?_
    refine pw_aload_n (pc := 60) hG d_Wt_takeBack_60 rfl ?_
    refine g5_1 (pc := 61) hG m_228 d_Wt_takeBack_61 o1 ?_
    refine pw_callv (pc := 64) hG (fun l Δ => ct_Wt_takeOut l Δ hΛ o0 h) o0 rfl (by decide) m_639 k_Wt_takeOut rfl ⟨by decide, by decide⟩ (Nat.le_of_ble_eq_true rfl) d_Wt_takeBack_64 rfl (fun S64 h => ?_)
    refine pw_aload_n (pc := 67) hG d_Wt_takeBack_67 rfl ?_
    refine pw_aload_n (pc := 68) hG d_Wt_takeBack_68 rfl ?_
    refine g5_1 (pc := 69) hG m_228 d_Wt_takeBack_69 o1 ?_
    refine pw_aload_n (pc := 72) hG d_Wt_takeBack_72 rfl ?_
    refine g5_6 (pc := 73) hG m_242 d_Wt_takeBack_73 o1 ?_
    refine pw_aload_n (pc := 76) hG d_Wt_takeBack_76 rfl ?_
    refine g5_7 (pc := 77) hG m_244 d_Wt_takeBack_77 o1 ?_
    refine pw_callv (pc := 80) hG (fun l Δ => ct_Wt_putIn l Δ hΛ o0 h) o0 rfl (by decide) m_638 k_Wt_putIn rfl ⟨by decide, by decide⟩ (Nat.le_of_ble_eq_true rfl) d_Wt_takeBack_80 rfl (fun S80 h => ?_)
    refine pw_goto (tgt := 102) (pc := 83) hG d_Wt_takeBack_83 (by decide) ?_
    exact hR 102 _ _ d_Wt_takeBack_102 h
  have hcd4 : (S.1 v1 0 0) < 0 ∨ 2 < (S.1 v1 0 0) := by omega
  refine pw_tableD (tgt := 86) (pc := 4) hG d_Wt_takeBack_4 hr4 hcd4 (by decide) ?_
  replace h := hzd4 hcd4
  refine pw_aload_n (pc := 86) hG d_Wt_takeBack_86 rfl ?_
  refine pw_aload_n (pc := 87) hG d_Wt_takeBack_87 rfl ?_
  refine g5_1 (pc := 88) hG m_228 d_Wt_takeBack_88 o1 ?_
  refine pw_aload_n (pc := 91) hG d_Wt_takeBack_91 rfl ?_
  refine g5_6 (pc := 92) hG m_242 d_Wt_takeBack_92 o1 ?_
  refine pw_aload_n (pc := 95) hG d_Wt_takeBack_95 rfl ?_
  refine g5_7 (pc := 96) hG m_244 d_Wt_takeBack_96 o1 ?_
  refine pw_callv (pc := 99) hG (fun l Δ => ct_Wt_putIn l Δ hΛ o0 h) o0 rfl (by decide) m_638 k_Wt_putIn rfl ⟨by decide, by decide⟩ (Nat.le_of_ble_eq_true rfl) d_Wt_takeBack_99 rfl (fun S99 h => ?_)
  exact hR 102 _ _ d_Wt_takeBack_102 h
theorem ct_Wt_takeBack (l : Launch) (Δ : QDl) {Λ : QLay} (hΛ : LayOk Λ) {v0 : Nat} {v1 : Nat} {S : QMem} {Q : QMem → Prop} (o0 : qob Λ 8 v0) (o1 : qob Λ 5 v1) (h : w_Wt_takeBack Λ v0 v1 S Q) : QCt l y_Wt_takeBack c_Wt_takeBack 2 none 2 44 Δ Λ [.ref v0, .ref v1] S (qV Q) :=
  QCt.mk (own := "TreeDiffer$WorkTree") hΛ (by decide) rfl rfl (Nat.le_of_ble_eq_true rfl) (fun G hG ri rz rv rj ra => b_Wt_takeBack_0 hG (fun pc lv S d hq => rv pc lv S rfl d ⟨rfl, hq⟩) v0 v1 S o0 o1 h)
theorem k_TD_append : QVf y_TD_append c_TD_append 2 (some .int) "TreeDiffer" 1 := ⟨m_370, m_371, m_1, m_372, by decide +kernel⟩
theorem b_TD_append_0 {Λ : QLay} {G : Nat → List (Nat × Value) → List Value → QMem → Prop} {Q : Int → QMem → Prop} (hG : QAct c_TD_append "TreeDiffer" 2 { frames := 1, cells := 0, slots := 0, locals := 21 } Λ G) (hR : RtI c_TD_append G Q) (v0 : Nat) (v1 : Int) (S : QMem) (o0 : qob Λ 9 v0) (h : w_TD_append Λ v0 v1 S Q) : G 0 [(0, .ref v0), (1, vI v1)] [] S := by
  have hΛ := hG.lay
  unfold w_TD_append at h
  refine pw_iload_n (pc := 0) hG d_TD_append_0 rfl ?_
  obtain ⟨hrx1, ha1, hb1⟩ := h
  refine pw_if_lt (tgt := 10) (pc := 1) hG d_TD_append_1 (by decide) hrx1 (fun hc1 => ?_) (fun hc1 => ?_)
  · replace h := ha1 hc1
    refine pw_bipush (pc := 10) hG d_TD_append_10 (by decide) ?_
    exact hR 12 _ _ _ d_TD_append_12 h
  · replace h := hb1 hc1
    refine pw_iload_n (pc := 4) hG d_TD_append_4 rfl ?_
    refine pw_bipush (pc := 5) hG d_TD_append_5 (by decide) ?_
    obtain ⟨hrx7, ha7, hb7⟩ := h
    refine pw_icmp_le (tgt := 13) (pc := 7) hG d_TD_append_7 (by decide) hrx7 (q_lit rfl) (fun hc7 => ?_) (fun hc7 => ?_)
    · replace h := ha7 hc7
      refine pw_aload_n (pc := 13) hG d_TD_append_13 rfl ?_
      refine g9_0 (pc := 14) hG m_326 d_TD_append_14 o0 ?_
      refine pw_iload_n (pc := 17) hG d_TD_append_17 rfl ?_
      refine pw_calli (pc := 18) hG (fun l Δ => ct_Tx_add l Δ hΛ (q_rf hΛ o0 rfl (by decide)) h) (q_rf hΛ o0 rfl (by decide)) rfl (by decide) m_373 k_Tx_add rfl ⟨by decide, by decide⟩ (Nat.le_of_ble_eq_true rfl) d_TD_append_18 rfl (fun r18 S18 h => ?_)
      obtain ⟨hrx21, ha21, hb21⟩ := h
      refine pw_if_eq (tgt := 34) (pc := 21) hG d_TD_append_21 (by decide) hrx21 (fun hc21 => ?_) (fun hc21 => ?_)
      · replace h := ha21 hc21
        refine pw_bipush (pc := 34) hG d_TD_append_34 (by decide) ?_
        exact hR 36 _ _ _ d_TD_append_36 h
      · replace h := hb21 hc21
        refine pw_aload_n (pc := 24) hG d_TD_append_24 rfl ?_
        refine g9_0 (pc := 25) hG m_326 d_TD_append_25 o0 ?_
        refine g6_1 (pc := 28) hG m_100 d_TD_append_28 (q_rf hΛ o0 rfl (by decide)) ?_
        refine pw_goto (tgt := 36) (pc := 31) hG d_TD_append_31 (by decide) ?_
        exact hR 36 _ _ _ d_TD_append_36 h
    · replace h := hb7 hc7
      refine pw_bipush (pc := 10) hG d_TD_append_10 (by decide) ?_
      exact hR 12 _ _ _ d_TD_append_12 h
theorem ct_TD_append (l : Launch) (Δ : QDl) {Λ : QLay} (hΛ : LayOk Λ) {v0 : Nat} {v1 : Int} {S : QMem} {Q : Int → QMem → Prop} (o0 : qob Λ 9 v0) (h : w_TD_append Λ v0 v1 S Q) : QCt l y_TD_append c_TD_append 2 (some .int) 1 21 Δ Λ [.ref v0, vI v1] S (qI Q) :=
  QCt.mk (own := "TreeDiffer") hΛ (by decide) rfl rfl (Nat.le_of_ble_eq_true rfl) (fun G hG ri rz rv rj ra => b_TD_append_0 hG (fun pc lv x S d hq => ri pc lv x S rfl d ⟨x, rfl, hq⟩) v0 v1 S o0 h)
theorem k_TD_clearText : QVf y_TD_clearText c_TD_clearText 2 (some .int) "TreeDiffer" 0 := ⟨m_378, m_379, m_1, m_380, by decide +kernel⟩
theorem b_TD_clearText_0 {Λ : QLay} {G : Nat → List (Nat × Value) → List Value → QMem → Prop} {Q : Int → QMem → Prop} (hG : QAct c_TD_clearText "TreeDiffer" 2 { frames := 0, cells := 0, slots := 0, locals := 0 } Λ G) (hR : RtI c_TD_clearText G Q) (v0 : Nat) (S : QMem) (o0 : qob Λ 9 v0) (h : w_TD_clearText Λ v0 S Q) : G 0 [(0, .ref v0)] [] S := by
  have hΛ := hG.lay
  unfold w_TD_clearText at h
  refine pw_aload_n (pc := 0) hG d_TD_clearText_0 rfl ?_
  refine g9_0 (pc := 1) hG m_326 d_TD_clearText_1 o0 ?_
  refine g6_1 (pc := 4) hG m_100 d_TD_clearText_4 (q_rf hΛ o0 rfl (by decide)) ?_
  refine pw_istore_n (pc := 7) hG d_TD_clearText_7 (by decide) (fun x7 ex7 => ⟨_, rfl, ?_⟩)
  replace h := h x7 ex7
  refine pw_aload_n (pc := 8) hG d_TD_clearText_8 rfl ?_
  refine g9_0 (pc := 9) hG m_326 d_TD_clearText_9 o0 ?_
  refine pw_iconst (pc := 12) hG d_TD_clearText_12 ?_
  refine p6_1 (pc := 13) hG m_100 d_TD_clearText_13 (q_rf hΛ o0 rfl (by decide)) (fun S13 eS13 => ?_)
  replace h := h S13 eS13
  refine pw_iload_n (pc := 16) hG d_TD_clearText_16 rfl ?_
  exact hR 17 _ _ _ d_TD_clearText_17 h
theorem ct_TD_clearText (l : Launch) (Δ : QDl) {Λ : QLay} (hΛ : LayOk Λ) {v0 : Nat} {S : QMem} {Q : Int → QMem → Prop} (o0 : qob Λ 9 v0) (h : w_TD_clearText Λ v0 S Q) : QCt l y_TD_clearText c_TD_clearText 2 (some .int) 0 0 Δ Λ [.ref v0] S (qI Q) :=
  QCt.mk (own := "TreeDiffer") hΛ (by decide) rfl rfl (Nat.le_of_ble_eq_true rfl) (fun G hG ri rz rv rj ra => b_TD_clearText_0 hG (fun pc lv x S d hq => ri pc lv x S rfl d ⟨x, rfl, hq⟩) v0 S o0 h)
theorem k_TD_faultPosition : QVf y_TD_faultPosition c_TD_faultPosition 1 (some .int) "TreeDiffer" 0 := ⟨m_382, m_383, m_1, m_384, by decide +kernel⟩
theorem b_TD_faultPosition_0 {Λ : QLay} {G : Nat → List (Nat × Value) → List Value → QMem → Prop} {Q : Int → QMem → Prop} (hG : QAct c_TD_faultPosition "TreeDiffer" 1 { frames := 4, cells := 0, slots := 0, locals := 85 } Λ G) (hR : RtI c_TD_faultPosition G Q) (v0 : Nat) (S : QMem) (o0 : qob Λ 9 v0) (h : w_TD_faultPosition Λ v0 S Q) : G 0 [(0, .ref v0)] [] S := by
  have hΛ := hG.lay
  unfold w_TD_faultPosition at h
  refine pw_aload_n (pc := 0) hG d_TD_faultPosition_0 rfl ?_
  refine g9_0 (pc := 1) hG m_326 d_TD_faultPosition_1 o0 ?_
  refine pw_calli (pc := 4) hG (fun l Δ => ct_Tx_findFault l Δ hΛ (q_rf hΛ o0 rfl (by decide)) h) (q_rf hΛ o0 rfl (by decide)) rfl (by decide) m_385 k_Tx_findFault rfl ⟨by decide, by decide⟩ (Nat.le_of_ble_eq_true rfl) d_TD_faultPosition_4 rfl (fun r4 S4 h => ?_)
  exact hR 7 _ _ _ d_TD_faultPosition_7 h
theorem ct_TD_faultPosition (l : Launch) (Δ : QDl) {Λ : QLay} (hΛ : LayOk Λ) {v0 : Nat} {S : QMem} {Q : Int → QMem → Prop} (o0 : qob Λ 9 v0) (h : w_TD_faultPosition Λ v0 S Q) : QCt l y_TD_faultPosition c_TD_faultPosition 1 (some .int) 4 85 Δ Λ [.ref v0] S (qI Q) :=
  QCt.mk (own := "TreeDiffer") hΛ (by decide) rfl rfl (Nat.le_of_ble_eq_true rfl) (fun G hG ri rz rv rj ra => b_TD_faultPosition_0 hG (fun pc lv x S d hq => ri pc lv x S rfl d ⟨x, rfl, hq⟩) v0 S o0 h)
theorem k_TD_faultDepth : QVf y_TD_faultDepth c_TD_faultDepth 1 (some .int) "TreeDiffer" 0 := ⟨m_418, m_419, m_1, m_420, by decide +kernel⟩
theorem b_TD_faultDepth_0 {Λ : QLay} {G : Nat → List (Nat × Value) → List Value → QMem → Prop} {Q : Int → QMem → Prop} (hG : QAct c_TD_faultDepth "TreeDiffer" 1 { frames := 4, cells := 0, slots := 0, locals := 85 } Λ G) (hR : RtI c_TD_faultDepth G Q) (v0 : Nat) (S : QMem) (o0 : qob Λ 9 v0) (h : w_TD_faultDepth Λ v0 S Q) : G 0 [(0, .ref v0)] [] S := by
  have hΛ := hG.lay
  unfold w_TD_faultDepth at h
  refine pw_aload_n (pc := 0) hG d_TD_faultDepth_0 rfl ?_
  refine g9_0 (pc := 1) hG m_326 d_TD_faultDepth_1 o0 ?_
  refine pw_calli (pc := 4) hG (fun l Δ => ct_Tx_findFault l Δ hΛ (q_rf hΛ o0 rfl (by decide)) h) (q_rf hΛ o0 rfl (by decide)) rfl (by decide) m_385 k_Tx_findFault rfl ⟨by decide, by decide⟩ (Nat.le_of_ble_eq_true rfl) d_TD_faultDepth_4 rfl (fun r4 S4 h => ?_)
  refine pw_bipush (pc := 7) hG d_TD_faultDepth_7 (by decide) ?_
  obtain ⟨hrx9, ha9, hb9⟩ := h
  refine pw_icmp_ne (tgt := 17) (pc := 9) hG d_TD_faultDepth_9 (by decide) hrx9 (q_lit rfl) (fun hc9 => ?_) (fun hc9 => ?_)
  · replace h := ha9 hc9
    refine pw_aload_n (pc := 17) hG d_TD_faultDepth_17 rfl ?_
    refine g9_0 (pc := 18) hG m_326 d_TD_faultDepth_18 o0 ?_
    refine g6_3 (pc := 21) hG m_104 d_TD_faultDepth_21 (q_rf hΛ o0 rfl (by decide)) ?_
    exact hR 24 _ _ _ d_TD_faultDepth_24 h
  · replace h := hb9 hc9
    refine pw_bipush (pc := 12) hG d_TD_faultDepth_12 (by decide) ?_
    refine pw_goto (tgt := 24) (pc := 14) hG d_TD_faultDepth_14 (by decide) ?_
    exact hR 24 _ _ _ d_TD_faultDepth_24 h
theorem ct_TD_faultDepth (l : Launch) (Δ : QDl) {Λ : QLay} (hΛ : LayOk Λ) {v0 : Nat} {S : QMem} {Q : Int → QMem → Prop} (o0 : qob Λ 9 v0) (h : w_TD_faultDepth Λ v0 S Q) : QCt l y_TD_faultDepth c_TD_faultDepth 1 (some .int) 4 85 Δ Λ [.ref v0] S (qI Q) :=
  QCt.mk (own := "TreeDiffer") hΛ (by decide) rfl rfl (Nat.le_of_ble_eq_true rfl) (fun G hG ri rz rv rj ra => b_TD_faultDepth_0 hG (fun pc lv x S d hq => ri pc lv x S rfl d ⟨x, rfl, hq⟩) v0 S o0 h)
theorem k_TD_isTree : QSf y_TD_isTree c_TD_isTree 1 (some .boolean) "TreeDiffer" 1 := ⟨m_426, m_1, m_427, by decide +kernel⟩
theorem b_TD_isTree_0 {Λ : QLay} {G : Nat → List (Nat × Value) → List Value → QMem → Prop} {Q : Int → QMem → Prop} (hG : QAct c_TD_isTree "TreeDiffer" 1 { frames := 0, cells := 0, slots := 0, locals := 0 } Λ G) (hR : RtZ c_TD_isTree G Q) (v0 : Int) (S : QMem) (h : w_TD_isTree Λ v0 S Q) : G 0 [(0, vI v0)] [] S := by
  have hΛ := hG.lay
  unfold w_TD_isTree at h
  refine pw_iload_n (pc := 0) hG d_TD_isTree_0 rfl ?_
  obtain ⟨hrx1, ha1, hb1⟩ := h
  refine pw_if_eq (tgt := 9) (pc := 1) hG d_TD_isTree_1 (by decide) hrx1 (fun hc1 => ?_) (fun hc1 => ?_)
  · replace h := ha1 hc1
    refine pw_iconst (pc := 9) hG d_TD_isTree_9 ?_
    refine pw_goto (tgt := 14) (pc := 10) hG d_TD_isTree_10 (by decide) ?_
    exact hR 14 _ _ _ d_TD_isTree_14 (Or.inr rfl) h
  · replace h := hb1 hc1
    refine pw_iload_n (pc := 4) hG d_TD_isTree_4 rfl ?_
    refine pw_iconst (pc := 5) hG d_TD_isTree_5 ?_
    obtain ⟨hrx6, ha6, hb6⟩ := h
    refine pw_icmp_ne (tgt := 13) (pc := 6) hG d_TD_isTree_6 (by decide) hrx6 (q_lit rfl) (fun hc6 => ?_) (fun hc6 => ?_)
    · replace h := ha6 hc6
      refine pw_iconst (pc := 13) hG d_TD_isTree_13 ?_
      exact hR 14 _ _ _ d_TD_isTree_14 (Or.inl rfl) h
    · replace h := hb6 hc6
      refine pw_iconst (pc := 9) hG d_TD_isTree_9 ?_
      refine pw_goto (tgt := 14) (pc := 10) hG d_TD_isTree_10 (by decide) ?_
      exact hR 14 _ _ _ d_TD_isTree_14 (Or.inr rfl) h
theorem ct_TD_isTree (l : Launch) (Δ : QDl) {Λ : QLay} (hΛ : LayOk Λ) {v0 : Int} {S : QMem} {Q : Int → QMem → Prop} (h : w_TD_isTree Λ v0 S Q) : QCt l y_TD_isTree c_TD_isTree 1 (some .boolean) 0 0 Δ Λ [vI v0] S (qI Q) :=
  QCt.mk (own := "TreeDiffer") hΛ (by decide) rfl rfl (Nat.le_of_ble_eq_true rfl) (fun G hG ri rz rv rj ra => b_TD_isTree_0 hG (fun pc lv x S d hb hq => rz pc lv x S rfl d hb ⟨x, rfl, hq⟩) v0 S  h)
theorem k_TD_rewind : QVf y_TD_rewind c_TD_rewind 1 none "TreeDiffer" 0 := ⟨m_453, m_p8, m_1, m_454, by decide +kernel⟩
theorem b_TD_rewind_0 {Λ : QLay} {G : Nat → List (Nat × Value) → List Value → QMem → Prop} {Q : QMem → Prop} (hG : QAct c_TD_rewind "TreeDiffer" 1 { frames := 1, cells := 0, slots := 0, locals := 22 } Λ G) (hR : RtV c_TD_rewind G Q) (v0 : Nat) (S : QMem) (o0 : qob Λ 9 v0) (h : w_TD_rewind Λ v0 S Q) : G 0 [(0, .ref v0)] [] S := by
  have hΛ := hG.lay
  unfold w_TD_rewind at h
  refine pw_aload_n (pc := 0) hG d_TD_rewind_0 rfl ?_
  refine g9_7 (pc := 1) hG m_333 d_TD_rewind_1 o0 ?_
  refine pw_aload_n (pc := 4) hG d_TD_rewind_4 rfl ?_
  refine g9_1 (pc := 5) hG m_327 d_TD_rewind_5 o0 ?_
  refine pw_getP (pc := 8) hG (q_rf hΛ o0 rfl (by decide)) 0 (Or.inl rfl) m_129 d_TD_rewind_8 (fun t8 et8 ot8 => ?_)
  replace h := h t8 et8
  refine pw_callv (pc := 11) hG (fun l Δ => ct_Wt_load l Δ hΛ (q_rf hΛ o0 rfl (by decide)) ot8 h) (q_rf hΛ o0 rfl (by decide)) rfl (by decide) m_322 k_Wt_load rfl ⟨by decide, by decide⟩ (Nat.le_of_ble_eq_true rfl) d_TD_rewind_11 rfl (fun S11 h => ?_)
  refine pw_aload_n (pc := 14) hG d_TD_rewind_14 rfl ?_
  refine pw_iconst (pc := 15) hG d_TD_rewind_15 ?_
  refine p9_13 (pc := 16) hG m_339 d_TD_rewind_16 o0 (fun S16 eS16 => ?_)
  replace h := h S16 eS16
  exact hR 19 _ _ d_TD_rewind_19 h
theorem ct_TD_rewind (l : Launch) (Δ : QDl) {Λ : QLay} (hΛ : LayOk Λ) {v0 : Nat} {S : QMem} {Q : QMem → Prop} (o0 : qob Λ 9 v0) (h : w_TD_rewind Λ v0 S Q) : QCt l y_TD_rewind c_TD_rewind 1 none 1 22 Δ Λ [.ref v0] S (qV Q) :=
  QCt.mk (own := "TreeDiffer") hΛ (by decide) rfl rfl (Nat.le_of_ble_eq_true rfl) (fun G hG ri rz rv rj ra => b_TD_rewind_0 hG (fun pc lv S d hq => rv pc lv S rfl d ⟨rfl, hq⟩) v0 S o0 h)
theorem k_TD_forgetAnswers : QVf y_TD_forgetAnswers c_TD_forgetAnswers 1 none "TreeDiffer" 0 := ⟨m_449, m_p7, m_1, m_450, by decide +kernel⟩
theorem b_TD_forgetAnswers_0 {Λ : QLay} {G : Nat → List (Nat × Value) → List Value → QMem → Prop} {Q : QMem → Prop} (hG : QAct c_TD_forgetAnswers "TreeDiffer" 1 { frames := 2, cells := 0, slots := 0, locals := 42 } Λ G) (hR : RtV c_TD_forgetAnswers G Q) (v0 : Nat) (S : QMem) (o0 : qob Λ 9 v0) (h : w_TD_forgetAnswers Λ v0 S Q) : G 0 [(0, .ref v0)] [] S := by
  have hΛ := hG.lay
  unfold w_TD_forgetAnswers at h
  refine pw_aload_n (pc := 0) hG d_TD_forgetAnswers_0 rfl ?_
  refine pw_iconst (pc := 1) hG d_TD_forgetAnswers_1 ?_
  refine p9_11 (pc := 2) hG m_337 d_TD_forgetAnswers_2 o0 (Or.inl rfl) (fun S2 eS2 => ?_)
  replace h := h S2 eS2
  refine pw_aload_n (pc := 5) hG d_TD_forgetAnswers_5 rfl ?_
  refine pw_iconst (pc := 6) hG d_TD_forgetAnswers_6 ?_
  refine p9_12 (pc := 7) hG m_338 d_TD_forgetAnswers_7 o0 (fun S7 eS7 => ?_)
  replace h := h S7 eS7
  refine pw_aload_n (pc := 10) hG d_TD_forgetAnswers_10 rfl ?_
  refine pw_callv (pc := 11) hG (fun l Δ => ct_TD_rewind l Δ hΛ o0 h) o0 rfl (by decide) m_451 k_TD_rewind rfl ⟨by decide, by decide⟩ (Nat.le_of_ble_eq_true rfl) d_TD_forgetAnswers_11 rfl (fun S11 h => ?_)
  exact hR 14 _ _ d_TD_forgetAnswers_14 h
theorem ct_TD_forgetAnswers (l : Launch) (Δ : QDl) {Λ : QLay} (hΛ : LayOk Λ) {v0 : Nat} {S : QMem} {Q : QMem → Prop} (o0 : qob Λ 9 v0) (h : w_TD_forgetAnswers Λ v0 S Q) : QCt l y_TD_forgetAnswers c_TD_forgetAnswers 1 none 2 42 Δ Λ [.ref v0] S (qV Q) :=
  QCt.mk (own := "TreeDiffer") hΛ (by decide) rfl rfl (Nat.le_of_ble_eq_true rfl) (fun G hG ri rz rv rj ra => b_TD_forgetAnswers_0 hG (fun pc lv S d hq => rv pc lv S rfl d ⟨rfl, hq⟩) v0 S o0 h)
theorem k_TD_read : QVf y_TD_read c_TD_read 3 (some .int) "TreeDiffer" 1 := ⟨m_422, m_423, m_1, m_424, by decide +kernel⟩
theorem b_TD_read_0 {Λ : QLay} {G : Nat → List (Nat × Value) → List Value → QMem → Prop} {Q : Int → QMem → Prop} (hG : QAct c_TD_read "TreeDiffer" 3 { frames := 4, cells := 0, slots := 0, locals := 85 } Λ G) (hR : RtI c_TD_read G Q) (v0 : Nat) (v1 : Int) (S : QMem) (o0 : qob Λ 9 v0) (h : w_TD_read Λ v0 v1 S Q) : G 0 [(0, .ref v0), (1, vI v1)] [] S := by
  have hΛ := hG.lay
  unfold w_TD_read at h
  refine pw_iload_n (pc := 0) hG d_TD_read_0 rfl ?_
  refine pw_scalli (pc := 1) hG (fun l Δ => ct_TD_isTree l Δ hΛ  h) m_425 k_TD_isTree rfl ⟨by decide, by decide⟩ (Nat.le_of_ble_eq_true rfl) d_TD_read_1 rfl (fun r1 S1 h => ?_)
  obtain ⟨hrx4, ha4, hb4⟩ := h
  refine pw_if_ne (tgt := 10) (pc := 4) hG d_TD_read_4 (by decide) hrx4 (fun hc4 => ?_) (fun hc4 => ?_)
  · replace h := ha4 hc4
    refine pw_aload_n (pc := 10) hG d_TD_read_10 rfl ?_
    refine g9_0 (pc := 11) hG m_326 d_TD_read_11 o0 ?_
    refine pw_calli (pc := 14) hG (fun l Δ => ct_Tx_findFault l Δ hΛ (q_rf hΛ o0 rfl (by decide)) h) (q_rf hΛ o0 rfl (by decide)) rfl (by decide) m_385 k_Tx_findFault rfl ⟨by decide, by decide⟩ (Nat.le_of_ble_eq_true rfl) d_TD_read_14 rfl (fun r14 S14 h => ?_)
    refine pw_bipush (pc := 17) hG d_TD_read_17 (by decide) ?_
    obtain ⟨hrx19, ha19, hb19⟩ := h
    refine pw_icmp_eq (tgt := 25) (pc := 19) hG d_TD_read_19 (by decide) hrx19 (q_lit rfl) (fun hc19 => ?_) (fun hc19 => ?_)
    · replace h := ha19 hc19
      refine pw_aload_n (pc := 25) hG d_TD_read_25 rfl ?_
      refine g9_1 (pc := 26) hG m_327 d_TD_read_26 o0 ?_
      refine pw_iload_n (pc := 29) hG d_TD_read_29 rfl ?_
      refine pw_callr (pc := 30) hG (fun l Δ => ct_Se_treeOf l Δ hΛ (q_rf hΛ o0 rfl (by decide)) h) (q_rf hΛ o0 rfl (by decide)) rfl (by decide) m_428 k_Se_treeOf rfl ⟨by decide, by decide⟩ (Nat.le_of_ble_eq_true rfl) d_TD_read_30 rfl (fun r30 or30 S30 h => ?_)
      refine pw_astore_n (pc := 33) hG d_TD_read_33 (by decide) rfl ?_
      refine pw_aload_n (pc := 34) hG d_TD_read_34 rfl ?_
      refine pw_aload_n (pc := 35) hG d_TD_read_35 rfl ?_
      refine g9_0 (pc := 36) hG m_326 d_TD_read_36 o0 ?_
      refine g6_2 (pc := 39) hG m_102 d_TD_read_39 (q_rf hΛ o0 rfl (by decide)) ?_
      refine pw_callv (pc := 42) hG (fun l Δ => ct_Tr_copy l Δ hΛ or30 (q_rf hΛ (q_rf hΛ o0 rfl (by decide)) rfl (by decide)) h) or30 rfl (by decide) m_432 k_Tr_copy rfl ⟨by decide, by decide⟩ (Nat.le_of_ble_eq_true rfl) d_TD_read_42 rfl (fun S42 h => ?_)
      refine pw_aload_n (pc := 45) hG d_TD_read_45 rfl ?_
      refine pw_callv (pc := 46) hG (fun l Δ => ct_Tr_complete l Δ hΛ or30 h) or30 rfl (by decide) m_436 k_Tr_complete rfl ⟨by decide, by decide⟩ (Nat.le_of_ble_eq_true rfl) d_TD_read_46 rfl (fun S46 h => ?_)
      refine pw_aload_n (pc := 49) hG d_TD_read_49 rfl ?_
      refine pw_callv (pc := 50) hG (fun l Δ => ct_TD_forgetAnswers l Δ hΛ o0 h) o0 rfl (by decide) m_447 k_TD_forgetAnswers rfl ⟨by decide, by decide⟩ (Nat.le_of_ble_eq_true rfl) d_TD_read_50 rfl (fun S50 h => ?_)
      refine pw_aload_n (pc := 53) hG d_TD_read_53 rfl ?_
      refine g7_0 (pc := 54) hG m_39 d_TD_read_54 or30 ?_
      exact hR 57 _ _ _ d_TD_read_57 h
    · replace h := hb19 hc19
      refine pw_bipush (pc := 22) hG d_TD_read_22 (by decide) ?_
      exact hR 24 _ _ _ d_TD_read_24 h
  · replace h := hb4 hc4
    refine pw_bipush (pc := 7) hG d_TD_read_7 (by decide) ?_
    exact hR 9 _ _ _ d_TD_read_9 h
theorem ct_TD_read (l : Launch) (Δ : QDl) {Λ : QLay} (hΛ : LayOk Λ) {v0 : Nat} {v1 : Int} {S : QMem} {Q : Int → QMem → Prop} (o0 : qob Λ 9 v0) (h : w_TD_read Λ v0 v1 S Q) : QCt l y_TD_read c_TD_read 3 (some .int) 4 85 Δ Λ [.ref v0, vI v1] S (qI Q) :=
  QCt.mk (own := "TreeDiffer") hΛ (by decide) rfl rfl (Nat.le_of_ble_eq_true rfl) (fun G hG ri rz rv rj ra => b_TD_read_0 hG (fun pc lv x S d hq => ri pc lv x S rfl d ⟨x, rfl, hq⟩) v0 v1 S o0 h)
theorem k_TD_exchange : QVf y_TD_exchange c_TD_exchange 1 (some .int) "TreeDiffer" 0 := ⟨m_456, m_457, m_1, m_458, by decide +kernel⟩
theorem b_TD_exchange_0 {Λ : QLay} {G : Nat → List (Nat × Value) → List Value → QMem → Prop} {Q : Int → QMem → Prop} (hG : QAct c_TD_exchange "TreeDiffer" 1 { frames := 3, cells := 0, slots := 0, locals := 62 } Λ G) (hR : RtI c_TD_exchange G Q) (v0 : Nat) (S : QMem) (o0 : qob Λ 9 v0) (h : w_TD_exchange Λ v0 S Q) : G 0 [(0, .ref v0)] [] S := by
  have hΛ := hG.lay
  unfold w_TD_exchange at h
  refine pw_aload_n (pc := 0) hG d_TD_exchange_0 rfl ?_
  refine g9_1 (pc := 1) hG m_327 d_TD_exchange_1 o0 ?_
  refine pw_callv (pc := 4) hG (fun l Δ => ct_Se_swapTrees l Δ hΛ (q_rf hΛ o0 rfl (by decide)) h) (q_rf hΛ o0 rfl (by decide)) rfl (by decide) m_459 k_Se_swapTrees rfl ⟨by decide, by decide⟩ (Nat.le_of_ble_eq_true rfl) d_TD_exchange_4 rfl (fun S4 h => ?_)
  refine pw_aload_n (pc := 7) hG d_TD_exchange_7 rfl ?_
  refine pw_callv (pc := 8) hG (fun l Δ => ct_TD_forgetAnswers l Δ hΛ o0 h) o0 rfl (by decide) m_447 k_TD_forgetAnswers rfl ⟨by decide, by decide⟩ (Nat.le_of_ble_eq_true rfl) d_TD_exchange_8 rfl (fun S8 h => ?_)
  refine pw_aload_n (pc := 11) hG d_TD_exchange_11 rfl ?_
  refine g9_1 (pc := 12) hG m_327 d_TD_exchange_12 o0 ?_
  refine pw_getP (pc := 15) hG (q_rf hΛ o0 rfl (by decide)) 0 (Or.inl rfl) m_129 d_TD_exchange_15 (fun t15 et15 ot15 => ?_)
  replace h := h t15 et15
  refine g7_0 (pc := 18) hG m_39 d_TD_exchange_18 ot15 ?_
  exact hR 21 _ _ _ d_TD_exchange_21 h
theorem ct_TD_exchange (l : Launch) (Δ : QDl) {Λ : QLay} (hΛ : LayOk Λ) {v0 : Nat} {S : QMem} {Q : Int → QMem → Prop} (o0 : qob Λ 9 v0) (h : w_TD_exchange Λ v0 S Q) : QCt l y_TD_exchange c_TD_exchange 1 (some .int) 3 62 Δ Λ [.ref v0] S (qI Q) :=
  QCt.mk (own := "TreeDiffer") hΛ (by decide) rfl rfl (Nat.le_of_ble_eq_true rfl) (fun G hG ri rz rv rj ra => b_TD_exchange_0 hG (fun pc lv x S d hq => ri pc lv x S rfl d ⟨x, rfl, hq⟩) v0 S o0 h)
theorem k_TD_nodes : QVf y_TD_nodes c_TD_nodes 2 (some .int) "TreeDiffer" 1 := ⟨m_464, m_465, m_1, m_466, by decide +kernel⟩
theorem b_TD_nodes_0 {Λ : QLay} {G : Nat → List (Nat × Value) → List Value → QMem → Prop} {Q : Int → QMem → Prop} (hG : QAct c_TD_nodes "TreeDiffer" 2 { frames := 1, cells := 0, slots := 0, locals := 21 } Λ G) (hR : RtI c_TD_nodes G Q) (v0 : Nat) (v1 : Int) (S : QMem) (o0 : qob Λ 9 v0) (h : w_TD_nodes Λ v0 v1 S Q) : G 0 [(0, .ref v0), (1, vI v1)] [] S := by
  have hΛ := hG.lay
  unfold w_TD_nodes at h
  refine pw_iload_n (pc := 0) hG d_TD_nodes_0 rfl ?_
  refine pw_scalli (pc := 1) hG (fun l Δ => ct_TD_isTree l Δ hΛ  h) m_425 k_TD_isTree rfl ⟨by decide, by decide⟩ (Nat.le_of_ble_eq_true rfl) d_TD_nodes_1 rfl (fun r1 S1 h => ?_)
  obtain ⟨hrx4, ha4, hb4⟩ := h
  refine pw_if_eq (tgt := 21) (pc := 4) hG d_TD_nodes_4 (by decide) hrx4 (fun hc4 => ?_) (fun hc4 => ?_)
  · replace h := ha4 hc4
    refine pw_bipush (pc := 21) hG d_TD_nodes_21 (by decide) ?_
    exact hR 23 _ _ _ d_TD_nodes_23 h
  · replace h := hb4 hc4
    refine pw_aload_n (pc := 7) hG d_TD_nodes_7 rfl ?_
    refine g9_1 (pc := 8) hG m_327 d_TD_nodes_8 o0 ?_
    refine pw_iload_n (pc := 11) hG d_TD_nodes_11 rfl ?_
    refine pw_callr (pc := 12) hG (fun l Δ => ct_Se_treeOf l Δ hΛ (q_rf hΛ o0 rfl (by decide)) h) (q_rf hΛ o0 rfl (by decide)) rfl (by decide) m_428 k_Se_treeOf rfl ⟨by decide, by decide⟩ (Nat.le_of_ble_eq_true rfl) d_TD_nodes_12 rfl (fun r12 or12 S12 h => ?_)
    refine g7_0 (pc := 15) hG m_39 d_TD_nodes_15 or12 ?_
    refine pw_goto (tgt := 23) (pc := 18) hG d_TD_nodes_18 (by decide) ?_
    exact hR 23 _ _ _ d_TD_nodes_23 h
theorem ct_TD_nodes (l : Launch) (Δ : QDl) {Λ : QLay} (hΛ : LayOk Λ) {v0 : Nat} {v1 : Int} {S : QMem} {Q : Int → QMem → Prop} (o0 : qob Λ 9 v0) (h : w_TD_nodes Λ v0 v1 S Q) : QCt l y_TD_nodes c_TD_nodes 2 (some .int) 1 21 Δ Λ [.ref v0, vI v1] S (qI Q) :=
  QCt.mk (own := "TreeDiffer") hΛ (by decide) rfl rfl (Nat.le_of_ble_eq_true rfl) (fun G hG ri rz rv rj ra => b_TD_nodes_0 hG (fun pc lv x S d hq => ri pc lv x S rfl d ⟨x, rfl, hq⟩) v0 v1 S o0 h)
theorem k_TD_isNode : QVf y_TD_isNode c_TD_isNode 3 (some .boolean) "TreeDiffer" 2 := ⟨m_473, m_p9, m_1, m_474, by decide +kernel⟩
theorem b_TD_isNode_0 {Λ : QLay} {G : Nat → List (Nat × Value) → List Value → QMem → Prop} {Q : Int → QMem → Prop} (hG : QAct c_TD_isNode "TreeDiffer" 3 { frames := 1, cells := 0, slots := 0, locals := 21 } Λ G) (hR : RtZ c_TD_isNode G Q) (v0 : Nat) (v1 : Int) (v2 : Int) (S : QMem) (o0 : qob Λ 9 v0) (h : w_TD_isNode Λ v0 v1 v2 S Q) : G 0 [(0, .ref v0), (1, vI v1), (2, vI v2)] [] S := by
  have hΛ := hG.lay
  unfold w_TD_isNode at h
  refine pw_iload_n (pc := 0) hG d_TD_isNode_0 rfl ?_
  refine pw_scalli (pc := 1) hG (fun l Δ => ct_TD_isTree l Δ hΛ  h) m_425 k_TD_isTree rfl ⟨by decide, by decide⟩ (Nat.le_of_ble_eq_true rfl) d_TD_isNode_1 rfl (fun r1 S1 h => ?_)
  obtain ⟨hrx4, ha4, hb4⟩ := h
  refine pw_if_eq (tgt := 30) (pc := 4) hG d_TD_isNode_4 (by decide) hrx4 (fun hc4 => ?_) (fun hc4 => ?_)
  · replace h := ha4 hc4
    refine pw_iconst (pc := 30) hG d_TD_isNode_30 ?_
    exact hR 31 _ _ _ d_TD_isNode_31 (Or.inl rfl) h
  · replace h := hb4 hc4
    refine pw_iload_n (pc := 7) hG d_TD_isNode_7 rfl ?_
    obtain ⟨hrx8, ha8, hb8⟩ := h
    refine pw_if_lt (tgt := 30) (pc := 8) hG d_TD_isNode_8 (by decide) hrx8 (fun hc8 => ?_) (fun hc8 => ?_)
    · replace h := ha8 hc8
      refine pw_iconst (pc := 30) hG d_TD_isNode_30 ?_
      exact hR 31 _ _ _ d_TD_isNode_31 (Or.inl rfl) h
    · replace h := hb8 hc8
      refine pw_iload_n (pc := 11) hG d_TD_isNode_11 rfl ?_
      refine pw_aload_n (pc := 12) hG d_TD_isNode_12 rfl ?_
      refine g9_1 (pc := 13) hG m_327 d_TD_isNode_13 o0 ?_
      refine pw_iload_n (pc := 16) hG d_TD_isNode_16 rfl ?_
      refine pw_callr (pc := 17) hG (fun l Δ => ct_Se_treeOf l Δ hΛ (q_rf hΛ o0 rfl (by decide)) h) (q_rf hΛ o0 rfl (by decide)) rfl (by decide) m_428 k_Se_treeOf rfl ⟨by decide, by decide⟩ (Nat.le_of_ble_eq_true rfl) d_TD_isNode_17 rfl (fun r17 or17 S17 h => ?_)
      refine g7_0 (pc := 20) hG m_39 d_TD_isNode_20 or17 ?_
      obtain ⟨hrx23, hry23, ha23, hb23⟩ := h
      refine pw_icmp_ge (tgt := 30) (pc := 23) hG d_TD_isNode_23 (by decide) hrx23 hry23 (fun hc23 => ?_) (fun hc23 => ?_)
      · replace h := ha23 hc23
        refine pw_iconst (pc := 30) hG d_TD_isNode_30 ?_
        exact hR 31 _ _ _ d_TD_isNode_31 (Or.inl rfl) h
      · replace h := hb23 hc23
        refine pw_iconst (pc := 26) hG d_TD_isNode_26 ?_
        refine pw_goto (tgt := 31) (pc := 27) hG d_TD_isNode_27 (by decide) ?_
        exact hR 31 _ _ _ d_TD_isNode_31 (Or.inr rfl) h
theorem ct_TD_isNode (l : Launch) (Δ : QDl) {Λ : QLay} (hΛ : LayOk Λ) {v0 : Nat} {v1 : Int} {v2 : Int} {S : QMem} {Q : Int → QMem → Prop} (o0 : qob Λ 9 v0) (h : w_TD_isNode Λ v0 v1 v2 S Q) : QCt l y_TD_isNode c_TD_isNode 3 (some .boolean) 1 21 Δ Λ [.ref v0, vI v1, vI v2] S (qI Q) :=
  QCt.mk (own := "TreeDiffer") hΛ (by decide) rfl rfl (Nat.le_of_ble_eq_true rfl) (fun G hG ri rz rv rj ra => b_TD_isNode_0 hG (fun pc lv x S d hb hq => rz pc lv x S rfl d hb ⟨x, rfl, hq⟩) v0 v1 v2 S o0 h)
theorem k_TD_node : QVf y_TD_node c_TD_node 5 (some .int) "TreeDiffer" 3 := ⟨m_468, m_469, m_1, m_470, by decide +kernel⟩
theorem b_TD_node_0 {Λ : QLay} {G : Nat → List (Nat × Value) → List Value → QMem → Prop} {Q : Int → QMem → Prop} (hG : QAct c_TD_node "TreeDiffer" 5 { frames := 2, cells := 0, slots := 0, locals := 43 } Λ G) (hR : RtI c_TD_node G Q) (v0 : Nat) (v1 : Int) (v2 : Int) (v3 : Int) (S : QMem) (o0 : qob Λ 9 v0) (h : w_TD_node Λ v0 v1 v2 v3 S Q) : G 0 [(0, .ref v0), (1, vI v1), (2, vI v2), (3, vI v3)] [] S := by
  have hΛ := hG.lay
  unfold w_TD_node at h
  refine pw_aload_n (pc := 0) hG d_TD_node_0 rfl ?_
  refine pw_iload_n (pc := 1) hG d_TD_node_1 rfl ?_
  refine pw_iload_n (pc := 2) hG d_TD_node_2 rfl ?_
  refine pw_calli (pc := 3) hG (fun l Δ => ct_TD_isNode l Δ hΛ o0 h) o0 rfl (by decide) m_471 k_TD_isNode rfl ⟨by decide, by decide⟩ (Nat.le_of_ble_eq_true rfl) d_TD_node_3 rfl (fun r3 S3 h => ?_)
  obtain ⟨hrx6, ha6, hb6⟩ := h
  refine pw_if_ne (tgt := 12) (pc := 6) hG d_TD_node_6 (by decide) hrx6 (fun hc6 => ?_) (fun hc6 => ?_)
  · replace h := ha6 hc6
    refine pw_aload_n (pc := 12) hG d_TD_node_12 rfl ?_
    refine g9_1 (pc := 13) hG m_327 d_TD_node_13 o0 ?_
    refine pw_iload_n (pc := 16) hG d_TD_node_16 rfl ?_
    refine pw_callr (pc := 17) hG (fun l Δ => ct_Se_treeOf l Δ hΛ (q_rf hΛ o0 rfl (by decide)) h) (q_rf hΛ o0 rfl (by decide)) rfl (by decide) m_428 k_Se_treeOf rfl ⟨by decide, by decide⟩ (Nat.le_of_ble_eq_true rfl) d_TD_node_17 rfl (fun r17 or17 S17 h => ?_)
    refine pw_astore (pc := 20) hG d_TD_node_20 (by decide) rfl ?_
    refine pw_iload_n (pc := 22) hG d_TD_node_22 rfl ?_
    obtain ⟨hr23, hz23_0, hz23_1, hz23_2, hz23_3, hz23_4, hz23_5, hzd23⟩ := h
    by_cases hc23_0 : v3 = 0
    · refine pw_table (tgt := 60) (pc := 23) hG d_TD_node_23 hr23 (by omega) (by omega) (off := 37) (by rw [hc23_0]; rfl) (by decide) ?_
      replace h := hz23_0 hc23_0
      refine pw_aload (pc := 60) hG d_TD_node_60 rfl ?_
      refine g7_1 (pc := 62) hG m_44 d_TD_node_62 or17 ?_
      refine pw_iload_n (pc := 65) hG d_TD_node_65 rfl ?_
      obtain ⟨hi66, h⟩ := h
      refine pw_aI (pc := 66) hG (q_arr hΛ or17 rfl (by decide)) hi66 d_TD_node_66 ?_
      exact hR 67 _ _ _ d_TD_node_67 h
    by_cases hc23_1 : v3 = 1
    · refine pw_table (tgt := 68) (pc := 23) hG d_TD_node_23 hr23 (by omega) (by omega) (off := 45) (by rw [hc23_1]; rfl) (by decide) ?_
      replace h := hz23_1 hc23_1
      refine pw_aload (pc := 68) hG d_TD_node_68 rfl ?_
      refine g7_2 (pc := 70) hG m_50 d_TD_node_70 or17 ?_
      refine pw_iload_n (pc := 73) hG d_TD_node_73 rfl ?_
      obtain ⟨hi74, h⟩ := h
      refine pw_aI (pc := 74) hG (q_arr hΛ or17 rfl (by decide)) hi74 d_TD_node_74 ?_
      exact hR 75 _ _ _ d_TD_node_75 h
    by_cases hc23_2 : v3 = 2
    · refine pw_table (tgt := 76) (pc := 23) hG d_TD_node_23 hr23 (by omega) (by omega) (off := 53) (by rw [hc23_2]; rfl) (by decide) ?_
      replace h := hz23_2 hc23_2
      refine pw_aload (pc := 76) hG d_TD_node_76 rfl ?_
      refine g7_3 (pc := 78) hG m_57 d_TD_node_78 or17 ?_
      refine pw_iload_n (pc := 81) hG d_TD_node_81 rfl ?_
      obtain ⟨hi82, h⟩ := h
      refine pw_aI (pc := 82) hG (q_arr hΛ or17 rfl (by decide)) hi82 d_TD_node_82 ?_
      exact hR 83 _ _ _ d_TD_node_83 h
    by_cases hc23_3 : v3 = 3
    · refine pw_table (tgt := 84) (pc := 23) hG d_TD_node_23 hr23 (by omega) (by omega) (off := 61) (by rw [hc23_3]; rfl) (by decide) ?_
      replace h := hz23_3 hc23_3
      refine pw_aload (pc := 84) hG d_TD_node_84 rfl ?_
      refine g7_6 (pc := 86) hG m_64 d_TD_node_86 or17 ?_
      refine pw_iload_n (pc := 89) hG d_TD_node_89 rfl ?_
      obtain ⟨hi90, h⟩ := h
      refine pw_aI (pc := 90) hG (q_arr hΛ or17 rfl (by decide)) hi90 d_TD_node_90 ?_
      exact hR 91 _ _ _ d_TD_node_91 h
    by_cases hc23_4 : v3 = 4
    · refine pw_table (tgt := 92) (pc := 23) hG d_TD_node_23 hr23 (by omega) (by omega) (off := 69) (by rw [hc23_4]; rfl) (by decide) ?_
      replace h := hz23_4 hc23_4
      refine pw_aload (pc := 92) hG d_TD_node_92 rfl ?_
      refine g7_8 (pc := 94) hG m_72 d_TD_node_94 or17 ?_
      refine pw_iload_n (pc := 97) hG d_TD_node_97 rfl ?_
      obtain ⟨hi98, h⟩ := h
      refine pw_aI (pc := 98) hG (q_arr hΛ or17 rfl (by decide)) hi98 d_TD_node_98 ?_
      exact hR 99 _ _ _ d_TD_node_99 h
    by_cases hc23_5 : v3 = 5
    · refine pw_table (tgt := 100) (pc := 23) hG d_TD_node_23 hr23 (by omega) (by omega) (off := 77) (by rw [hc23_5]; rfl) (by decide) ?_
      replace h := hz23_5 hc23_5
      refine pw_aload (pc := 100) hG d_TD_node_100 rfl ?_
      refine g7_7 (pc := 102) hG m_68 d_TD_node_102 or17 ?_
      refine pw_iload_n (pc := 105) hG d_TD_node_105 rfl ?_
      obtain ⟨hi106, h⟩ := h
      refine pw_aI (pc := 106) hG (q_arr hΛ or17 rfl (by decide)) hi106 d_TD_node_106 ?_
      exact hR 107 _ _ _ d_TD_node_107 h
    have hcd23 : v3 < 0 ∨ 5 < v3 := by omega
    refine pw_tableD (tgt := 108) (pc := 23) hG d_TD_node_23 hr23 hcd23 (by decide) ?_
    replace h := hzd23 hcd23
    refine pw_bipush (pc := 108) hG d_TD_node_108 (by decide) ?_
    exact hR 110 _ _ _ d_TD_node_110 h
  · replace h := hb6 hc6
    refine pw_bipush (pc := 9) hG d_TD_node_9 (by decide) ?_
    exact hR 11 _ _ _ d_TD_node_11 h
theorem ct_TD_node (l : Launch) (Δ : QDl) {Λ : QLay} (hΛ : LayOk Λ) {v0 : Nat} {v1 : Int} {v2 : Int} {v3 : Int} {S : QMem} {Q : Int → QMem → Prop} (o0 : qob Λ 9 v0) (h : w_TD_node Λ v0 v1 v2 v3 S Q) : QCt l y_TD_node c_TD_node 5 (some .int) 2 43 Δ Λ [.ref v0, vI v1, vI v2, vI v3] S (qI Q) :=
  QCt.mk (own := "TreeDiffer") hΛ (by decide) rfl rfl (Nat.le_of_ble_eq_true rfl) (fun G hG ri rz rv rj ra => b_TD_node_0 hG (fun pc lv x S d hq => ri pc lv x S rfl d ⟨x, rfl, hq⟩) v0 v1 v2 v3 S o0 h)
theorem k_TD_child : QVf y_TD_child c_TD_child 4 (some .int) "TreeDiffer" 3 := ⟨m_476, m_477, m_1, m_478, by decide +kernel⟩
theorem b_TD_child_0 {Λ : QLay} {G : Nat → List (Nat × Value) → List Value → QMem → Prop} {Q : Int → QMem → Prop} (hG : QAct c_TD_child "TreeDiffer" 4 { frames := 2, cells := 0, slots := 0, locals := 45 } Λ G) (hR : RtI c_TD_child G Q) (v0 : Nat) (v1 : Int) (v2 : Int) (v3 : Int) (S : QMem) (o0 : qob Λ 9 v0) (h : w_TD_child Λ v0 v1 v2 v3 S Q) : G 0 [(0, .ref v0), (1, vI v1), (2, vI v2), (3, vI v3)] [] S := by
  have hΛ := hG.lay
  unfold w_TD_child at h
  refine pw_aload_n (pc := 0) hG d_TD_child_0 rfl ?_
  refine pw_iload_n (pc := 1) hG d_TD_child_1 rfl ?_
  refine pw_iload_n (pc := 2) hG d_TD_child_2 rfl ?_
  refine pw_calli (pc := 3) hG (fun l Δ => ct_TD_isNode l Δ hΛ o0 h) o0 rfl (by decide) m_471 k_TD_isNode rfl ⟨by decide, by decide⟩ (Nat.le_of_ble_eq_true rfl) d_TD_child_3 rfl (fun r3 S3 h => ?_)
  obtain ⟨hrx6, ha6, hb6⟩ := h
  refine pw_if_ne (tgt := 12) (pc := 6) hG d_TD_child_6 (by decide) hrx6 (fun hc6 => ?_) (fun hc6 => ?_)
  · replace h := ha6 hc6
    refine pw_aload_n (pc := 12) hG d_TD_child_12 rfl ?_
    refine g9_1 (pc := 13) hG m_327 d_TD_child_13 o0 ?_
    refine pw_iload_n (pc := 16) hG d_TD_child_16 rfl ?_
    refine pw_callr (pc := 17) hG (fun l Δ => ct_Se_treeOf l Δ hΛ (q_rf hΛ o0 rfl (by decide)) h) (q_rf hΛ o0 rfl (by decide)) rfl (by decide) m_428 k_Se_treeOf rfl ⟨by decide, by decide⟩ (Nat.le_of_ble_eq_true rfl) d_TD_child_17 rfl (fun r17 or17 S17 h => ?_)
    refine pw_iload_n (pc := 20) hG d_TD_child_20 rfl ?_
    refine pw_iload_n (pc := 21) hG d_TD_child_21 rfl ?_
    refine pw_calli (pc := 22) hG (fun l Δ => ct_Tr_childAt l Δ hΛ or17 h) or17 rfl (by decide) m_479 k_Tr_childAt rfl ⟨by decide, by decide⟩ (Nat.le_of_ble_eq_true rfl) d_TD_child_22 rfl (fun r22 S22 h => ?_)
    exact hR 25 _ _ _ d_TD_child_25 h
  · replace h := hb6 hc6
    refine pw_bipush (pc := 9) hG d_TD_child_9 (by decide) ?_
    exact hR 11 _ _ _ d_TD_child_11 h
theorem ct_TD_child (l : Launch) (Δ : QDl) {Λ : QLay} (hΛ : LayOk Λ) {v0 : Nat} {v1 : Int} {v2 : Int} {v3 : Int} {S : QMem} {Q : Int → QMem → Prop} (o0 : qob Λ 9 v0) (h : w_TD_child Λ v0 v1 v2 v3 S Q) : QCt l y_TD_child c_TD_child 4 (some .int) 2 45 Δ Λ [.ref v0, vI v1, vI v2, vI v3] S (qI Q) :=
  QCt.mk (own := "TreeDiffer") hΛ (by decide) rfl rfl (Nat.le_of_ble_eq_true rfl) (fun G hG ri rz rv rj ra => b_TD_child_0 hG (fun pc lv x S d hq => ri pc lv x S rfl d ⟨x, rfl, hq⟩) v0 v1 v2 v3 S o0 h)
theorem k_TD_equal : QVf y_TD_equal c_TD_equal 3 (some .int) "TreeDiffer" 2 := ⟨m_488, m_489, m_1, m_490, by decide +kernel⟩
theorem b_TD_equal_0 {Λ : QLay} {G : Nat → List (Nat × Value) → List Value → QMem → Prop} {Q : Int → QMem → Prop} (hG : QAct c_TD_equal "TreeDiffer" 3 { frames := 2, cells := 0, slots := 0, locals := 45 } Λ G) (hR : RtI c_TD_equal G Q) (v0 : Nat) (v1 : Int) (v2 : Int) (S : QMem) (o0 : qob Λ 9 v0) (h : w_TD_equal Λ v0 v1 v2 S Q) : G 0 [(0, .ref v0), (1, vI v1), (2, vI v2)] [] S := by
  have hΛ := hG.lay
  unfold w_TD_equal at h
  refine pw_aload_n (pc := 0) hG d_TD_equal_0 rfl ?_
  refine pw_iconst (pc := 1) hG d_TD_equal_1 ?_
  refine pw_iload_n (pc := 2) hG d_TD_equal_2 rfl ?_
  refine pw_calli (pc := 3) hG (fun l Δ => ct_TD_isNode l Δ hΛ o0 h) o0 rfl (by decide) m_471 k_TD_isNode rfl ⟨by decide, by decide⟩ (Nat.le_of_ble_eq_true rfl) d_TD_equal_3 rfl (fun r3 S3 h => ?_)
  obtain ⟨hrx6, ha6, hb6⟩ := h
  refine pw_if_eq (tgt := 18) (pc := 6) hG d_TD_equal_6 (by decide) hrx6 (fun hc6 => ?_) (fun hc6 => ?_)
  · replace h := ha6 hc6
    refine pw_bipush (pc := 18) hG d_TD_equal_18 (by decide) ?_
    exact hR 20 _ _ _ d_TD_equal_20 h
  · replace h := hb6 hc6
    refine pw_aload_n (pc := 9) hG d_TD_equal_9 rfl ?_
    refine pw_iconst (pc := 10) hG d_TD_equal_10 ?_
    refine pw_iload_n (pc := 11) hG d_TD_equal_11 rfl ?_
    refine pw_calli (pc := 12) hG (fun l Δ => ct_TD_isNode l Δ hΛ o0 h) o0 rfl (by decide) m_471 k_TD_isNode rfl ⟨by decide, by decide⟩ (Nat.le_of_ble_eq_true rfl) d_TD_equal_12 rfl (fun r12 S12 h => ?_)
    obtain ⟨hrx15, ha15, hb15⟩ := h
    refine pw_if_ne (tgt := 21) (pc := 15) hG d_TD_equal_15 (by decide) hrx15 (fun hc15 => ?_) (fun hc15 => ?_)
    · replace h := ha15 hc15
      refine pw_aload_n (pc := 21) hG d_TD_equal_21 rfl ?_
      refine g9_1 (pc := 22) hG m_327 d_TD_equal_22 o0 ?_
      refine pw_iload_n (pc := 25) hG d_TD_equal_25 rfl ?_
      refine pw_iload_n (pc := 26) hG d_TD_equal_26 rfl ?_
      refine pw_calli (pc := 27) hG (fun l Δ => ct_Se_areEqual l Δ hΛ (q_rf hΛ o0 rfl (by decide)) h) (q_rf hΛ o0 rfl (by decide)) rfl (by decide) m_491 k_Se_areEqual rfl ⟨by decide, by decide⟩ (Nat.le_of_ble_eq_true rfl) d_TD_equal_27 rfl (fun r27 S27 h => ?_)
      obtain ⟨hrx30, ha30, hb30⟩ := h
      refine pw_if_eq (tgt := 37) (pc := 30) hG d_TD_equal_30 (by decide) hrx30 (fun hc30 => ?_) (fun hc30 => ?_)
      · replace h := ha30 hc30
        refine pw_iconst (pc := 37) hG d_TD_equal_37 ?_
        exact hR 38 _ _ _ d_TD_equal_38 h
      · replace h := hb30 hc30
        refine pw_iconst (pc := 33) hG d_TD_equal_33 ?_
        refine pw_goto (tgt := 38) (pc := 34) hG d_TD_equal_34 (by decide) ?_
        exact hR 38 _ _ _ d_TD_equal_38 h
    · replace h := hb15 hc15
      refine pw_bipush (pc := 18) hG d_TD_equal_18 (by decide) ?_
      exact hR 20 _ _ _ d_TD_equal_20 h
theorem ct_TD_equal (l : Launch) (Δ : QDl) {Λ : QLay} (hΛ : LayOk Λ) {v0 : Nat} {v1 : Int} {v2 : Int} {S : QMem} {Q : Int → QMem → Prop} (o0 : qob Λ 9 v0) (h : w_TD_equal Λ v0 v1 v2 S Q) : QCt l y_TD_equal c_TD_equal 3 (some .int) 2 45 Δ Λ [.ref v0, vI v1, vI v2] S (qI Q) :=
  QCt.mk (own := "TreeDiffer") hΛ (by decide) rfl rfl (Nat.le_of_ble_eq_true rfl) (fun G hG ri rz rv rj ra => b_TD_equal_0 hG (fun pc lv x S d hq => ri pc lv x S rfl d ⟨x, rfl, hq⟩) v0 v1 v2 S o0 h)
theorem k_TD_setMatching : QVf y_TD_setMatching c_TD_setMatching 4 (some .int) "TreeDiffer" 2 := ⟨m_500, m_501, m_1, m_502, by decide +kernel⟩
theorem b_TD_setMatching_0 {Λ : QLay} {G : Nat → List (Nat × Value) → List Value → QMem → Prop} {Q : Int → QMem → Prop} (hG : QAct c_TD_setMatching "TreeDiffer" 4 { frames := 3, cells := 0, slots := 0, locals := 62 } Λ G) (hR : RtI c_TD_setMatching G Q) (v0 : Nat) (v1 : Int) (v2 : Int) (S : QMem) (o0 : qob Λ 9 v0) (h : w_TD_setMatching Λ v0 v1 v2 S Q) : G 0 [(0, .ref v0), (1, vI v1), (2, vI v2)] [] S := by
  have hΛ := hG.lay
  unfold w_TD_setMatching at h
  refine pw_iload_n (pc := 0) hG d_TD_setMatching_0 rfl ?_
  refine pw_iconst (pc := 1) hG d_TD_setMatching_1 ?_
  obtain ⟨hrx2, ha2, hb2⟩ := h
  refine pw_icmp_lt (tgt := 21) (pc := 2) hG d_TD_setMatching_2 (by decide) hrx2 (q_lit rfl) (fun hc2 => ?_) (fun hc2 => ?_)
  · replace h := ha2 hc2
    refine pw_bipush (pc := 21) hG d_TD_setMatching_21 (by decide) ?_
    exact hR 23 _ _ _ d_TD_setMatching_23 h
  · replace h := hb2 hc2
    refine pw_iload_n (pc := 5) hG d_TD_setMatching_5 rfl ?_
    refine pw_bipush (pc := 6) hG d_TD_setMatching_6 (by decide) ?_
    obtain ⟨hrx8, ha8, hb8⟩ := h
    refine pw_icmp_gt (tgt := 21) (pc := 8) hG d_TD_setMatching_8 (by decide) hrx8 (q_lit rfl) (fun hc8 => ?_) (fun hc8 => ?_)
    · replace h := ha8 hc8
      refine pw_bipush (pc := 21) hG d_TD_setMatching_21 (by decide) ?_
      exact hR 23 _ _ _ d_TD_setMatching_23 h
    · replace h := hb8 hc8
      refine pw_iload_n (pc := 11) hG d_TD_setMatching_11 rfl ?_
      obtain ⟨hrx12, ha12, hb12⟩ := h
      refine pw_if_lt (tgt := 21) (pc := 12) hG d_TD_setMatching_12 (by decide) hrx12 (fun hc12 => ?_) (fun hc12 => ?_)
      · replace h := ha12 hc12
        refine pw_bipush (pc := 21) hG d_TD_setMatching_21 (by decide) ?_
        exact hR 23 _ _ _ d_TD_setMatching_23 h
      · replace h := hb12 hc12
        refine pw_iload_n (pc := 15) hG d_TD_setMatching_15 rfl ?_
        refine pw_bipush (pc := 16) hG d_TD_setMatching_16 (by decide) ?_
        obtain ⟨hrx18, ha18, hb18⟩ := h
        refine pw_icmp_le (tgt := 24) (pc := 18) hG d_TD_setMatching_18 (by decide) hrx18 (q_lit rfl) (fun hc18 => ?_) (fun hc18 => ?_)
        · replace h := ha18 hc18
          refine pw_sipush (pc := 24) hG d_TD_setMatching_24 (by decide) ?_
          refine pw_aload_n (pc := 27) hG d_TD_setMatching_27 rfl ?_
          refine g9_1 (pc := 28) hG m_327 d_TD_setMatching_28 o0 ?_
          refine g4_2 (pc := 31) hG m_140 d_TD_setMatching_31 (q_rf hΛ o0 rfl (by decide)) ?_
          refine pw_imul (pc := 34) hG d_TD_setMatching_34 ?_
          refine pw_aload_n (pc := 35) hG d_TD_setMatching_35 rfl ?_
          refine g9_1 (pc := 36) hG m_327 d_TD_setMatching_36 o0 ?_
          refine g4_3 (pc := 39) hG m_143 d_TD_setMatching_39 (q_rf hΛ o0 rfl (by decide)) ?_
          refine pw_iadd (pc := 42) hG d_TD_setMatching_42 ?_
          refine pw_istore_n (pc := 43) hG d_TD_setMatching_43 (by decide) (fun x43 ex43 => ⟨_, rfl, ?_⟩)
          replace h := h x43 ex43
          refine pw_aload_n (pc := 44) hG d_TD_setMatching_44 rfl ?_
          refine g9_1 (pc := 45) hG m_327 d_TD_setMatching_45 o0 ?_
          refine pw_iload_n (pc := 48) hG d_TD_setMatching_48 rfl ?_
          refine p4_2 (pc := 49) hG m_140 d_TD_setMatching_49 (q_rf hΛ o0 rfl (by decide)) (fun S49 eS49 => ?_)
          replace h := h S49 eS49
          refine pw_aload_n (pc := 52) hG d_TD_setMatching_52 rfl ?_
          refine g9_1 (pc := 53) hG m_327 d_TD_setMatching_53 o0 ?_
          refine pw_iload_n (pc := 56) hG d_TD_setMatching_56 rfl ?_
          refine p4_3 (pc := 57) hG m_143 d_TD_setMatching_57 (q_rf hΛ o0 rfl (by decide)) (fun S57 eS57 => ?_)
          replace h := h S57 eS57
          refine pw_aload_n (pc := 60) hG d_TD_setMatching_60 rfl ?_
          refine pw_callv (pc := 61) hG (fun l Δ => ct_TD_forgetAnswers l Δ hΛ o0 h) o0 rfl (by decide) m_447 k_TD_forgetAnswers rfl ⟨by decide, by decide⟩ (Nat.le_of_ble_eq_true rfl) d_TD_setMatching_61 rfl (fun S61 h => ?_)
          refine pw_iload_n (pc := 64) hG d_TD_setMatching_64 rfl ?_
          exact hR 65 _ _ _ d_TD_setMatching_65 h
        · replace h := hb18 hc18
          refine pw_bipush (pc := 21) hG d_TD_setMatching_21 (by decide) ?_
          exact hR 23 _ _ _ d_TD_setMatching_23 h
theorem ct_TD_setMatching (l : Launch) (Δ : QDl) {Λ : QLay} (hΛ : LayOk Λ) {v0 : Nat} {v1 : Int} {v2 : Int} {S : QMem} {Q : Int → QMem → Prop} (o0 : qob Λ 9 v0) (h : w_TD_setMatching Λ v0 v1 v2 S Q) : QCt l y_TD_setMatching c_TD_setMatching 4 (some .int) 3 62 Δ Λ [.ref v0, vI v1, vI v2] S (qI Q) :=
  QCt.mk (own := "TreeDiffer") hΛ (by decide) rfl rfl (Nat.le_of_ble_eq_true rfl) (fun G hG ri rz rv rj ra => b_TD_setMatching_0 hG (fun pc lv x S d hq => ri pc lv x S rfl d ⟨x, rfl, hq⟩) v0 v1 v2 S o0 h)
theorem k_TD_compare : QVf y_TD_compare c_TD_compare 1 none "TreeDiffer" 0 := ⟨m_509, m_p10, m_1, m_510, by decide +kernel⟩
theorem b_TD_compare_0 {Λ : QLay} {G : Nat → List (Nat × Value) → List Value → QMem → Prop} {Q : QMem → Prop} (hG : QAct c_TD_compare "TreeDiffer" 1 { frames := 6, cells := 0, slots := 0, locals := 141 } Λ G) (hR : RtV c_TD_compare G Q) (v0 : Nat) (S : QMem) (o0 : qob Λ 9 v0) (h : w_TD_compare Λ v0 S Q) : G 0 [(0, .ref v0)] [] S := by
  have hΛ := hG.lay
  unfold w_TD_compare at h
  refine pw_aload_n (pc := 0) hG d_TD_compare_0 rfl ?_
  refine g9_11 (pc := 1) hG m_337 d_TD_compare_1 o0 ?_
  obtain ⟨hrx4, ha4, hb4⟩ := h
  refine pw_if_ne (tgt := 38) (pc := 4) hG d_TD_compare_4 (by decide) hrx4 (fun hc4 => ?_) (fun hc4 => ?_)
  · replace h := ha4 hc4
    exact hR 38 _ _ d_TD_compare_38 h
  · replace h := hb4 hc4
    refine pw_aload_n (pc := 7) hG d_TD_compare_7 rfl ?_
    refine g9_4 (pc := 8) hG m_330 d_TD_compare_8 o0 ?_
    refine pw_aload_n (pc := 11) hG d_TD_compare_11 rfl ?_
    refine g9_1 (pc := 12) hG m_327 d_TD_compare_12 o0 ?_
    refine pw_callv (pc := 15) hG (fun l Δ => ct_Ma_find l Δ hΛ (q_rf hΛ o0 rfl (by decide)) (q_rf hΛ o0 rfl (by decide)) h) (q_rf hΛ o0 rfl (by decide)) rfl (by decide) m_511 k_Ma_find rfl ⟨by decide, by decide⟩ (Nat.le_of_ble_eq_true rfl) d_TD_compare_15 rfl (fun S15 h => ?_)
    refine pw_aload_n (pc := 18) hG d_TD_compare_18 rfl ?_
    refine g9_5 (pc := 19) hG m_331 d_TD_compare_19 o0 ?_
    refine pw_aload_n (pc := 22) hG d_TD_compare_22 rfl ?_
    refine g9_1 (pc := 23) hG m_327 d_TD_compare_23 o0 ?_
    refine pw_aload_n (pc := 26) hG d_TD_compare_26 rfl ?_
    refine g9_4 (pc := 27) hG m_330 d_TD_compare_27 o0 ?_
    refine pw_callv (pc := 30) hG (fun l Δ => ct_Sc_make l Δ hΛ (q_rf hΛ o0 rfl (by decide)) (q_rf hΛ o0 rfl (by decide)) (q_rf hΛ o0 rfl (by decide)) h) (q_rf hΛ o0 rfl (by decide)) rfl (by decide) m_563 k_Sc_make rfl ⟨by decide, by decide⟩ (Nat.le_of_ble_eq_true rfl) d_TD_compare_30 rfl (fun S30 h => ?_)
    refine pw_aload_n (pc := 33) hG d_TD_compare_33 rfl ?_
    refine pw_iconst (pc := 34) hG d_TD_compare_34 ?_
    refine p9_11 (pc := 35) hG m_337 d_TD_compare_35 o0 (Or.inr rfl) (fun S35 eS35 => ?_)
    replace h := h S35 eS35
    exact hR 38 _ _ d_TD_compare_38 h
theorem ct_TD_compare (l : Launch) (Δ : QDl) {Λ : QLay} (hΛ : LayOk Λ) {v0 : Nat} {S : QMem} {Q : QMem → Prop} (o0 : qob Λ 9 v0) (h : w_TD_compare Λ v0 S Q) : QCt l y_TD_compare c_TD_compare 1 none 6 141 Δ Λ [.ref v0] S (qV Q) :=
  QCt.mk (own := "TreeDiffer") hΛ (by decide) rfl rfl (Nat.le_of_ble_eq_true rfl) (fun G hG ri rz rv rj ra => b_TD_compare_0 hG (fun pc lv S d hq => rv pc lv S rfl d ⟨rfl, hq⟩) v0 S o0 h)
theorem k_TD_pairs : QVf y_TD_pairs c_TD_pairs 1 (some .int) "TreeDiffer" 0 := ⟨m_504, m_505, m_1, m_506, by decide +kernel⟩
theorem b_TD_pairs_0 {Λ : QLay} {G : Nat → List (Nat × Value) → List Value → QMem → Prop} {Q : Int → QMem → Prop} (hG : QAct c_TD_pairs "TreeDiffer" 1 { frames := 7, cells := 0, slots := 0, locals := 161 } Λ G) (hR : RtI c_TD_pairs G Q) (v0 : Nat) (S : QMem) (o0 : qob Λ 9 v0) (h : w_TD_pairs Λ v0 S Q) : G 0 [(0, .ref v0)] [] S := by
  have hΛ := hG.lay
  unfold w_TD_pairs at h
  refine pw_aload_n (pc := 0) hG d_TD_pairs_0 rfl ?_
  refine pw_callv (pc := 1) hG (fun l Δ => ct_TD_compare l Δ hΛ o0 h) o0 rfl (by decide) m_507 k_TD_compare rfl ⟨by decide, by decide⟩ (Nat.le_of_ble_eq_true rfl) d_TD_pairs_1 rfl (fun S1 h => ?_)
  refine pw_aload_n (pc := 4) hG d_TD_pairs_4 rfl ?_
  refine g9_4 (pc := 5) hG m_330 d_TD_pairs_5 o0 ?_
  refine g1_0 (pc := 8) hG m_161 d_TD_pairs_8 (q_rf hΛ o0 rfl (by decide)) ?_
  exact hR 11 _ _ _ d_TD_pairs_11 h
theorem ct_TD_pairs (l : Launch) (Δ : QDl) {Λ : QLay} (hΛ : LayOk Λ) {v0 : Nat} {S : QMem} {Q : Int → QMem → Prop} (o0 : qob Λ 9 v0) (h : w_TD_pairs Λ v0 S Q) : QCt l y_TD_pairs c_TD_pairs 1 (some .int) 7 161 Δ Λ [.ref v0] S (qI Q) :=
  QCt.mk (own := "TreeDiffer") hΛ (by decide) rfl rfl (Nat.le_of_ble_eq_true rfl) (fun G hG ri rz rv rj ra => b_TD_pairs_0 hG (fun pc lv x S d hq => ri pc lv x S rfl d ⟨x, rfl, hq⟩) v0 S o0 h)
theorem k_TD_orNone : QSf y_TD_orNone c_TD_orNone 1 (some .int) "TreeDiffer" 1 := ⟨m_653, m_1, m_654, by decide +kernel⟩
theorem b_TD_orNone_0 {Λ : QLay} {G : Nat → List (Nat × Value) → List Value → QMem → Prop} {Q : Int → QMem → Prop} (hG : QAct c_TD_orNone "TreeDiffer" 1 { frames := 0, cells := 0, slots := 0, locals := 0 } Λ G) (hR : RtI c_TD_orNone G Q) (v0 : Int) (S : QMem) (h : w_TD_orNone Λ v0 S Q) : G 0 [(0, vI v0)] [] S := by
  have hΛ := hG.lay
  unfold w_TD_orNone at h
  refine pw_iload_n (pc := 0) hG d_TD_orNone_0 rfl ?_
  refine pw_iconst (pc := 1) hG d_TD_orNone_1 ?_
  obtain ⟨hrx2, ha2, hb2⟩ := h
  refine pw_icmp_ne (tgt := 10) (pc := 2) hG d_TD_orNone_2 (by decide) hrx2 (q_lit rfl) (fun hc2 => ?_) (fun hc2 => ?_)
  · replace h := ha2 hc2
    refine pw_iload_n (pc := 10) hG d_TD_orNone_10 rfl ?_
    exact hR 11 _ _ _ d_TD_orNone_11 h
  · replace h := hb2 hc2
    refine pw_bipush (pc := 5) hG d_TD_orNone_5 (by decide) ?_
    refine pw_goto (tgt := 11) (pc := 7) hG d_TD_orNone_7 (by decide) ?_
    exact hR 11 _ _ _ d_TD_orNone_11 h
theorem ct_TD_orNone (l : Launch) (Δ : QDl) {Λ : QLay} (hΛ : LayOk Λ) {v0 : Int} {S : QMem} {Q : Int → QMem → Prop} (h : w_TD_orNone Λ v0 S Q) : QCt l y_TD_orNone c_TD_orNone 1 (some .int) 0 0 Δ Λ [vI v0] S (qI Q) :=
  QCt.mk (own := "TreeDiffer") hΛ (by decide) rfl rfl (Nat.le_of_ble_eq_true rfl) (fun G hG ri rz rv rj ra => b_TD_orNone_0 hG (fun pc lv x S d hq => ri pc lv x S rfl d ⟨x, rfl, hq⟩) v0 S  h)
theorem k_TD_partner : QVf y_TD_partner c_TD_partner 3 (some .int) "TreeDiffer" 2 := ⟨m_649, m_650, m_1, m_651, by decide +kernel⟩
theorem b_TD_partner_41 {Λ : QLay} {G : Nat → List (Nat × Value) → List Value → QMem → Prop} {Q : Int → QMem → Prop} (hG : QAct c_TD_partner "TreeDiffer" 3 { frames := 7, cells := 0, slots := 0, locals := 161 } Λ G) (hR : RtI c_TD_partner G Q) (s0 : Int) (S : QMem) (h : w_TD_partner_41 Λ Q s0 S) : G 41 [] [vI s0] S := by
  have hΛ := hG.lay
  unfold w_TD_partner_41 at h
  refine pw_scalli (pc := 41) hG (fun l Δ => ct_TD_orNone l Δ hΛ  h) m_652 k_TD_orNone rfl ⟨by decide, by decide⟩ (Nat.le_of_ble_eq_true rfl) d_TD_partner_41 rfl (fun r41 S41 h => ?_)
  exact hR 44 _ _ _ d_TD_partner_44 h
theorem b_TD_partner_0 {Λ : QLay} {G : Nat → List (Nat × Value) → List Value → QMem → Prop} {Q : Int → QMem → Prop} (hG : QAct c_TD_partner "TreeDiffer" 3 { frames := 7, cells := 0, slots := 0, locals := 161 } Λ G) (hR : RtI c_TD_partner G Q) (v0 : Nat) (v1 : Int) (v2 : Int) (S : QMem) (o0 : qob Λ 9 v0) (h : w_TD_partner Λ v0 v1 v2 S Q) : G 0 [(0, .ref v0), (1, vI v1), (2, vI v2)] [] S := by
  have hΛ := hG.lay
  unfold w_TD_partner at h
  refine pw_aload_n (pc := 0) hG d_TD_partner_0 rfl ?_
  refine pw_iload_n (pc := 1) hG d_TD_partner_1 rfl ?_
  refine pw_iload_n (pc := 2) hG d_TD_partner_2 rfl ?_
  refine pw_calli (pc := 3) hG (fun l Δ => ct_TD_isNode l Δ hΛ o0 h) o0 rfl (by decide) m_471 k_TD_isNode rfl ⟨by decide, by decide⟩ (Nat.le_of_ble_eq_true rfl) d_TD_partner_3 rfl (fun r3 S3 h => ?_)
  obtain ⟨hrx6, ha6, hb6⟩ := h
  refine pw_if_ne (tgt := 12) (pc := 6) hG d_TD_partner_6 (by decide) hrx6 (fun hc6 => ?_) (fun hc6 => ?_)
  · replace h := ha6 hc6
    refine pw_aload_n (pc := 12) hG d_TD_partner_12 rfl ?_
    refine pw_callv (pc := 13) hG (fun l Δ => ct_TD_compare l Δ hΛ o0 h) o0 rfl (by decide) m_507 k_TD_compare rfl ⟨by decide, by decide⟩ (Nat.le_of_ble_eq_true rfl) d_TD_partner_13 rfl (fun S13 h => ?_)
    refine pw_iload_n (pc := 16) hG d_TD_partner_16 rfl ?_
    obtain ⟨hrx17, ha17, hb17⟩ := h
    refine pw_if_ne (tgt := 32) (pc := 17) hG d_TD_partner_17 (by decide) hrx17 (fun hc17 => ?_) (fun hc17 => ?_)
    · replace h := ha17 hc17
      refine pw_aload_n (pc := 32) hG d_TD_partner_32 rfl ?_
      refine g9_4 (pc := 33) hG m_330 d_TD_partner_33 o0 ?_
      refine g1_2 (pc := 36) hG m_167 d_TD_partner_36 (q_rf hΛ o0 rfl (by decide)) ?_
      refine pw_iload_n (pc := 39) hG d_TD_partner_39 rfl ?_
      obtain ⟨hi40, h⟩ := h
      refine pw_aI (pc := 40) hG (q_arr hΛ (q_rf hΛ o0 rfl (by decide)) rfl (by decide)) hi40 d_TD_partner_40 ?_
      exact pw_sub hG [] rfl (b_TD_partner_41 hG hR (S13.1 (yR Λ v0 4 0) 2 v2) S13  h)
    · replace h := hb17 hc17
      refine pw_aload_n (pc := 20) hG d_TD_partner_20 rfl ?_
      refine g9_4 (pc := 21) hG m_330 d_TD_partner_21 o0 ?_
      refine g1_1 (pc := 24) hG m_163 d_TD_partner_24 (q_rf hΛ o0 rfl (by decide)) ?_
      refine pw_iload_n (pc := 27) hG d_TD_partner_27 rfl ?_
      obtain ⟨hi28, h⟩ := h
      refine pw_aI (pc := 28) hG (q_arr hΛ (q_rf hΛ o0 rfl (by decide)) rfl (by decide)) hi28 d_TD_partner_28 ?_
      refine pw_goto (tgt := 41) (pc := 29) hG d_TD_partner_29 (by decide) ?_
      exact pw_sub hG [] rfl (b_TD_partner_41 hG hR (S13.1 (yR Λ v0 4 0) 1 v2) S13  h)
  · replace h := hb6 hc6
    refine pw_bipush (pc := 9) hG d_TD_partner_9 (by decide) ?_
    exact hR 11 _ _ _ d_TD_partner_11 h
theorem ct_TD_partner (l : Launch) (Δ : QDl) {Λ : QLay} (hΛ : LayOk Λ) {v0 : Nat} {v1 : Int} {v2 : Int} {S : QMem} {Q : Int → QMem → Prop} (o0 : qob Λ 9 v0) (h : w_TD_partner Λ v0 v1 v2 S Q) : QCt l y_TD_partner c_TD_partner 3 (some .int) 7 161 Δ Λ [.ref v0, vI v1, vI v2] S (qI Q) :=
  QCt.mk (own := "TreeDiffer") hΛ (by decide) rfl rfl (Nat.le_of_ble_eq_true rfl) (fun G hG ri rz rv rj ra => b_TD_partner_0 hG (fun pc lv x S d hq => ri pc lv x S rfl d ⟨x, rfl, hq⟩) v0 v1 v2 S o0 h)
theorem k_TD_phase : QVf y_TD_phase c_TD_phase 2 (some .int) "TreeDiffer" 1 := ⟨m_656, m_657, m_1, m_658, by decide +kernel⟩
theorem b_TD_phase_0 {Λ : QLay} {G : Nat → List (Nat × Value) → List Value → QMem → Prop} {Q : Int → QMem → Prop} (hG : QAct c_TD_phase "TreeDiffer" 2 { frames := 7, cells := 0, slots := 0, locals := 161 } Λ G) (hR : RtI c_TD_phase G Q) (v0 : Nat) (v1 : Int) (S : QMem) (o0 : qob Λ 9 v0) (h : w_TD_phase Λ v0 v1 S Q) : G 0 [(0, .ref v0), (1, vI v1)] [] S := by
  have hΛ := hG.lay
  unfold w_TD_phase at h
  refine pw_aload_n (pc := 0) hG d_TD_phase_0 rfl ?_
  refine pw_iconst (pc := 1) hG d_TD_phase_1 ?_
  refine pw_iload_n (pc := 2) hG d_TD_phase_2 rfl ?_
  refine pw_calli (pc := 3) hG (fun l Δ => ct_TD_isNode l Δ hΛ o0 h) o0 rfl (by decide) m_471 k_TD_isNode rfl ⟨by decide, by decide⟩ (Nat.le_of_ble_eq_true rfl) d_TD_phase_3 rfl (fun r3 S3 h => ?_)
  obtain ⟨hrx6, ha6, hb6⟩ := h
  refine pw_if_ne (tgt := 12) (pc := 6) hG d_TD_phase_6 (by decide) hrx6 (fun hc6 => ?_) (fun hc6 => ?_)
  · replace h := ha6 hc6
    refine pw_aload_n (pc := 12) hG d_TD_phase_12 rfl ?_
    refine pw_callv (pc := 13) hG (fun l Δ => ct_TD_compare l Δ hΛ o0 h) o0 rfl (by decide) m_507 k_TD_compare rfl ⟨by decide, by decide⟩ (Nat.le_of_ble_eq_true rfl) d_TD_phase_13 rfl (fun S13 h => ?_)
    refine pw_aload_n (pc := 16) hG d_TD_phase_16 rfl ?_
    refine g9_4 (pc := 17) hG m_330 d_TD_phase_17 o0 ?_
    refine g1_3 (pc := 20) hG m_169 d_TD_phase_20 (q_rf hΛ o0 rfl (by decide)) ?_
    refine pw_iload_n (pc := 23) hG d_TD_phase_23 rfl ?_
    obtain ⟨hi24, h⟩ := h
    refine pw_aI (pc := 24) hG (q_arr hΛ (q_rf hΛ o0 rfl (by decide)) rfl (by decide)) hi24 d_TD_phase_24 ?_
    refine pw_scalli (pc := 25) hG (fun l Δ => ct_TD_orNone l Δ hΛ  h) m_652 k_TD_orNone rfl ⟨by decide, by decide⟩ (Nat.le_of_ble_eq_true rfl) d_TD_phase_25 rfl (fun r25 S25 h => ?_)
    exact hR 28 _ _ _ d_TD_phase_28 h
  · replace h := hb6 hc6
    refine pw_bipush (pc := 9) hG d_TD_phase_9 (by decide) ?_
    exact hR 11 _ _ _ d_TD_phase_11 h
theorem ct_TD_phase (l : Launch) (Δ : QDl) {Λ : QLay} (hΛ : LayOk Λ) {v0 : Nat} {v1 : Int} {S : QMem} {Q : Int → QMem → Prop} (o0 : qob Λ 9 v0) (h : w_TD_phase Λ v0 v1 S Q) : QCt l y_TD_phase c_TD_phase 2 (some .int) 7 161 Δ Λ [.ref v0, vI v1] S (qI Q) :=
  QCt.mk (own := "TreeDiffer") hΛ (by decide) rfl rfl (Nat.le_of_ble_eq_true rfl) (fun G hG ri rz rv rj ra => b_TD_phase_0 hG (fun pc lv x S d hq => ri pc lv x S rfl d ⟨x, rfl, hq⟩) v0 v1 S o0 h)
