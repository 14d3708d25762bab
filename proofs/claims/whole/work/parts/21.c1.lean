theorem k_Ma_pairRoots : QVf y_Ma_pairRoots c_Ma_pairRoots 3 none "TreeDiffer$Matching" 1 := ⟨m_561, m_p17, m_5, m_562, by decide +kernel⟩
theorem b_Ma_pairRoots_25 {Λ : QLay} {G : Nat → List (Nat × Value) → List Value → QMem → Prop} {Q : QMem → Prop} (hG : QAct c_Ma_pairRoots "TreeDiffer$Matching" 3 { frames := 1, cells := 0, slots := 0, locals := 23 } Λ G) (hR : RtV c_Ma_pairRoots G Q) (v0 : Nat) (v1 : Nat) (s0 : Int) (S : QMem) (o_v0 : qob Λ 1 v0) (o_v1 : qob Λ 4 v1) (h : w_Ma_pairRoots_25 Λ Q v0 v1 s0 S) : G 25 [(0, .ref v0), (1, .ref v1)] [vI s0] S := by
  have hΛ := hG.lay
  unfold w_Ma_pairRoots_25 at h
  refine pw_ist_n (pc := 25) hG d_Ma_pairRoots_25 (by decide) rfl ?_
  refine pw_iload_n (pc := 26) hG d_Ma_pairRoots_26 rfl ?_
  obtain ⟨hrx27, ha27, hb27⟩ := h
  refine pw_if_eq (tgt := 46) (pc := 27) hG d_Ma_pairRoots_27 (by decide) hrx27 (fun hc27 => ?_) (fun hc27 => ?_)
  · replace h := ha27 hc27
    exact hR 46 _ _ d_Ma_pairRoots_46 h
  · replace h := hb27 hc27
    refine pw_aload_n (pc := 30) hG d_Ma_pairRoots_30 rfl ?_
    refine pw_iconst (pc := 31) hG d_Ma_pairRoots_31 ?_
    refine pw_iconst (pc := 32) hG d_Ma_pairRoots_32 ?_
    refine pw_calli (pc := 33) hG (fun l Δ => ct_Se_haveSameLabel l Δ hΛ o_v1 h) o_v1 rfl (by decide) m_550 k_Se_haveSameLabel rfl ⟨by decide, by decide⟩ (Nat.le_of_ble_eq_true rfl) d_Ma_pairRoots_33 rfl (fun r33 S33 h => ?_)
    obtain ⟨hrx36, ha36, hb36⟩ := h
    refine pw_if_eq (tgt := 46) (pc := 36) hG d_Ma_pairRoots_36 (by decide) hrx36 (fun hc36 => ?_) (fun hc36 => ?_)
    · replace h := ha36 hc36
      exact hR 46 _ _ d_Ma_pairRoots_46 h
    · replace h := hb36 hc36
      refine pw_aload_n (pc := 39) hG d_Ma_pairRoots_39 rfl ?_
      refine pw_iconst (pc := 40) hG d_Ma_pairRoots_40 ?_
      refine pw_iconst (pc := 41) hG d_Ma_pairRoots_41 ?_
      refine pw_iconst (pc := 42) hG d_Ma_pairRoots_42 ?_
      refine pw_callv (pc := 43) hG (fun l Δ => ct_Ma_pair l Δ hΛ o_v0 h) o_v0 rfl (by decide) m_538 k_Ma_pair rfl ⟨by decide, by decide⟩ (Nat.le_of_ble_eq_true rfl) d_Ma_pairRoots_43 rfl (fun S43 h => ?_)
      exact hR 46 _ _ d_Ma_pairRoots_46 h
theorem b_Ma_pairRoots_24 {Λ : QLay} {G : Nat → List (Nat × Value) → List Value → QMem → Prop} {Q : QMem → Prop} (hG : QAct c_Ma_pairRoots "TreeDiffer$Matching" 3 { frames := 1, cells := 0, slots := 0, locals := 23 } Λ G) (hR : RtV c_Ma_pairRoots G Q) (v0 : Nat) (v1 : Nat) (S : QMem) (o_v0 : qob Λ 1 v0) (o_v1 : qob Λ 4 v1) (h : w_Ma_pairRoots_24 Λ Q v0 v1 S) : G 24 [(0, .ref v0), (1, .ref v1)] [] S := by
  have hΛ := hG.lay
  unfold w_Ma_pairRoots_24 at h
  refine pw_iconst (pc := 24) hG d_Ma_pairRoots_24 ?_
  exact pw_sub hG [0, 1] rfl (b_Ma_pairRoots_25 hG hR v0 v1 0 S o_v0 o_v1 h)
theorem b_Ma_pairRoots_0 {Λ : QLay} {G : Nat → List (Nat × Value) → List Value → QMem → Prop} {Q : QMem → Prop} (hG : QAct c_Ma_pairRoots "TreeDiffer$Matching" 3 { frames := 1, cells := 0, slots := 0, locals := 23 } Λ G) (hR : RtV c_Ma_pairRoots G Q) (v0 : Nat) (v1 : Nat) (S : QMem) (o0 : qob Λ 1 v0) (o1 : qob Λ 4 v1) (h : w_Ma_pairRoots Λ v0 v1 S Q) : G 0 [(0, .ref v0), (1, .ref v1)] [] S := by
  have hΛ := hG.lay
  unfold w_Ma_pairRoots at h
  refine pw_aload_n (pc := 0) hG d_Ma_pairRoots_0 rfl ?_
  refine g1_1 (pc := 1) hG m_162 d_Ma_pairRoots_1 o0 ?_
  refine pw_iconst (pc := 4) hG d_Ma_pairRoots_4 ?_
  refine pw_aI (pc := 5) hG (q_arr hΛ o0 rfl (by decide)) (by decide) d_Ma_pairRoots_5 ?_
  refine pw_iconst (pc := 6) hG d_Ma_pairRoots_6 ?_
  obtain ⟨hrx7, ha7, hb7⟩ := h
  refine pw_icmp_ne (tgt := 24) (pc := 7) hG d_Ma_pairRoots_7 (by decide) hrx7 (q_lit rfl) (fun hc7 => ?_) (fun hc7 => ?_)
  · replace h := ha7 hc7
    exact pw_sub hG [0, 1] rfl (b_Ma_pairRoots_24 hG hR v0 v1 S o0 o1 h)
  · replace h := hb7 hc7
    refine pw_aload_n (pc := 10) hG d_Ma_pairRoots_10 rfl ?_
    refine g1_2 (pc := 11) hG m_165 d_Ma_pairRoots_11 o0 ?_
    refine pw_iconst (pc := 14) hG d_Ma_pairRoots_14 ?_
    refine pw_aI (pc := 15) hG (q_arr hΛ o0 rfl (by decide)) (by decide) d_Ma_pairRoots_15 ?_
    refine pw_iconst (pc := 16) hG d_Ma_pairRoots_16 ?_
    obtain ⟨hrx17, ha17, hb17⟩ := h
    refine pw_icmp_ne (tgt := 24) (pc := 17) hG d_Ma_pairRoots_17 (by decide) hrx17 (q_lit rfl) (fun hc17 => ?_) (fun hc17 => ?_)
    · replace h := ha17 hc17
      exact pw_sub hG [0, 1] rfl (b_Ma_pairRoots_24 hG hR v0 v1 S o0 o1 h)
    · replace h := hb17 hc17
      refine pw_iconst (pc := 20) hG d_Ma_pairRoots_20 ?_
      refine pw_goto (tgt := 25) (pc := 21) hG d_Ma_pairRoots_21 (by decide) ?_
      exact pw_sub hG [0, 1] rfl (b_Ma_pairRoots_25 hG hR v0 v1 1 S o0 o1 h)
theorem ct_Ma_pairRoots (l : Launch) (Δ : QDl) {Λ : QLay} (hΛ : LayOk Λ) {v0 : Nat} {v1 : Nat} {S : QMem} {Q : QMem → Prop} (o0 : qob Λ 1 v0) (o1 : qob Λ 4 v1) (h : w_Ma_pairRoots Λ v0 v1 S Q) : QCt l y_Ma_pairRoots c_Ma_pairRoots 3 none 1 23 Δ Λ [.ref v0, .ref v1] S (qV Q) :=
  QCt.mk (own := "TreeDiffer$Matching") hΛ (by decide) rfl rfl (Nat.le_of_ble_eq_true rfl) (fun G hG ri rz rv rj ra => b_Ma_pairRoots_0 hG (fun pc lv S d hq => rv pc lv S rfl d ⟨rfl, hq⟩) v0 v1 S o0 o1 h)
theorem k_Ma_find : QVf y_Ma_find c_Ma_find 3 none "TreeDiffer$Matching" 1 := ⟨m_512, m_513, m_5, m_514, by decide +kernel⟩
theorem b_Ma_find_7 {Λ : QLay} {G : Nat → List (Nat × Value) → List Value → QMem → Prop} {Q : QMem → Prop} (hG : QAct c_Ma_find "TreeDiffer$Matching" 3 { frames := 4, cells := 0, slots := 0, locals := 102 } Λ G) (hR : RtV c_Ma_find G Q) : ∀ (n : Nat) (v0 : Nat) (v1 : Nat) (v2 : Int) (S : QMem), qob Λ 1 v0 → qob Λ 4 v1 → w_Ma_find_7 Λ Q n v0 v1 v2 S → G 7 [(0, .ref v0), (1, .ref v1), (2, vI v2)] [] S := by
  have hΛ := hG.lay
  intro n
  induction n with
  | zero => intro v0 v1 v2 S o_v0 o_v1 h; exact h.elim
  | succ n ih =>
    intro v0 v1 v2 S o_v0 o_v1 h
    rw [w_Ma_find_7] at h
    refine pw_iload_n (pc := 7) hG d_Ma_find_7 rfl ?_
    refine pw_bipush (pc := 8) hG d_Ma_find_8 (by decide) ?_
    obtain ⟨hrx10, ha10, hb10⟩ := h
    refine pw_icmp_ge (tgt := 40) (pc := 10) hG d_Ma_find_10 (by decide) hrx10 (q_lit rfl) (fun hc10 => ?_) (fun hc10 => ?_)
    · replace h := ha10 hc10
      refine pw_aload_n (pc := 40) hG d_Ma_find_40 rfl ?_
      refine pw_aload_n (pc := 41) hG d_Ma_find_41 rfl ?_
      refine pw_callv (pc := 42) hG (fun l Δ => ct_Ma_pairEqualSubtrees l Δ hΛ o_v0 o_v1 h) o_v0 rfl (by decide) m_515 k_Ma_pairEqualSubtrees rfl ⟨by decide, by decide⟩ (Nat.le_of_ble_eq_true rfl) d_Ma_find_42 rfl (fun S42 h => ?_)
      refine pw_aload_n (pc := 45) hG d_Ma_find_45 rfl ?_
      refine pw_aload_n (pc := 46) hG d_Ma_find_46 rfl ?_
      refine pw_callv (pc := 47) hG (fun l Δ => ct_Ma_pairByDescendants l Δ hΛ o_v0 o_v1 h) o_v0 rfl (by decide) m_542 k_Ma_pairByDescendants rfl ⟨by decide, by decide⟩ (Nat.le_of_ble_eq_true rfl) d_Ma_find_47 rfl (fun S47 h => ?_)
      refine pw_aload_n (pc := 50) hG d_Ma_find_50 rfl ?_
      refine pw_aload_n (pc := 51) hG d_Ma_find_51 rfl ?_
      refine pw_callv (pc := 52) hG (fun l Δ => ct_Ma_pairRoots l Δ hΛ o_v0 o_v1 h) o_v0 rfl (by decide) m_559 k_Ma_pairRoots rfl ⟨by decide, by decide⟩ (Nat.le_of_ble_eq_true rfl) d_Ma_find_52 rfl (fun S52 h => ?_)
      exact hR 55 _ _ d_Ma_find_55 h
    · replace h := hb10 hc10
      refine pw_aload_n (pc := 13) hG d_Ma_find_13 rfl ?_
      refine g1_1 (pc := 14) hG m_162 d_Ma_find_14 o_v0 ?_
      refine pw_iload_n (pc := 17) hG d_Ma_find_17 rfl ?_
      refine pw_iconst (pc := 18) hG d_Ma_find_18 ?_
      obtain ⟨hi19, h⟩ := h
      refine pw_sI (pc := 19) hG (q_arr hΛ o_v0 rfl (by decide)) hi19 d_Ma_find_19 (fun S19 eS19 => ?_)
      replace h := h S19 eS19
      refine pw_aload_n (pc := 20) hG d_Ma_find_20 rfl ?_
      refine g1_2 (pc := 21) hG m_165 d_Ma_find_21 o_v0 ?_
      refine pw_iload_n (pc := 24) hG d_Ma_find_24 rfl ?_
      refine pw_iconst (pc := 25) hG d_Ma_find_25 ?_
      obtain ⟨hi26, h⟩ := h
      refine pw_sI (pc := 26) hG (q_arr hΛ o_v0 rfl (by decide)) hi26 d_Ma_find_26 (fun S26 eS26 => ?_)
      replace h := h S26 eS26
      refine pw_aload_n (pc := 27) hG d_Ma_find_27 rfl ?_
      refine g1_3 (pc := 28) hG m_168 d_Ma_find_28 o_v0 ?_
      refine pw_iload_n (pc := 31) hG d_Ma_find_31 rfl ?_
      refine pw_iconst (pc := 32) hG d_Ma_find_32 ?_
      obtain ⟨hi33, h⟩ := h
      refine pw_sI (pc := 33) hG (q_arr hΛ o_v0 rfl (by decide)) hi33 d_Ma_find_33 (fun S33 eS33 => ?_)
      replace h := h S33 eS33
      refine pw_iinc0 (pc := 34) hG d_Ma_find_34 rfl (by decide) rfl ?_
      refine pw_goto (tgt := 7) (pc := 37) hG d_Ma_find_37 (by decide) ?_
      exact pw_sub hG [0, 1, 2] rfl (ih v0 v1 (v2 + 1) S33 o_v0 o_v1 h)
theorem b_Ma_find_0 {Λ : QLay} {G : Nat → List (Nat × Value) → List Value → QMem → Prop} {Q : QMem → Prop} (hG : QAct c_Ma_find "TreeDiffer$Matching" 3 { frames := 4, cells := 0, slots := 0, locals := 102 } Λ G) (hR : RtV c_Ma_find G Q) (v0 : Nat) (v1 : Nat) (S : QMem) (o0 : qob Λ 1 v0) (o1 : qob Λ 4 v1) (h : w_Ma_find Λ v0 v1 S Q) : G 0 [(0, .ref v0), (1, .ref v1)] [] S := by
  have hΛ := hG.lay
  unfold w_Ma_find at h
  refine pw_aload_n (pc := 0) hG d_Ma_find_0 rfl ?_
  refine pw_iconst (pc := 1) hG d_Ma_find_1 ?_
  refine p1_0 (pc := 2) hG m_160 d_Ma_find_2 o0 (fun S2 eS2 => ?_)
  replace h := h S2 eS2
  refine pw_iconst (pc := 5) hG d_Ma_find_5 ?_
  refine pw_ist_n (pc := 6) hG d_Ma_find_6 (by decide) rfl ?_
  obtain ⟨n6, h⟩ := h
  exact pw_sub hG [0, 1, 2] rfl (b_Ma_find_7 hG hR n6 v0 v1 0 S2 o0 o1 h)
theorem ct_Ma_find (l : Launch) (Δ : QDl) {Λ : QLay} (hΛ : LayOk Λ) {v0 : Nat} {v1 : Nat} {S : QMem} {Q : QMem → Prop} (o0 : qob Λ 1 v0) (o1 : qob Λ 4 v1) (h : w_Ma_find Λ v0 v1 S Q) : QCt l y_Ma_find c_Ma_find 3 none 4 102 Δ Λ [.ref v0, .ref v1] S (qV Q) :=
  QCt.mk (own := "TreeDiffer$Matching") hΛ (by decide) rfl rfl (Nat.le_of_ble_eq_true rfl) (fun G hG ri rz rv rj ra => b_Ma_find_0 hG (fun pc lv S d hq => rv pc lv S rfl d ⟨rfl, hq⟩) v0 v1 S o0 o1 h)
theorem k_Wt_childAt : QVf y_Wt_childAt c_Wt_childAt 4 (some .int) "TreeDiffer$WorkTree" 2 := ⟨m_728, m_729, m_7, m_730, by decide +kernel⟩
theorem b_Wt_childAt_2 {Λ : QLay} {G : Nat → List (Nat × Value) → List Value → QMem → Prop} {Q : Int → QMem → Prop} (hG : QAct c_Wt_childAt "TreeDiffer$WorkTree" 4 { frames := 0, cells := 0, slots := 0, locals := 0 } Λ G) (hR : RtI c_Wt_childAt G Q) : ∀ (n : Nat) (v0 : Nat) (v1 : Int) (v2 : Int) (v3 : Int) (S : QMem), qob Λ 8 v0 → w_Wt_childAt_2 Λ Q n v0 v1 v2 v3 S → G 2 [(0, .ref v0), (1, vI v1), (2, vI v2), (3, vI v3)] [] S := by
  have hΛ := hG.lay
  intro n
  induction n with
  | zero => intro v0 v1 v2 v3 S o_v0 h; exact h.elim
  | succ n ih =>
    intro v0 v1 v2 v3 S o_v0 h
    rw [w_Wt_childAt_2] at h
    refine pw_iload_n (pc := 2) hG d_Wt_childAt_2 rfl ?_
    refine pw_bipush (pc := 3) hG d_Wt_childAt_3 (by decide) ?_
    obtain ⟨hrx5, ha5, hb5⟩ := h
    refine pw_icmp_ge (tgt := 36) (pc := 5) hG d_Wt_childAt_5 (by decide) hrx5 (q_lit rfl) (fun hc5 => ?_) (fun hc5 => ?_)
    · replace h := ha5 hc5
      refine pw_iconst (pc := 36) hG d_Wt_childAt_36 ?_
      exact hR 37 _ _ _ d_Wt_childAt_37 h
    · replace h := hb5 hc5
      refine pw_aload_n (pc := 8) hG d_Wt_childAt_8 rfl ?_
      refine g8_2 (pc := 9) hG m_201 d_Wt_childAt_9 o_v0 ?_
      refine pw_iload_n (pc := 12) hG d_Wt_childAt_12 rfl ?_
      obtain ⟨hi13, h⟩ := h
      refine pw_aI (pc := 13) hG (q_arr hΛ o_v0 rfl (by decide)) hi13 d_Wt_childAt_13 ?_
      refine pw_iload_n (pc := 14) hG d_Wt_childAt_14 rfl ?_
      obtain ⟨hrx15, hry15, ha15, hb15⟩ := h
      refine pw_icmp_ne (tgt := 30) (pc := 15) hG d_Wt_childAt_15 (by decide) hrx15 hry15 (fun hc15 => ?_) (fun hc15 => ?_)
      · replace h := ha15 hc15
        refine pw_iinc0 (pc := 30) hG d_Wt_childAt_30 rfl (by decide) rfl ?_
        refine pw_goto (tgt := 2) (pc := 33) hG d_Wt_childAt_33 (by decide) ?_
        exact pw_sub hG [0, 1, 2, 3] rfl (ih v0 v1 v2 (v3 + 1) S o_v0 h)
      · replace h := hb15 hc15
        refine pw_aload_n (pc := 18) hG d_Wt_childAt_18 rfl ?_
        refine g8_3 (pc := 19) hG m_205 d_Wt_childAt_19 o_v0 ?_
        refine pw_iload_n (pc := 22) hG d_Wt_childAt_22 rfl ?_
        obtain ⟨hi23, h⟩ := h
        refine pw_aI (pc := 23) hG (q_arr hΛ o_v0 rfl (by decide)) hi23 d_Wt_childAt_23 ?_
        refine pw_iload_n (pc := 24) hG d_Wt_childAt_24 rfl ?_
        obtain ⟨hrx25, hry25, ha25, hb25⟩ := h
        refine pw_icmp_ne (tgt := 30) (pc := 25) hG d_Wt_childAt_25 (by decide) hrx25 hry25 (fun hc25 => ?_) (fun hc25 => ?_)
        · replace h := ha25 hc25
          refine pw_iinc0 (pc := 30) hG d_Wt_childAt_30 rfl (by decide) rfl ?_
          refine pw_goto (tgt := 2) (pc := 33) hG d_Wt_childAt_33 (by decide) ?_
          exact pw_sub hG [0, 1, 2, 3] rfl (ih v0 v1 v2 (v3 + 1) S o_v0 h)
        · replace h := hb25 hc25
          refine pw_iload_n (pc := 28) hG d_Wt_childAt_28 rfl ?_
          exact hR 29 _ _ _ d_Wt_childAt_29 h
theorem b_Wt_childAt_0 {Λ : QLay} {G : Nat → List (Nat × Value) → List Value → QMem → Prop} {Q : Int → QMem → Prop} (hG : QAct c_Wt_childAt "TreeDiffer$WorkTree" 4 { frames := 0, cells := 0, slots := 0, locals := 0 } Λ G) (hR : RtI c_Wt_childAt G Q) (v0 : Nat) (v1 : Int) (v2 : Int) (S : QMem) (o0 : qob Λ 8 v0) (h : w_Wt_childAt Λ v0 v1 v2 S Q) : G 0 [(0, .ref v0), (1, vI v1), (2, vI v2)] [] S := by
  have hΛ := hG.lay
  unfold w_Wt_childAt at h
  refine pw_iconst (pc := 0) hG d_Wt_childAt_0 ?_
  refine pw_ist_n (pc := 1) hG d_Wt_childAt_1 (by decide) rfl ?_
  obtain ⟨n1, h⟩ := h
  exact pw_sub hG [0, 1, 2, 3] rfl (b_Wt_childAt_2 hG hR n1 v0 v1 v2 0 S o0 h)
theorem ct_Wt_childAt (l : Launch) (Δ : QDl) {Λ : QLay} (hΛ : LayOk Λ) {v0 : Nat} {v1 : Int} {v2 : Int} {S : QMem} {Q : Int → QMem → Prop} (o0 : qob Λ 8 v0) (h : w_Wt_childAt Λ v0 v1 v2 S Q) : QCt l y_Wt_childAt c_Wt_childAt 4 (some .int) 0 0 Δ Λ [.ref v0, vI v1, vI v2] S (qI Q) :=
  QCt.mk (own := "TreeDiffer$WorkTree") hΛ (by decide) rfl rfl (Nat.le_of_ble_eq_true rfl) (fun G hG ri rz rv rj ra => b_Wt_childAt_0 hG (fun pc lv x S d hq => ri pc lv x S rfl d ⟨x, rfl, hq⟩) v0 v1 v2 S o0 h)
theorem k_Ou_put : QVf y_Ou_put c_Ou_put 2 none "TreeDiffer$Output" 1 := ⟨m_751, m_p34, m_10, m_752, by decide +kernel⟩
theorem b_Ou_put_0 {Λ : QLay} {G : Nat → List (Nat × Value) → List Value → QMem → Prop} {Q : QMem → Prop} (hG : QAct c_Ou_put "TreeDiffer$Output" 2 { frames := 0, cells := 0, slots := 0, locals := 0 } Λ G) (hR : RtV c_Ou_put G Q) (v0 : Nat) (v1 : Int) (S : QMem) (o0 : qob Λ 2 v0) (h : w_Ou_put Λ v0 v1 S Q) : G 0 [(0, .ref v0), (1, vI v1)] [] S := by
  have hΛ := hG.lay
  unfold w_Ou_put at h
  refine pw_aload_n (pc := 0) hG d_Ou_put_0 rfl ?_
  refine g2_1 (pc := 1) hG m_315 d_Ou_put_1 o0 ?_
  refine pw_sipush (pc := 4) hG d_Ou_put_4 (by decide) ?_
  obtain ⟨hrx7, ha7, hb7⟩ := h
  refine pw_icmp_ge (tgt := 30) (pc := 7) hG d_Ou_put_7 (by decide) hrx7 (q_lit rfl) (fun hc7 => ?_) (fun hc7 => ?_)
  · replace h := ha7 hc7
    exact hR 30 _ _ d_Ou_put_30 h
  · replace h := hb7 hc7
    refine pw_aload_n (pc := 10) hG d_Ou_put_10 rfl ?_
    refine g2_0 (pc := 11) hG m_313 d_Ou_put_11 o0 ?_
    refine pw_aload_n (pc := 14) hG d_Ou_put_14 rfl ?_
    refine g2_1 (pc := 15) hG m_315 d_Ou_put_15 o0 ?_
    refine pw_iload_n (pc := 18) hG d_Ou_put_18 rfl ?_
    obtain ⟨hi19, h⟩ := h
    refine pw_sI (pc := 19) hG (q_arr hΛ o0 rfl (by decide)) hi19 d_Ou_put_19 (fun S19 eS19 => ?_)
    replace h := h S19 eS19
    refine pw_aload_n (pc := 20) hG d_Ou_put_20 rfl ?_
    refine pw_dup (pc := 21) hG d_Ou_put_21 rfl ?_
    refine g2_1 (pc := 22) hG m_315 d_Ou_put_22 o0 ?_
    refine pw_iconst (pc := 25) hG d_Ou_put_25 ?_
    refine pw_iadd (pc := 26) hG d_Ou_put_26 ?_
    refine p2_1 (pc := 27) hG m_315 d_Ou_put_27 o0 (fun S27 eS27 => ?_)
    replace h := h S27 eS27
    exact hR 30 _ _ d_Ou_put_30 h
theorem ct_Ou_put (l : Launch) (Δ : QDl) {Λ : QLay} (hΛ : LayOk Λ) {v0 : Nat} {v1 : Int} {S : QMem} {Q : QMem → Prop} (o0 : qob Λ 2 v0) (h : w_Ou_put Λ v0 v1 S Q) : QCt l y_Ou_put c_Ou_put 2 none 0 0 Δ Λ [.ref v0, vI v1] S (qV Q) :=
  QCt.mk (own := "TreeDiffer$Output") hΛ (by decide) rfl rfl (Nat.le_of_ble_eq_true rfl) (fun G hG ri rz rv rj ra => b_Ou_put_0 hG (fun pc lv S d hq => rv pc lv S rfl d ⟨rfl, hq⟩) v0 v1 S o0 h)
theorem k_Ou_putContent : QVf y_Ou_putContent c_Ou_putContent 3 none "TreeDiffer$Output" 2 := ⟨m_747, m_p33, m_10, m_748, by decide +kernel⟩
theorem b_Ou_putContent_25 {Λ : QLay} {G : Nat → List (Nat × Value) → List Value → QMem → Prop} {Q : QMem → Prop} (hG : QAct c_Ou_putContent "TreeDiffer$Output" 3 { frames := 1, cells := 0, slots := 0, locals := 21 } Λ G) (hR : RtV c_Ou_putContent G Q) (v0 : Nat) (v2 : Int) (S : QMem) (o_v0 : qob Λ 2 v0) (h : w_Ou_putContent_25 Λ Q v0 v2 S) : G 25 [(0, .ref v0), (2, vI v2)] [] S := by
  have hΛ := hG.lay
  unfold w_Ou_putContent_25 at h
  refine pw_iload_n (pc := 25) hG d_Ou_putContent_25 rfl ?_
  obtain ⟨hrx26, ha26, hb26⟩ := h
  refine pw_if_le (tgt := 40) (pc := 26) hG d_Ou_putContent_26 (by decide) hrx26 (fun hc26 => ?_) (fun hc26 => ?_)
  · replace h := ha26 hc26
    exact hR 40 _ _ d_Ou_putContent_40 h
  · replace h := hb26 hc26
    refine pw_aload_n (pc := 29) hG d_Ou_putContent_29 rfl ?_
    refine pw_bipush (pc := 30) hG d_Ou_putContent_30 (by decide) ?_
    refine pw_iload_n (pc := 32) hG d_Ou_putContent_32 rfl ?_
    refine pw_bipush (pc := 33) hG d_Ou_putContent_33 (by decide) ?_
    obtain ⟨hx35, h⟩ := h
    refine pw_irem (pc := 35) hG d_Ou_putContent_35 hx35 ⟨by decide, q_lit rfl⟩ ?_
    refine pw_iadd (pc := 36) hG d_Ou_putContent_36 ?_
    refine pw_callv (pc := 37) hG (fun l Δ => ct_Ou_put l Δ hΛ o_v0 h) o_v0 rfl (by decide) m_749 k_Ou_put rfl ⟨by decide, by decide⟩ (Nat.le_of_ble_eq_true rfl) d_Ou_putContent_37 rfl (fun S37 h => ?_)
    exact hR 40 _ _ d_Ou_putContent_40 h
theorem b_Ou_putContent_0 {Λ : QLay} {G : Nat → List (Nat × Value) → List Value → QMem → Prop} {Q : QMem → Prop} (hG : QAct c_Ou_putContent "TreeDiffer$Output" 3 { frames := 1, cells := 0, slots := 0, locals := 21 } Λ G) (hR : RtV c_Ou_putContent G Q) (v0 : Nat) (v1 : Int) (v2 : Int) (S : QMem) (o0 : qob Λ 2 v0) (h : w_Ou_putContent Λ v0 v1 v2 S Q) : G 0 [(0, .ref v0), (1, vI v1), (2, vI v2)] [] S := by
  have hΛ := hG.lay
  unfold w_Ou_putContent at h
  refine pw_aload_n (pc := 0) hG d_Ou_putContent_0 rfl ?_
  refine pw_bipush (pc := 1) hG d_Ou_putContent_1 (by decide) ?_
  refine pw_iload_n (pc := 3) hG d_Ou_putContent_3 rfl ?_
  refine pw_iadd (pc := 4) hG d_Ou_putContent_4 ?_
  refine pw_callv (pc := 5) hG (fun l Δ => ct_Ou_put l Δ hΛ o0 h) o0 rfl (by decide) m_749 k_Ou_put rfl ⟨by decide, by decide⟩ (Nat.le_of_ble_eq_true rfl) d_Ou_putContent_5 rfl (fun S5 h => ?_)
  refine pw_iload_n (pc := 8) hG d_Ou_putContent_8 rfl ?_
  refine pw_bipush (pc := 9) hG d_Ou_putContent_9 (by decide) ?_
  obtain ⟨hrx11, ha11, hb11⟩ := h
  refine pw_icmp_lt (tgt := 25) (pc := 11) hG d_Ou_putContent_11 (by decide) hrx11 (q_lit rfl) (fun hc11 => ?_) (fun hc11 => ?_)
  · replace h := ha11 hc11
    exact pw_sub hG [0, 2] rfl (b_Ou_putContent_25 hG hR v0 v2 S5 o0 h)
  · replace h := hb11 hc11
    refine pw_aload_n (pc := 14) hG d_Ou_putContent_14 rfl ?_
    refine pw_bipush (pc := 15) hG d_Ou_putContent_15 (by decide) ?_
    refine pw_iload_n (pc := 17) hG d_Ou_putContent_17 rfl ?_
    refine pw_bipush (pc := 18) hG d_Ou_putContent_18 (by decide) ?_
    obtain ⟨hx20, h⟩ := h
    refine pw_idiv (pc := 20) hG d_Ou_putContent_20 hx20 ⟨by decide, q_lit rfl⟩ ?_
    refine pw_iadd (pc := 21) hG d_Ou_putContent_21 ?_
    refine pw_callv (pc := 22) hG (fun l Δ => ct_Ou_put l Δ hΛ o0 h) o0 rfl (by decide) m_749 k_Ou_put rfl ⟨by decide, by decide⟩ (Nat.le_of_ble_eq_true rfl) d_Ou_putContent_22 rfl (fun S22 h => ?_)
    exact pw_sub hG [0, 2] rfl (b_Ou_putContent_25 hG hR v0 v2 S22 o0 h)
theorem ct_Ou_putContent (l : Launch) (Δ : QDl) {Λ : QLay} (hΛ : LayOk Λ) {v0 : Nat} {v1 : Int} {v2 : Int} {S : QMem} {Q : QMem → Prop} (o0 : qob Λ 2 v0) (h : w_Ou_putContent Λ v0 v1 v2 S Q) : QCt l y_Ou_putContent c_Ou_putContent 3 none 1 21 Δ Λ [.ref v0, vI v1, vI v2] S (qV Q) :=
  QCt.mk (own := "TreeDiffer$Output") hΛ (by decide) rfl rfl (Nat.le_of_ble_eq_true rfl) (fun G hG ri rz rv rj ra => b_Ou_putContent_0 hG (fun pc lv S d hq => rv pc lv S rfl d ⟨rfl, hq⟩) v0 v1 v2 S o0 h)
theorem k_Wt_has : QVf y_Wt_has c_Wt_has 2 (some .boolean) "TreeDiffer$WorkTree" 1 := ⟨m_612, m_613, m_7, m_614, by decide +kernel⟩
theorem b_Wt_has_0 {Λ : QLay} {G : Nat → List (Nat × Value) → List Value → QMem → Prop} {Q : Int → QMem → Prop} (hG : QAct c_Wt_has "TreeDiffer$WorkTree" 2 { frames := 0, cells := 0, slots := 0, locals := 0 } Λ G) (hR : RtZ c_Wt_has G Q) (v0 : Nat) (v1 : Int) (S : QMem) (o0 : qob Λ 8 v0) (h : w_Wt_has Λ v0 v1 S Q) : G 0 [(0, .ref v0), (1, vI v1)] [] S := by
  have hΛ := hG.lay
  unfold w_Wt_has at h
  refine pw_iload_n (pc := 0) hG d_Wt_has_0 rfl ?_
  obtain ⟨hrx1, ha1, hb1⟩ := h
  refine pw_if_lt (tgt := 24) (pc := 1) hG d_Wt_has_1 (by decide) hrx1 (fun hc1 => ?_) (fun hc1 => ?_)
  · replace h := ha1 hc1
    refine pw_iconst (pc := 24) hG d_Wt_has_24 ?_
    exact hR 25 _ _ _ d_Wt_has_25 (Or.inl rfl) h
  · replace h := hb1 hc1
    refine pw_iload_n (pc := 4) hG d_Wt_has_4 rfl ?_
    refine pw_bipush (pc := 5) hG d_Wt_has_5 (by decide) ?_
    obtain ⟨hrx7, ha7, hb7⟩ := h
    refine pw_icmp_ge (tgt := 24) (pc := 7) hG d_Wt_has_7 (by decide) hrx7 (q_lit rfl) (fun hc7 => ?_) (fun hc7 => ?_)
    · replace h := ha7 hc7
      refine pw_iconst (pc := 24) hG d_Wt_has_24 ?_
      exact hR 25 _ _ _ d_Wt_has_25 (Or.inl rfl) h
    · replace h := hb7 hc7
      refine pw_aload_n (pc := 10) hG d_Wt_has_10 rfl ?_
      refine g8_2 (pc := 11) hG m_201 d_Wt_has_11 o0 ?_
      refine pw_iload_n (pc := 14) hG d_Wt_has_14 rfl ?_
      obtain ⟨hi15, h⟩ := h
      refine pw_aI (pc := 15) hG (q_arr hΛ o0 rfl (by decide)) hi15 d_Wt_has_15 ?_
      refine pw_iconst (pc := 16) hG d_Wt_has_16 ?_
      obtain ⟨hrx17, ha17, hb17⟩ := h
      refine pw_icmp_eq (tgt := 24) (pc := 17) hG d_Wt_has_17 (by decide) hrx17 (q_lit rfl) (fun hc17 => ?_) (fun hc17 => ?_)
      · replace h := ha17 hc17
        refine pw_iconst (pc := 24) hG d_Wt_has_24 ?_
        exact hR 25 _ _ _ d_Wt_has_25 (Or.inl rfl) h
      · replace h := hb17 hc17
        refine pw_iconst (pc := 20) hG d_Wt_has_20 ?_
        refine pw_goto (tgt := 25) (pc := 21) hG d_Wt_has_21 (by decide) ?_
        exact hR 25 _ _ _ d_Wt_has_25 (Or.inr rfl) h
theorem ct_Wt_has (l : Launch) (Δ : QDl) {Λ : QLay} (hΛ : LayOk Λ) {v0 : Nat} {v1 : Int} {S : QMem} {Q : Int → QMem → Prop} (o0 : qob Λ 8 v0) (h : w_Wt_has Λ v0 v1 S Q) : QCt l y_Wt_has c_Wt_has 2 (some .boolean) 0 0 Δ Λ [.ref v0, vI v1] S (qI Q) :=
  QCt.mk (own := "TreeDiffer$WorkTree") hΛ (by decide) rfl rfl (Nat.le_of_ble_eq_true rfl) (fun G hG ri rz rv rj ra => b_Wt_has_0 hG (fun pc lv x S d hb hq => rz pc lv x S rfl d hb ⟨x, rfl, hq⟩) v0 v1 S o0 h)
theorem k_Ou_closeUpToNext : QVf y_Ou_closeUpToNext c_Ou_closeUpToNext 6 (some .int) "TreeDiffer$Output" 2 := ⟨m_755, m_p35, m_10, m_756, by decide +kernel⟩
theorem b_Ou_closeUpToNext_5 {Λ : QLay} {G : Nat → List (Nat × Value) → List Value → QMem → Prop} {Q : Int → QMem → Prop} (hG : QAct c_Ou_closeUpToNext "TreeDiffer$Output" 6 { frames := 1, cells := 0, slots := 0, locals := 23 } Λ G) (hR : RtI c_Ou_closeUpToNext G Q) : ∀ (n : Nat) (v0 : Nat) (v1 : Nat) (v3 : Int) (v4 : Int) (S : QMem), qob Λ 2 v0 → qob Λ 8 v1 → w_Ou_closeUpToNext_5 Λ Q n v0 v1 v3 v4 S → G 5 [(0, .ref v0), (1, .ref v1), (3, vI v3), (4, vI v4)] [] S := by
  have hΛ := hG.lay
  intro n
  induction n with
  | zero => intro v0 v1 v3 v4 S o_v0 o_v1 h; exact h.elim
  | succ n ih =>
    intro v0 v1 v3 v4 S o_v0 o_v1 h
    rw [w_Ou_closeUpToNext_5] at h
    refine pw_iload (pc := 5) hG d_Ou_closeUpToNext_5 rfl ?_
    refine pw_bipush (pc := 7) hG d_Ou_closeUpToNext_7 (by decide) ?_
    obtain ⟨hrx9, ha9, hb9⟩ := h
    refine pw_icmp_ge (tgt := 80) (pc := 9) hG d_Ou_closeUpToNext_9 (by decide) hrx9 (q_lit rfl) (fun hc9 => ?_) (fun hc9 => ?_)
    · replace h := ha9 hc9
      refine pw_iconst (pc := 80) hG d_Ou_closeUpToNext_80 ?_
      exact hR 81 _ _ _ d_Ou_closeUpToNext_81 h
    · replace h := hb9 hc9
      refine pw_aload_n (pc := 12) hG d_Ou_closeUpToNext_12 rfl ?_
      refine pw_iload_n (pc := 13) hG d_Ou_closeUpToNext_13 rfl ?_
      refine pw_calli (pc := 14) hG (fun l Δ => ct_Wt_has l Δ hΛ o_v1 h) o_v1 rfl (by decide) m_757 k_Wt_has rfl ⟨by decide, by decide⟩ (Nat.le_of_ble_eq_true rfl) d_Ou_closeUpToNext_14 rfl (fun r14 S14 h => ?_)
      obtain ⟨hrx17, ha17, hb17⟩ := h
      refine pw_if_eq (tgt := 80) (pc := 17) hG d_Ou_closeUpToNext_17 (by decide) hrx17 (fun hc17 => ?_) (fun hc17 => ?_)
      · replace h := ha17 hc17
        refine pw_iconst (pc := 80) hG d_Ou_closeUpToNext_80 ?_
        exact hR 81 _ _ _ d_Ou_closeUpToNext_81 h
      · replace h := hb17 hc17
        refine pw_aload_n (pc := 20) hG d_Ou_closeUpToNext_20 rfl ?_
        refine pw_aload_n (pc := 21) hG d_Ou_closeUpToNext_21 rfl ?_
        refine g8_2 (pc := 22) hG m_202 d_Ou_closeUpToNext_22 o_v1 ?_
        refine pw_iload_n (pc := 25) hG d_Ou_closeUpToNext_25 rfl ?_
        obtain ⟨hi26, h⟩ := h
        refine pw_aI (pc := 26) hG (q_arr hΛ o_v1 rfl (by decide)) hi26 d_Ou_closeUpToNext_26 ?_
        refine pw_aload_n (pc := 27) hG d_Ou_closeUpToNext_27 rfl ?_
        refine g8_3 (pc := 28) hG m_206 d_Ou_closeUpToNext_28 o_v1 ?_
        refine pw_iload_n (pc := 31) hG d_Ou_closeUpToNext_31 rfl ?_
        obtain ⟨hi32, h⟩ := h
        refine pw_aI (pc := 32) hG (q_arr hΛ o_v1 rfl (by decide)) hi32 d_Ou_closeUpToNext_32 ?_
        refine pw_iconst (pc := 33) hG d_Ou_closeUpToNext_33 ?_
        refine pw_iadd (pc := 34) hG d_Ou_closeUpToNext_34 ?_
        refine pw_calli (pc := 35) hG (fun l Δ => ct_Wt_childAt l Δ hΛ o_v1 h) o_v1 rfl (by decide) m_744 k_Wt_childAt rfl ⟨by decide, by decide⟩ (Nat.le_of_ble_eq_true rfl) d_Ou_closeUpToNext_35 rfl (fun r35 S35 h => ?_)
        refine pw_ist (pc := 38) hG d_Ou_closeUpToNext_38 (by decide) rfl ?_
        refine pw_iload (pc := 40) hG d_Ou_closeUpToNext_40 rfl ?_
        refine pw_iconst (pc := 42) hG d_Ou_closeUpToNext_42 ?_
        obtain ⟨hrx43, ha43, hb43⟩ := h
        refine pw_icmp_eq (tgt := 55) (pc := 43) hG d_Ou_closeUpToNext_43 (by decide) hrx43 (q_lit rfl) (fun hc43 => ?_) (fun hc43 => ?_)
        · replace h := ha43 hc43
          refine pw_aload_n (pc := 55) hG d_Ou_closeUpToNext_55 rfl ?_
          refine g8_2 (pc := 56) hG m_202 d_Ou_closeUpToNext_56 o_v1 ?_
          refine pw_iload_n (pc := 59) hG d_Ou_closeUpToNext_59 rfl ?_
          obtain ⟨hi60, h⟩ := h
          refine pw_aI (pc := 60) hG (q_arr hΛ o_v1 rfl (by decide)) hi60 d_Ou_closeUpToNext_60 ?_
          refine pw_istore_n (pc := 61) hG d_Ou_closeUpToNext_61 (by decide) (fun x61 ex61 => ⟨_, rfl, ?_⟩)
          replace h := h x61 ex61
          refine pw_iload_n (pc := 62) hG d_Ou_closeUpToNext_62 rfl ?_
          refine pw_bipush (pc := 63) hG d_Ou_closeUpToNext_63 (by decide) ?_
          obtain ⟨hrx65, ha65, hb65⟩ := h
          refine pw_icmp_eq (tgt := 74) (pc := 65) hG d_Ou_closeUpToNext_65 (by decide) hrx65 (q_lit rfl) (fun hc65 => ?_) (fun hc65 => ?_)
          · replace h := ha65 hc65
            refine pw_iinc0 (pc := 74) hG d_Ou_closeUpToNext_74 rfl (by decide) rfl ?_
            refine pw_goto (tgt := 5) (pc := 77) hG d_Ou_closeUpToNext_77 (by decide) ?_
            exact pw_sub hG [0, 1, 3, 4] rfl (ih v0 v1 x61 (v4 + 1) S35 o_v0 o_v1 h)
          · replace h := hb65 hc65
            refine pw_aload_n (pc := 68) hG d_Ou_closeUpToNext_68 rfl ?_
            refine pw_bipush (pc := 69) hG d_Ou_closeUpToNext_69 (by decide) ?_
            refine pw_callv (pc := 71) hG (fun l Δ => ct_Ou_put l Δ hΛ o_v0 h) o_v0 rfl (by decide) m_749 k_Ou_put rfl ⟨by decide, by decide⟩ (Nat.le_of_ble_eq_true rfl) d_Ou_closeUpToNext_71 rfl (fun S71 h => ?_)
            refine pw_iinc0 (pc := 74) hG d_Ou_closeUpToNext_74 rfl (by decide) rfl ?_
            refine pw_goto (tgt := 5) (pc := 77) hG d_Ou_closeUpToNext_77 (by decide) ?_
            exact pw_sub hG [0, 1, 3, 4] rfl (ih v0 v1 x61 (v4 + 1) S71 o_v0 o_v1 h)
        · replace h := hb43 hc43
          refine pw_aload_n (pc := 46) hG d_Ou_closeUpToNext_46 rfl ?_
          refine pw_bipush (pc := 47) hG d_Ou_closeUpToNext_47 (by decide) ?_
          refine pw_callv (pc := 49) hG (fun l Δ => ct_Ou_put l Δ hΛ o_v0 h) o_v0 rfl (by decide) m_749 k_Ou_put rfl ⟨by decide, by decide⟩ (Nat.le_of_ble_eq_true rfl) d_Ou_closeUpToNext_49 rfl (fun S49 h => ?_)
          refine pw_iload (pc := 52) hG d_Ou_closeUpToNext_52 rfl ?_
          exact hR 54 _ _ _ d_Ou_closeUpToNext_54 h
theorem b_Ou_closeUpToNext_0 {Λ : QLay} {G : Nat → List (Nat × Value) → List Value → QMem → Prop} {Q : Int → QMem → Prop} (hG : QAct c_Ou_closeUpToNext "TreeDiffer$Output" 6 { frames := 1, cells := 0, slots := 0, locals := 23 } Λ G) (hR : RtI c_Ou_closeUpToNext G Q) (v0 : Nat) (v1 : Nat) (v2 : Int) (S : QMem) (o0 : qob Λ 2 v0) (o1 : qob Λ 8 v1) (h : w_Ou_closeUpToNext Λ v0 v1 v2 S Q) : G 0 [(0, .ref v0), (1, .ref v1), (2, vI v2)] [] S := by
  have hΛ := hG.lay
  unfold w_Ou_closeUpToNext at h
  refine pw_iload_n (pc := 0) hG d_Ou_closeUpToNext_0 rfl ?_
  refine pw_ist_n (pc := 1) hG d_Ou_closeUpToNext_1 (by decide) rfl ?_
  refine pw_iconst (pc := 2) hG d_Ou_closeUpToNext_2 ?_
  refine pw_ist (pc := 3) hG d_Ou_closeUpToNext_3 (by decide) rfl ?_
  obtain ⟨n3, h⟩ := h
  exact pw_sub hG [0, 1, 3, 4] rfl (b_Ou_closeUpToNext_5 hG hR n3 v0 v1 v2 0 S o0 o1 h)
theorem ct_Ou_closeUpToNext (l : Launch) (Δ : QDl) {Λ : QLay} (hΛ : LayOk Λ) {v0 : Nat} {v1 : Nat} {v2 : Int} {S : QMem} {Q : Int → QMem → Prop} (o0 : qob Λ 2 v0) (o1 : qob Λ 8 v1) (h : w_Ou_closeUpToNext Λ v0 v1 v2 S Q) : QCt l y_Ou_closeUpToNext c_Ou_closeUpToNext 6 (some .int) 1 23 Δ Λ [.ref v0, .ref v1, vI v2] S (qI Q) :=
  QCt.mk (own := "TreeDiffer$Output") hΛ (by decide) rfl rfl (Nat.le_of_ble_eq_true rfl) (fun G hG ri rz rv rj ra => b_Ou_closeUpToNext_0 hG (fun pc lv x S d hq => ri pc lv x S rfl d ⟨x, rfl, hq⟩) v0 v1 v2 S o0 o1 h)
theorem k_Ou_write : QVf y_Ou_write c_Ou_write 5 none "TreeDiffer$Output" 1 := ⟨m_741, m_742, m_10, m_743, by decide +kernel⟩
theorem b_Ou_write_15 {Λ : QLay} {G : Nat → List (Nat × Value) → List Value → QMem → Prop} {Q : QMem → Prop} (hG : QAct c_Ou_write "TreeDiffer$Output" 5 { frames := 2, cells := 0, slots := 0, locals := 48 } Λ G) (hR : RtV c_Ou_write G Q) : ∀ (n : Nat) (v0 : Nat) (v1 : Nat) (v2 : Int) (v3 : Int) (S : QMem), qob Λ 2 v0 → qob Λ 8 v1 → w_Ou_write_15 Λ Q n v0 v1 v2 v3 S → G 15 [(0, .ref v0), (1, .ref v1), (2, vI v2), (3, vI v3)] [] S := by
  have hΛ := hG.lay
  intro n
  induction n with
  | zero => intro v0 v1 v2 v3 S o_v0 o_v1 h; exact h.elim
  | succ n ih =>
    intro v0 v1 v2 v3 S o_v0 o_v1 h
    rw [w_Ou_write_15] at h
    refine pw_iload_n (pc := 15) hG d_Ou_write_15 rfl ?_
    refine pw_bipush (pc := 16) hG d_Ou_write_16 (by decide) ?_
    obtain ⟨hrx18, ha18, hb18⟩ := h
    refine pw_icmp_ge (tgt := 81) (pc := 18) hG d_Ou_write_18 (by decide) hrx18 (q_lit rfl) (fun hc18 => ?_) (fun hc18 => ?_)
    · replace h := ha18 hc18
      exact hR 81 _ _ d_Ou_write_81 h
    · replace h := hb18 hc18
      refine pw_iload_n (pc := 21) hG d_Ou_write_21 rfl ?_
      refine pw_iconst (pc := 22) hG d_Ou_write_22 ?_
      obtain ⟨hrx23, ha23, hb23⟩ := h
      refine pw_icmp_eq (tgt := 81) (pc := 23) hG d_Ou_write_23 (by decide) hrx23 (q_lit rfl) (fun hc23 => ?_) (fun hc23 => ?_)
      · replace h := ha23 hc23
        exact hR 81 _ _ d_Ou_write_81 h
      · replace h := hb23 hc23
        refine pw_aload_n (pc := 26) hG d_Ou_write_26 rfl ?_
        refine pw_aload_n (pc := 27) hG d_Ou_write_27 rfl ?_
        refine g8_0 (pc := 28) hG m_195 d_Ou_write_28 o_v1 ?_
        refine pw_iload_n (pc := 31) hG d_Ou_write_31 rfl ?_
        obtain ⟨hi32, h⟩ := h
        refine pw_aI (pc := 32) hG (q_arr hΛ o_v1 rfl (by decide)) hi32 d_Ou_write_32 ?_
        refine pw_aload_n (pc := 33) hG d_Ou_write_33 rfl ?_
        refine g8_1 (pc := 34) hG m_198 d_Ou_write_34 o_v1 ?_
        refine pw_iload_n (pc := 37) hG d_Ou_write_37 rfl ?_
        obtain ⟨hi38, h⟩ := h
        refine pw_aI (pc := 38) hG (q_arr hΛ o_v1 rfl (by decide)) hi38 d_Ou_write_38 ?_
        refine pw_callv (pc := 39) hG (fun l Δ => ct_Ou_putContent l Δ hΛ o_v0 h) o_v0 rfl (by decide) m_745 k_Ou_putContent rfl ⟨by decide, by decide⟩ (Nat.le_of_ble_eq_true rfl) d_Ou_write_39 rfl (fun S39 h => ?_)
        refine pw_aload_n (pc := 42) hG d_Ou_write_42 rfl ?_
        refine pw_iload_n (pc := 43) hG d_Ou_write_43 rfl ?_
        refine pw_iconst (pc := 44) hG d_Ou_write_44 ?_
        refine pw_calli (pc := 45) hG (fun l Δ => ct_Wt_childAt l Δ hΛ o_v1 h) o_v1 rfl (by decide) m_744 k_Wt_childAt rfl ⟨by decide, by decide⟩ (Nat.le_of_ble_eq_true rfl) d_Ou_write_45 rfl (fun r45 S45 h => ?_)
        refine pw_ist (pc := 48) hG d_Ou_write_48 (by decide) rfl ?_
        refine pw_iload (pc := 50) hG d_Ou_write_50 rfl ?_
        refine pw_iconst (pc := 52) hG d_Ou_write_52 ?_
        obtain ⟨hrx53, ha53, hb53⟩ := h
        refine pw_icmp_ne (tgt := 66) (pc := 53) hG d_Ou_write_53 (by decide) hrx53 (q_lit rfl) (fun hc53 => ?_) (fun hc53 => ?_)
        · replace h := ha53 hc53
          refine pw_aload_n (pc := 66) hG d_Ou_write_66 rfl ?_
          refine pw_bipush (pc := 67) hG d_Ou_write_67 (by decide) ?_
          refine pw_callv (pc := 69) hG (fun l Δ => ct_Ou_put l Δ hΛ o_v0 h) o_v0 rfl (by decide) m_749 k_Ou_put rfl ⟨by decide, by decide⟩ (Nat.le_of_ble_eq_true rfl) d_Ou_write_69 rfl (fun S69 h => ?_)
          refine pw_iload (pc := 72) hG d_Ou_write_72 rfl ?_
          refine pw_ist_n (pc := 74) hG d_Ou_write_74 (by decide) rfl ?_
          refine pw_iinc0 (pc := 75) hG d_Ou_write_75 rfl (by decide) rfl ?_
          refine pw_goto (tgt := 15) (pc := 78) hG d_Ou_write_78 (by decide) ?_
          exact pw_sub hG [0, 1, 2, 3] rfl (ih v0 v1 r45 (v3 + 1) S69 o_v0 o_v1 h)
        · replace h := hb53 hc53
          refine pw_aload_n (pc := 56) hG d_Ou_write_56 rfl ?_
          refine pw_aload_n (pc := 57) hG d_Ou_write_57 rfl ?_
          refine pw_iload_n (pc := 58) hG d_Ou_write_58 rfl ?_
          refine pw_calli (pc := 59) hG (fun l Δ => ct_Ou_closeUpToNext l Δ hΛ o_v0 o_v1 h) o_v0 rfl (by decide) m_753 k_Ou_closeUpToNext rfl ⟨by decide, by decide⟩ (Nat.le_of_ble_eq_true rfl) d_Ou_write_59 rfl (fun r59 S59 h => ?_)
          refine pw_ist_n (pc := 62) hG d_Ou_write_62 (by decide) rfl ?_
          refine pw_goto (tgt := 75) (pc := 63) hG d_Ou_write_63 (by decide) ?_
          refine pw_iinc0 (pc := 75) hG d_Ou_write_75 rfl (by decide) rfl ?_
          refine pw_goto (tgt := 15) (pc := 78) hG d_Ou_write_78 (by decide) ?_
          exact pw_sub hG [0, 1, 2, 3] rfl (ih v0 v1 r59 (v3 + 1) S59 o_v0 o_v1 h)
theorem b_Ou_write_0 {Λ : QLay} {G : Nat → List (Nat × Value) → List Value → QMem → Prop} {Q : QMem → Prop} (hG : QAct c_Ou_write "TreeDiffer$Output" 5 { frames := 2, cells := 0, slots := 0, locals := 48 } Λ G) (hR : RtV c_Ou_write G Q) (v0 : Nat) (v1 : Nat) (S : QMem) (o0 : qob Λ 2 v0) (o1 : qob Λ 8 v1) (h : w_Ou_write Λ v0 v1 S Q) : G 0 [(0, .ref v0), (1, .ref v1)] [] S := by
  have hΛ := hG.lay
  unfold w_Ou_write at h
  refine pw_aload_n (pc := 0) hG d_Ou_write_0 rfl ?_
  refine pw_iconst (pc := 1) hG d_Ou_write_1 ?_
  refine p2_1 (pc := 2) hG m_315 d_Ou_write_2 o0 (fun S2 eS2 => ?_)
  replace h := h S2 eS2
  refine pw_aload_n (pc := 5) hG d_Ou_write_5 rfl ?_
  refine pw_bipush (pc := 6) hG d_Ou_write_6 (by decide) ?_
  refine pw_iconst (pc := 8) hG d_Ou_write_8 ?_
  refine pw_calli (pc := 9) hG (fun l Δ => ct_Wt_childAt l Δ hΛ o1 h) o1 rfl (by decide) m_744 k_Wt_childAt rfl ⟨by decide, by decide⟩ (Nat.le_of_ble_eq_true rfl) d_Ou_write_9 rfl (fun r9 S9 h => ?_)
  refine pw_ist_n (pc := 12) hG d_Ou_write_12 (by decide) rfl ?_
  refine pw_iconst (pc := 13) hG d_Ou_write_13 ?_
  refine pw_ist_n (pc := 14) hG d_Ou_write_14 (by decide) rfl ?_
  obtain ⟨n14, h⟩ := h
  exact pw_sub hG [0, 1, 2, 3] rfl (b_Ou_write_15 hG hR n14 v0 v1 r9 0 S9 o0 o1 h)
theorem ct_Ou_write (l : Launch) (Δ : QDl) {Λ : QLay} (hΛ : LayOk Λ) {v0 : Nat} {v1 : Nat} {S : QMem} {Q : QMem → Prop} (o0 : qob Λ 2 v0) (o1 : qob Λ 8 v1) (h : w_Ou_write Λ v0 v1 S Q) : QCt l y_Ou_write c_Ou_write 5 none 2 48 Δ Λ [.ref v0, .ref v1] S (qV Q) :=
  QCt.mk (own := "TreeDiffer$Output") hΛ (by decide) rfl rfl (Nat.le_of_ble_eq_true rfl) (fun G hG ri rz rv rj ra => b_Ou_write_0 hG (fun pc lv S d hq => rv pc lv S rfl d ⟨rfl, hq⟩) v0 v1 S o0 o1 h)
theorem k_Wt_load : QVf y_Wt_load c_Wt_load 3 none "TreeDiffer$WorkTree" 1 := ⟨m_323, m_324, m_7, m_325, by decide +kernel⟩
theorem b_Wt_load_80 {Λ : QLay} {G : Nat → List (Nat × Value) → List Value → QMem → Prop} {Q : QMem → Prop} (hG : QAct c_Wt_load "TreeDiffer$WorkTree" 3 { frames := 0, cells := 0, slots := 0, locals := 0 } Λ G) (hR : RtV c_Wt_load G Q) {K23 : Nat → Nat → Int → QMem → Prop} (hK23 : ∀ (v0 : Nat) (v1 : Nat) (v2 : Int) (S : QMem), qob Λ 8 v0 → qob Λ 7 v1 → K23 v0 v1 v2 S → G 23 [(0, .ref v0), (1, .ref v1), (2, vI v2)] [] S) (v0 : Nat) (v1 : Nat) (v2 : Int) (s0 : Nat) (s1 : Int) (s2 : Int) (S : QMem) (o_v0 : qob Λ 8 v0) (o_v1 : qob Λ 7 v1) (o_s0 : qob Λ 8 s0) (h : w_Wt_load_80 Λ K23 Q v0 v1 v2 s0 s1 s2 S) : G 80 [(0, .ref v0), (1, .ref v1), (2, vI v2)] [vI s2, vI s1, .ref (yA Λ s0 2)] S := by
  have hΛ := hG.lay
  unfold w_Wt_load_80 at h
  obtain ⟨hi80, h⟩ := h
  refine pw_sI (pc := 80) hG (q_arr hΛ o_s0 rfl (by decide)) hi80 d_Wt_load_80 (fun S80 eS80 => ?_)
  replace h := h S80 eS80
  refine pw_aload_n (pc := 81) hG d_Wt_load_81 rfl ?_
  refine g8_3 (pc := 82) hG m_205 d_Wt_load_82 o_v0 ?_
  refine pw_iload_n (pc := 85) hG d_Wt_load_85 rfl ?_
  refine pw_aload_n (pc := 86) hG d_Wt_load_86 rfl ?_
  refine g7_4 (pc := 87) hG m_59 d_Wt_load_87 o_v1 ?_
  refine pw_iload_n (pc := 90) hG d_Wt_load_90 rfl ?_
  obtain ⟨hi91, h⟩ := h
  refine pw_aI (pc := 91) hG (q_arr hΛ o_v1 rfl (by decide)) hi91 d_Wt_load_91 ?_
  obtain ⟨hi92, h⟩ := h
  refine pw_sI (pc := 92) hG (q_arr hΛ o_v0 rfl (by decide)) hi92 d_Wt_load_92 (fun S92 eS92 => ?_)
  replace h := h S92 eS92
  refine pw_iinc0 (pc := 93) hG d_Wt_load_93 rfl (by decide) rfl ?_
  refine pw_goto (tgt := 23) (pc := 96) hG d_Wt_load_96 (by decide) ?_
  exact pw_sub hG [0, 1, 2] rfl (hK23 v0 v1 (v2 + 1) S92 o_v0 o_v1 h)
theorem b_Wt_load_23 {Λ : QLay} {G : Nat → List (Nat × Value) → List Value → QMem → Prop} {Q : QMem → Prop} (hG : QAct c_Wt_load "TreeDiffer$WorkTree" 3 { frames := 0, cells := 0, slots := 0, locals := 0 } Λ G) (hR : RtV c_Wt_load G Q) : ∀ (n : Nat) (v0 : Nat) (v1 : Nat) (v2 : Int) (S : QMem), qob Λ 8 v0 → qob Λ 7 v1 → w_Wt_load_23 Λ Q n v0 v1 v2 S → G 23 [(0, .ref v0), (1, .ref v1), (2, vI v2)] [] S := by
  have hΛ := hG.lay
  intro n
  induction n with
  | zero => intro v0 v1 v2 S o_v0 o_v1 h; exact h.elim
  | succ n ih =>
    intro v0 v1 v2 S o_v0 o_v1 h
    rw [w_Wt_load_23] at h
    refine pw_iload_n (pc := 23) hG d_Wt_load_23 rfl ?_
    refine pw_aload_n (pc := 24) hG d_Wt_load_24 rfl ?_
    refine g7_0 (pc := 25) hG m_35 d_Wt_load_25 o_v1 ?_
    obtain ⟨hrx28, hry28, ha28, hb28⟩ := h
    refine pw_icmp_ge (tgt := 99) (pc := 28) hG d_Wt_load_28 (by decide) hrx28 hry28 (fun hc28 => ?_) (fun hc28 => ?_)
    · replace h := ha28 hc28
      exact hR 99 _ _ d_Wt_load_99 h
    · replace h := hb28 hc28
      refine pw_aload_n (pc := 31) hG d_Wt_load_31 rfl ?_
      refine g8_0 (pc := 32) hG m_194 d_Wt_load_32 o_v0 ?_
      refine pw_iload_n (pc := 35) hG d_Wt_load_35 rfl ?_
      refine pw_aload_n (pc := 36) hG d_Wt_load_36 rfl ?_
      refine g7_1 (pc := 37) hG m_41 d_Wt_load_37 o_v1 ?_
      refine pw_iload_n (pc := 40) hG d_Wt_load_40 rfl ?_
      obtain ⟨hi41, h⟩ := h
      refine pw_aI (pc := 41) hG (q_arr hΛ o_v1 rfl (by decide)) hi41 d_Wt_load_41 ?_
      obtain ⟨hi42, h⟩ := h
      refine pw_sI (pc := 42) hG (q_arr hΛ o_v0 rfl (by decide)) hi42 d_Wt_load_42 (fun S42 eS42 => ?_)
      replace h := h S42 eS42
      refine pw_aload_n (pc := 43) hG d_Wt_load_43 rfl ?_
      refine g8_1 (pc := 44) hG m_197 d_Wt_load_44 o_v0 ?_
      refine pw_iload_n (pc := 47) hG d_Wt_load_47 rfl ?_
      refine pw_aload_n (pc := 48) hG d_Wt_load_48 rfl ?_
      refine g7_2 (pc := 49) hG m_46 d_Wt_load_49 o_v1 ?_
      refine pw_iload_n (pc := 52) hG d_Wt_load_52 rfl ?_
      obtain ⟨hi53, h⟩ := h
      refine pw_aI (pc := 53) hG (q_arr hΛ o_v1 rfl (by decide)) hi53 d_Wt_load_53 ?_
      obtain ⟨hi54, h⟩ := h
      refine pw_sI (pc := 54) hG (q_arr hΛ o_v0 rfl (by decide)) hi54 d_Wt_load_54 (fun S54 eS54 => ?_)
      replace h := h S54 eS54
      refine pw_aload_n (pc := 55) hG d_Wt_load_55 rfl ?_
      refine g8_2 (pc := 56) hG m_201 d_Wt_load_56 o_v0 ?_
      refine pw_iload_n (pc := 59) hG d_Wt_load_59 rfl ?_
      refine pw_aload_n (pc := 60) hG d_Wt_load_60 rfl ?_
      refine g7_3 (pc := 61) hG m_52 d_Wt_load_61 o_v1 ?_
      refine pw_iload_n (pc := 64) hG d_Wt_load_64 rfl ?_
      obtain ⟨hi65, h⟩ := h
      refine pw_aI (pc := 65) hG (q_arr hΛ o_v1 rfl (by decide)) hi65 d_Wt_load_65 ?_
      obtain ⟨hrx66, ha66, hb66⟩ := h
      refine pw_if_ge (tgt := 74) (pc := 66) hG d_Wt_load_66 (by decide) hrx66 (fun hc66 => ?_) (fun hc66 => ?_)
      · replace h := ha66 hc66
        refine pw_aload_n (pc := 74) hG d_Wt_load_74 rfl ?_
        refine g7_3 (pc := 75) hG m_52 d_Wt_load_75 o_v1 ?_
        refine pw_iload_n (pc := 78) hG d_Wt_load_78 rfl ?_
        obtain ⟨hi79, h⟩ := h
        refine pw_aI (pc := 79) hG (q_arr hΛ o_v1 rfl (by decide)) hi79 d_Wt_load_79 ?_
        exact pw_sub hG [0, 1, 2] rfl (b_Wt_load_80 hG hR ih v0 v1 v2 v0 v2 (S54.1 v1 3 v2) S54 o_v0 o_v1 o_v0 h)
      · replace h := hb66 hc66
        refine pw_bipush (pc := 69) hG d_Wt_load_69 (by decide) ?_
        refine pw_goto (tgt := 80) (pc := 71) hG d_Wt_load_71 (by decide) ?_
        exact pw_sub hG [0, 1, 2] rfl (b_Wt_load_80 hG hR ih v0 v1 v2 v0 v2 48 S54 o_v0 o_v1 o_v0 h)
theorem b_Wt_load_2 {Λ : QLay} {G : Nat → List (Nat × Value) → List Value → QMem → Prop} {Q : QMem → Prop} (hG : QAct c_Wt_load "TreeDiffer$WorkTree" 3 { frames := 0, cells := 0, slots := 0, locals := 0 } Λ G) (hR : RtV c_Wt_load G Q) : ∀ (n : Nat) (v0 : Nat) (v1 : Nat) (v2 : Int) (S : QMem), qob Λ 8 v0 → qob Λ 7 v1 → w_Wt_load_2 Λ Q n v0 v1 v2 S → G 2 [(0, .ref v0), (1, .ref v1), (2, vI v2)] [] S := by
  have hΛ := hG.lay
  intro n
  induction n with
  | zero => intro v0 v1 v2 S o_v0 o_v1 h; exact h.elim
  | succ n ih =>
    intro v0 v1 v2 S o_v0 o_v1 h
    rw [w_Wt_load_2] at h
    refine pw_iload_n (pc := 2) hG d_Wt_load_2 rfl ?_
    refine pw_bipush (pc := 3) hG d_Wt_load_3 (by decide) ?_
    obtain ⟨hrx5, ha5, hb5⟩ := h
    refine pw_icmp_ge (tgt := 21) (pc := 5) hG d_Wt_load_5 (by decide) hrx5 (q_lit rfl) (fun hc5 => ?_) (fun hc5 => ?_)
    · replace h := ha5 hc5
      refine pw_iconst (pc := 21) hG d_Wt_load_21 ?_
      refine pw_ist_n (pc := 22) hG d_Wt_load_22 (by decide) rfl ?_
      obtain ⟨n22, h⟩ := h
      exact pw_sub hG [0, 1, 2] rfl (b_Wt_load_23 hG hR n22 v0 v1 0 S o_v0 o_v1 h)
    · replace h := hb5 hc5
      refine pw_aload_n (pc := 8) hG d_Wt_load_8 rfl ?_
      refine g8_2 (pc := 9) hG m_201 d_Wt_load_9 o_v0 ?_
      refine pw_iload_n (pc := 12) hG d_Wt_load_12 rfl ?_
      refine pw_iconst (pc := 13) hG d_Wt_load_13 ?_
      obtain ⟨hi14, h⟩ := h
      refine pw_sI (pc := 14) hG (q_arr hΛ o_v0 rfl (by decide)) hi14 d_Wt_load_14 (fun S14 eS14 => ?_)
      replace h := h S14 eS14
      refine pw_iinc0 (pc := 15) hG d_Wt_load_15 rfl (by decide) rfl ?_
      refine pw_goto (tgt := 2) (pc := 18) hG d_Wt_load_18 (by decide) ?_
      exact pw_sub hG [0, 1, 2] rfl (ih v0 v1 (v2 + 1) S14 o_v0 o_v1 h)
theorem b_Wt_load_0 {Λ : QLay} {G : Nat → List (Nat × Value) → List Value → QMem → Prop} {Q : QMem → Prop} (hG : QAct c_Wt_load "TreeDiffer$WorkTree" 3 { frames := 0, cells := 0, slots := 0, locals := 0 } Λ G) (hR : RtV c_Wt_load G Q) (v0 : Nat) (v1 : Nat) (S : QMem) (o0 : qob Λ 8 v0) (o1 : qob Λ 7 v1) (h : w_Wt_load Λ v0 v1 S Q) : G 0 [(0, .ref v0), (1, .ref v1)] [] S := by
  have hΛ := hG.lay
  unfold w_Wt_load at h
  refine pw_iconst (pc := 0) hG d_Wt_load_0 ?_
  refine pw_ist_n (pc := 1) hG d_Wt_load_1 (by decide) rfl ?_
  obtain ⟨n1, h⟩ := h
  exact pw_sub hG [0, 1, 2] rfl (b_Wt_load_2 hG hR n1 v0 v1 0 S o0 o1 h)
theorem ct_Wt_load (l : Launch) (Δ : QDl) {Λ : QLay} (hΛ : LayOk Λ) {v0 : Nat} {v1 : Nat} {S : QMem} {Q : QMem → Prop} (o0 : qob Λ 8 v0) (o1 : qob Λ 7 v1) (h : w_Wt_load Λ v0 v1 S Q) : QCt l y_Wt_load c_Wt_load 3 none 0 0 Δ Λ [.ref v0, .ref v1] S (qV Q) :=
  QCt.mk (own := "TreeDiffer$WorkTree") hΛ (by decide) rfl rfl (Nat.le_of_ble_eq_true rfl) (fun G hG ri rz rv rj ra => b_Wt_load_0 hG (fun pc lv S d hq => rv pc lv S rfl d ⟨rfl, hq⟩) v0 v1 S o0 o1 h)
theorem k_Sc_partnerOf : QVf y_Sc_partnerOf c_Sc_partnerOf 2 (some .int) "TreeDiffer$Script" 1 := ⟨m_579, m_p20, m_6, m_580, by decide +kernel⟩
theorem b_Sc_partnerOf_0 {Λ : QLay} {G : Nat → List (Nat × Value) → List Value → QMem → Prop} {Q : Int → QMem → Prop} (hG : QAct c_Sc_partnerOf "TreeDiffer$Script" 2 { frames := 0, cells := 0, slots := 0, locals := 0 } Λ G) (hR : RtI c_Sc_partnerOf G Q) (v0 : Nat) (v1 : Int) (S : QMem) (o0 : qob Λ 3 v0) (h : w_Sc_partnerOf Λ v0 v1 S Q) : G 0 [(0, .ref v0), (1, vI v1)] [] S := by
  have hΛ := hG.lay
  unfold w_Sc_partnerOf at h
  refine pw_iload_n (pc := 0) hG d_Sc_partnerOf_0 rfl ?_
  obtain ⟨hrx1, ha1, hb1⟩ := h
  refine pw_if_ge (tgt := 9) (pc := 1) hG d_Sc_partnerOf_1 (by decide) hrx1 (fun hc1 => ?_) (fun hc1 => ?_)
  · replace h := ha1 hc1
    refine pw_aload_n (pc := 9) hG d_Sc_partnerOf_9 rfl ?_
    refine g3_3 (pc := 10) hG m_271 d_Sc_partnerOf_10 o0 ?_
    refine pw_iload_n (pc := 13) hG d_Sc_partnerOf_13 rfl ?_
    obtain ⟨hi14, h⟩ := h
    refine pw_aI (pc := 14) hG (q_arr hΛ o0 rfl (by decide)) hi14 d_Sc_partnerOf_14 ?_
    exact hR 15 _ _ _ d_Sc_partnerOf_15 h
  · replace h := hb1 hc1
    refine pw_bipush (pc := 4) hG d_Sc_partnerOf_4 (by decide) ?_
    refine pw_goto (tgt := 15) (pc := 6) hG d_Sc_partnerOf_6 (by decide) ?_
    exact hR 15 _ _ _ d_Sc_partnerOf_15 h
theorem ct_Sc_partnerOf (l : Launch) (Δ : QDl) {Λ : QLay} (hΛ : LayOk Λ) {v0 : Nat} {v1 : Int} {S : QMem} {Q : Int → QMem → Prop} (o0 : qob Λ 3 v0) (h : w_Sc_partnerOf Λ v0 v1 S Q) : QCt l y_Sc_partnerOf c_Sc_partnerOf 2 (some .int) 0 0 Δ Λ [.ref v0, vI v1] S (qI Q) :=
  QCt.mk (own := "TreeDiffer$Script") hΛ (by decide) rfl rfl (Nat.le_of_ble_eq_true rfl) (fun G hG ri rz rv rj ra => b_Sc_partnerOf_0 hG (fun pc lv x S d hq => ri pc lv x S rfl d ⟨x, rfl, hq⟩) v0 v1 S o0 h)
theorem k_Sc_isBelow : QVf y_Sc_isBelow c_Sc_isBelow 3 (some .boolean) "TreeDiffer$Script" 2 := ⟨m_583, m_p21, m_6, m_584, by decide +kernel⟩
theorem b_Sc_isBelow_0 {Λ : QLay} {G : Nat → List (Nat × Value) → List Value → QMem → Prop} {Q : Int → QMem → Prop} (hG : QAct c_Sc_isBelow "TreeDiffer$Script" 3 { frames := 0, cells := 0, slots := 0, locals := 0 } Λ G) (hR : RtZ c_Sc_isBelow G Q) (v0 : Nat) (v1 : Int) (v2 : Int) (S : QMem) (o0 : qob Λ 3 v0) (h : w_Sc_isBelow Λ v0 v1 v2 S Q) : G 0 [(0, .ref v0), (1, vI v1), (2, vI v2)] [] S := by
  have hΛ := hG.lay
  unfold w_Sc_isBelow at h
  refine pw_iload_n (pc := 0) hG d_Sc_isBelow_0 rfl ?_
  refine pw_iconst (pc := 1) hG d_Sc_isBelow_1 ?_
  obtain ⟨hrx2, ha2, hb2⟩ := h
  refine pw_icmp_eq (tgt := 22) (pc := 2) hG d_Sc_isBelow_2 (by decide) hrx2 (q_lit rfl) (fun hc2 => ?_) (fun hc2 => ?_)
  · replace h := ha2 hc2
    refine pw_iconst (pc := 22) hG d_Sc_isBelow_22 ?_
    exact hR 23 _ _ _ d_Sc_isBelow_23 (Or.inl rfl) h
  · replace h := hb2 hc2
    refine pw_aload_n (pc := 5) hG d_Sc_isBelow_5 rfl ?_
    refine g3_2 (pc := 6) hG m_270 d_Sc_isBelow_6 o0 ?_
    refine g8_2 (pc := 9) hG m_203 d_Sc_isBelow_9 (q_rf hΛ o0 rfl (by decide)) ?_
    refine pw_iload_n (pc := 12) hG d_Sc_isBelow_12 rfl ?_
    obtain ⟨hi13, h⟩ := h
    refine pw_aI (pc := 13) hG (q_arr hΛ (q_rf hΛ o0 rfl (by decide)) rfl (by decide)) hi13 d_Sc_isBelow_13 ?_
    refine pw_iload_n (pc := 14) hG d_Sc_isBelow_14 rfl ?_
    obtain ⟨hrx15, hry15, ha15, hb15⟩ := h
    refine pw_icmp_ne (tgt := 22) (pc := 15) hG d_Sc_isBelow_15 (by decide) hrx15 hry15 (fun hc15 => ?_) (fun hc15 => ?_)
    · replace h := ha15 hc15
      refine pw_iconst (pc := 22) hG d_Sc_isBelow_22 ?_
      exact hR 23 _ _ _ d_Sc_isBelow_23 (Or.inl rfl) h
    · replace h := hb15 hc15
      refine pw_iconst (pc := 18) hG d_Sc_isBelow_18 ?_
      refine pw_goto (tgt := 23) (pc := 19) hG d_Sc_isBelow_19 (by decide) ?_
      exact hR 23 _ _ _ d_Sc_isBelow_23 (Or.inr rfl) h
theorem ct_Sc_isBelow (l : Launch) (Δ : QDl) {Λ : QLay} (hΛ : LayOk Λ) {v0 : Nat} {v1 : Int} {v2 : Int} {S : QMem} {Q : Int → QMem → Prop} (o0 : qob Λ 3 v0) (h : w_Sc_isBelow Λ v0 v1 v2 S Q) : QCt l y_Sc_isBelow c_Sc_isBelow 3 (some .boolean) 0 0 Δ Λ [.ref v0, vI v1, vI v2] S (qI Q) :=
  QCt.mk (own := "TreeDiffer$Script") hΛ (by decide) rfl rfl (Nat.le_of_ble_eq_true rfl) (fun G hG ri rz rv rj ra => b_Sc_isBelow_0 hG (fun pc lv x S d hb hq => rz pc lv x S rfl d hb ⟨x, rfl, hq⟩) v0 v1 v2 S o0 h)
theorem k_Sc_gatherChildren : QVf y_Sc_gatherChildren c_Sc_gatherChildren 6 (some .int) "TreeDiffer$Script" 2 := ⟨m_574, m_p19, m_6, m_575, by decide +kernel⟩
theorem b_Sc_gatherChildren_14 {Λ : QLay} {G : Nat → List (Nat × Value) → List Value → QMem → Prop} {Q : Int → QMem → Prop} (hG : QAct c_Sc_gatherChildren "TreeDiffer$Script" 6 { frames := 1, cells := 0, slots := 0, locals := 22 } Λ G) (hR : RtI c_Sc_gatherChildren G Q) : ∀ (n : Nat) (v0 : Nat) (v1 : Nat) (v2 : Int) (v3 : Int) (v4 : Int) (v5 : Int) (S : QMem), qob Λ 3 v0 → qob Λ 7 v1 → w_Sc_gatherChildren_14 Λ Q n v0 v1 v2 v3 v4 v5 S → G 14 [(0, .ref v0), (1, .ref v1), (2, vI v2), (3, vI v3), (4, vI v4), (5, vI v5)] [] S := by
  have hΛ := hG.lay
  intro n
  induction n with
  | zero => intro v0 v1 v2 v3 v4 v5 S o_v0 o_v1 h; exact h.elim
  | succ n ih =>
    intro v0 v1 v2 v3 v4 v5 S o_v0 o_v1 h
    rw [w_Sc_gatherChildren_14] at h
    refine pw_iload (pc := 14) hG d_Sc_gatherChildren_14 rfl ?_
    refine pw_iload (pc := 16) hG d_Sc_gatherChildren_16 rfl ?_
    obtain ⟨hrx18, hry18, ha18, hb18⟩ := h
    refine pw_icmp_ge (tgt := 68) (pc := 18) hG d_Sc_gatherChildren_18 (by decide) hrx18 hry18 (fun hc18 => ?_) (fun hc18 => ?_)
    · replace h := ha18 hc18
      refine pw_iload_n (pc := 68) hG d_Sc_gatherChildren_68 rfl ?_
      exact hR 69 _ _ _ d_Sc_gatherChildren_69 h
    · replace h := hb18 hc18
      refine pw_aload_n (pc := 21) hG d_Sc_gatherChildren_21 rfl ?_
      refine g7_3 (pc := 22) hG m_54 d_Sc_gatherChildren_22 o_v1 ?_
      refine pw_iload (pc := 25) hG d_Sc_gatherChildren_25 rfl ?_
      obtain ⟨hi27, h⟩ := h
      refine pw_aI (pc := 27) hG (q_arr hΛ o_v1 rfl (by decide)) hi27 d_Sc_gatherChildren_27 ?_
      refine pw_iload_n (pc := 28) hG d_Sc_gatherChildren_28 rfl ?_
      obtain ⟨hrx29, hry29, ha29, hb29⟩ := h
      refine pw_icmp_ne (tgt := 62) (pc := 29) hG d_Sc_gatherChildren_29 (by decide) hrx29 hry29 (fun hc29 => ?_) (fun hc29 => ?_)
      · replace h := ha29 hc29
        refine pw_iinc0 (pc := 62) hG d_Sc_gatherChildren_62 rfl (by decide) rfl ?_
        refine pw_goto (tgt := 14) (pc := 65) hG d_Sc_gatherChildren_65 (by decide) ?_
        exact pw_sub hG [0, 1, 2, 3, 4, 5] rfl (ih v0 v1 v2 v3 v4 (v5 + 1) S o_v0 o_v1 h)
      · replace h := hb29 hc29
        refine pw_aload_n (pc := 32) hG d_Sc_gatherChildren_32 rfl ?_
        refine pw_aload_n (pc := 33) hG d_Sc_gatherChildren_33 rfl ?_
        refine g3_3 (pc := 34) hG m_271 d_Sc_gatherChildren_34 o_v0 ?_
        refine pw_iload (pc := 37) hG d_Sc_gatherChildren_37 rfl ?_
        obtain ⟨hi39, h⟩ := h
        refine pw_aI (pc := 39) hG (q_arr hΛ o_v0 rfl (by decide)) hi39 d_Sc_gatherChildren_39 ?_
        refine pw_aload_n (pc := 40) hG d_Sc_gatherChildren_40 rfl ?_
        refine pw_iload_n (pc := 41) hG d_Sc_gatherChildren_41 rfl ?_
        refine pw_calli (pc := 42) hG (fun l Δ => ct_Sc_partnerOf l Δ hΛ o_v0 h) o_v0 rfl (by decide) m_577 k_Sc_partnerOf rfl ⟨by decide, by decide⟩ (Nat.le_of_ble_eq_true rfl) d_Sc_gatherChildren_42 rfl (fun r42 S42 h => ?_)
        refine pw_calli (pc := 45) hG (fun l Δ => ct_Sc_isBelow l Δ hΛ o_v0 h) o_v0 rfl (by decide) m_581 k_Sc_isBelow rfl ⟨by decide, by decide⟩ (Nat.le_of_ble_eq_true rfl) d_Sc_gatherChildren_45 rfl (fun r45 S45 h => ?_)
        obtain ⟨hrx48, ha48, hb48⟩ := h
        refine pw_if_eq (tgt := 62) (pc := 48) hG d_Sc_gatherChildren_48 (by decide) hrx48 (fun hc48 => ?_) (fun hc48 => ?_)
        · replace h := ha48 hc48
          refine pw_iinc0 (pc := 62) hG d_Sc_gatherChildren_62 rfl (by decide) rfl ?_
          refine pw_goto (tgt := 14) (pc := 65) hG d_Sc_gatherChildren_65 (by decide) ?_
          exact pw_sub hG [0, 1, 2, 3, 4, 5] rfl (ih v0 v1 v2 v3 v4 (v5 + 1) S45 o_v0 o_v1 h)
        · replace h := hb48 hc48
          refine pw_aload_n (pc := 51) hG d_Sc_gatherChildren_51 rfl ?_
          refine g3_5 (pc := 52) hG m_273 d_Sc_gatherChildren_52 o_v0 ?_
          refine pw_iload_n (pc := 55) hG d_Sc_gatherChildren_55 rfl ?_
          refine pw_iload (pc := 56) hG d_Sc_gatherChildren_56 rfl ?_
          obtain ⟨hi58, h⟩ := h
          refine pw_sI (pc := 58) hG (q_arr hΛ o_v0 rfl (by decide)) hi58 d_Sc_gatherChildren_58 (fun S58 eS58 => ?_)
          replace h := h S58 eS58
          refine pw_iinc0 (pc := 59) hG d_Sc_gatherChildren_59 rfl (by decide) rfl ?_
          refine pw_iinc0 (pc := 62) hG d_Sc_gatherChildren_62 rfl (by decide) rfl ?_
          refine pw_goto (tgt := 14) (pc := 65) hG d_Sc_gatherChildren_65 (by decide) ?_
          exact pw_sub hG [0, 1, 2, 3, 4, 5] rfl (ih v0 v1 v2 (v3 + 1) v4 (v5 + 1) S58 o_v0 o_v1 h)
theorem b_Sc_gatherChildren_0 {Λ : QLay} {G : Nat → List (Nat × Value) → List Value → QMem → Prop} {Q : Int → QMem → Prop} (hG : QAct c_Sc_gatherChildren "TreeDiffer$Script" 6 { frames := 1, cells := 0, slots := 0, locals := 22 } Λ G) (hR : RtI c_Sc_gatherChildren G Q) (v0 : Nat) (v1 : Nat) (v2 : Int) (S : QMem) (o0 : qob Λ 3 v0) (o1 : qob Λ 7 v1) (h : w_Sc_gatherChildren Λ v0 v1 v2 S Q) : G 0 [(0, .ref v0), (1, .ref v1), (2, vI v2)] [] S := by
  have hΛ := hG.lay
  unfold w_Sc_gatherChildren at h
  refine pw_iconst (pc := 0) hG d_Sc_gatherChildren_0 ?_
  refine pw_ist_n (pc := 1) hG d_Sc_gatherChildren_1 (by decide) rfl ?_
  refine pw_aload_n (pc := 2) hG d_Sc_gatherChildren_2 rfl ?_
  refine pw_iload_n (pc := 3) hG d_Sc_gatherChildren_3 rfl ?_
  refine pw_calli (pc := 4) hG (fun l Δ => ct_Tr_endOf l Δ hΛ o1 h) o1 rfl (by decide) m_576 k_Tr_endOf rfl ⟨by decide, by decide⟩ (Nat.le_of_ble_eq_true rfl) d_Sc_gatherChildren_4 rfl (fun r4 S4 h => ?_)
  refine pw_ist (pc := 7) hG d_Sc_gatherChildren_7 (by decide) rfl ?_
  refine pw_iload_n (pc := 9) hG d_Sc_gatherChildren_9 rfl ?_
  refine pw_iconst (pc := 10) hG d_Sc_gatherChildren_10 ?_
  refine pw_iadd (pc := 11) hG d_Sc_gatherChildren_11 ?_
  refine pw_istore (pc := 12) hG d_Sc_gatherChildren_12 (by decide) (fun x12 ex12 => ⟨_, rfl, ?_⟩)
  replace h := h x12 ex12
  obtain ⟨n12, h⟩ := h
  exact pw_sub hG [0, 1, 2, 3, 4, 5] rfl (b_Sc_gatherChildren_14 hG hR n12 v0 v1 v2 0 r4 x12 S4 o0 o1 h)
theorem ct_Sc_gatherChildren (l : Launch) (Δ : QDl) {Λ : QLay} (hΛ : LayOk Λ) {v0 : Nat} {v1 : Nat} {v2 : Int} {S : QMem} {Q : Int → QMem → Prop} (o0 : qob Λ 3 v0) (o1 : qob Λ 7 v1) (h : w_Sc_gatherChildren Λ v0 v1 v2 S Q) : QCt l y_Sc_gatherChildren c_Sc_gatherChildren 6 (some .int) 1 22 Δ Λ [.ref v0, .ref v1, vI v2] S (qI Q) :=
  QCt.mk (own := "TreeDiffer$Script") hΛ (by decide) rfl rfl (Nat.le_of_ble_eq_true rfl) (fun G hG ri rz rv rj ra => b_Sc_gatherChildren_0 hG (fun pc lv x S d hq => ri pc lv x S rfl d ⟨x, rfl, hq⟩) v0 v1 v2 S o0 o1 h)
theorem k_Sc_placeOf : QVf y_Sc_placeOf c_Sc_placeOf 2 (some .int) "TreeDiffer$Script" 1 := ⟨m_591, m_p23, m_6, m_592, by decide +kernel⟩
theorem b_Sc_placeOf_0 {Λ : QLay} {G : Nat → List (Nat × Value) → List Value → QMem → Prop} {Q : Int → QMem → Prop} (hG : QAct c_Sc_placeOf "TreeDiffer$Script" 2 { frames := 0, cells := 0, slots := 0, locals := 0 } Λ G) (hR : RtI c_Sc_placeOf G Q) (v0 : Nat) (v1 : Int) (S : QMem) (o0 : qob Λ 3 v0) (h : w_Sc_placeOf Λ v0 v1 S Q) : G 0 [(0, .ref v0), (1, vI v1)] [] S := by
  have hΛ := hG.lay
  unfold w_Sc_placeOf at h
  refine pw_aload_n (pc := 0) hG d_Sc_placeOf_0 rfl ?_
  refine g3_2 (pc := 1) hG m_270 d_Sc_placeOf_1 o0 ?_
  refine g8_3 (pc := 4) hG m_207 d_Sc_placeOf_4 (q_rf hΛ o0 rfl (by decide)) ?_
  refine pw_aload_n (pc := 7) hG d_Sc_placeOf_7 rfl ?_
  refine g3_3 (pc := 8) hG m_271 d_Sc_placeOf_8 o0 ?_
  refine pw_iload_n (pc := 11) hG d_Sc_placeOf_11 rfl ?_
  obtain ⟨hi12, h⟩ := h
  refine pw_aI (pc := 12) hG (q_arr hΛ o0 rfl (by decide)) hi12 d_Sc_placeOf_12 ?_
  obtain ⟨hi13, h⟩ := h
  refine pw_aI (pc := 13) hG (q_arr hΛ (q_rf hΛ o0 rfl (by decide)) rfl (by decide)) hi13 d_Sc_placeOf_13 ?_
  exact hR 14 _ _ _ d_Sc_placeOf_14 h
theorem ct_Sc_placeOf (l : Launch) (Δ : QDl) {Λ : QLay} (hΛ : LayOk Λ) {v0 : Nat} {v1 : Int} {S : QMem} {Q : Int → QMem → Prop} (o0 : qob Λ 3 v0) (h : w_Sc_placeOf Λ v0 v1 S Q) : QCt l y_Sc_placeOf c_Sc_placeOf 2 (some .int) 0 0 Δ Λ [.ref v0, vI v1] S (qI Q) :=
  QCt.mk (own := "TreeDiffer$Script") hΛ (by decide) rfl rfl (Nat.le_of_ble_eq_true rfl) (fun G hG ri rz rv rj ra => b_Sc_placeOf_0 hG (fun pc lv x S d hq => ri pc lv x S rfl d ⟨x, rfl, hq⟩) v0 v1 S o0 h)
theorem k_Sc_measureSequences : QVf y_Sc_measureSequences c_Sc_measureSequences 5 (some .int) "TreeDiffer$Script" 1 := ⟨m_587, m_p22, m_6, m_588, by decide +kernel⟩
theorem b_Sc_measureSequences_22 {Λ : QLay} {G : Nat → List (Nat × Value) → List Value → QMem → Prop} {Q : Int → QMem → Prop} (hG : QAct c_Sc_measureSequences "TreeDiffer$Script" 5 { frames := 1, cells := 0, slots := 0, locals := 21 } Λ G) (hR : RtI c_Sc_measureSequences G Q) {K6 : Nat → Int → Int → Int → QMem → Prop} (hK6 : ∀ (v0 : Nat) (v1 : Int) (v2 : Int) (v3 : Int) (S : QMem), qob Λ 3 v0 → K6 v0 v1 v2 v3 S → G 6 [(0, .ref v0), (1, vI v1), (2, vI v2), (3, vI v3)] [] S) : ∀ (n : Nat) (v0 : Nat) (v1 : Int) (v2 : Int) (v3 : Int) (v4 : Int) (S : QMem), qob Λ 3 v0 → w_Sc_measureSequences_22 Λ K6 Q n v0 v1 v2 v3 v4 S → G 22 [(0, .ref v0), (1, vI v1), (2, vI v2), (3, vI v3), (4, vI v4)] [] S := by
  have hΛ := hG.lay
  intro n
  induction n with
  | zero => intro v0 v1 v2 v3 v4 S o_v0 h; exact h.elim
  | succ n ih =>
    intro v0 v1 v2 v3 v4 S o_v0 h
    rw [w_Sc_measureSequences_22] at h
    refine pw_iload (pc := 22) hG d_Sc_measureSequences_22 rfl ?_
    refine pw_iload_n (pc := 24) hG d_Sc_measureSequences_24 rfl ?_
    obtain ⟨hrx25, hry25, ha25, hb25⟩ := h
    refine pw_icmp_ge (tgt := 82) (pc := 25) hG d_Sc_measureSequences_25 (by decide) hrx25 hry25 (fun hc25 => ?_) (fun hc25 => ?_)
    · replace h := ha25 hc25
      refine pw_iload_n (pc := 82) hG d_Sc_measureSequences_82 rfl ?_
      refine pw_aload_n (pc := 83) hG d_Sc_measureSequences_83 rfl ?_
      refine g3_6 (pc := 84) hG m_274 d_Sc_measureSequences_84 o_v0 ?_
      refine pw_iload_n (pc := 87) hG d_Sc_measureSequences_87 rfl ?_
      obtain ⟨hi88, h⟩ := h
      refine pw_aI (pc := 88) hG (q_arr hΛ o_v0 rfl (by decide)) hi88 d_Sc_measureSequences_88 ?_
      obtain ⟨hrx89, hry89, h⟩ := h
      refine pw_max (pc := 89) hG m_593 d_Sc_measureSequences_89 hrx89 hry89 (by decide) (Nat.le_of_ble_eq_true rfl) ?_
      refine pw_istore_n (pc := 92) hG d_Sc_measureSequences_92 (by decide) (fun x92 ex92 => ⟨_, rfl, ?_⟩)
      replace h := h x92 ex92
      refine pw_iinc0 (pc := 93) hG d_Sc_measureSequences_93 rfl (by decide) rfl ?_
      refine pw_goto (tgt := 6) (pc := 96) hG d_Sc_measureSequences_96 (by decide) ?_
      exact pw_sub hG [0, 1, 2, 3] rfl (hK6 v0 v1 x92 (v3 + (-1)) S o_v0 h)
    · replace h := hb25 hc25
      refine pw_aload_n (pc := 28) hG d_Sc_measureSequences_28 rfl ?_
      refine pw_aload_n (pc := 29) hG d_Sc_measureSequences_29 rfl ?_
      refine g3_5 (pc := 30) hG m_273 d_Sc_measureSequences_30 o_v0 ?_
      refine pw_iload (pc := 33) hG d_Sc_measureSequences_33 rfl ?_
      obtain ⟨hi35, h⟩ := h
      refine pw_aI (pc := 35) hG (q_arr hΛ o_v0 rfl (by decide)) hi35 d_Sc_measureSequences_35 ?_
      refine pw_calli (pc := 36) hG (fun l Δ => ct_Sc_placeOf l Δ hΛ o_v0 h) o_v0 rfl (by decide) m_589 k_Sc_placeOf rfl ⟨by decide, by decide⟩ (Nat.le_of_ble_eq_true rfl) d_Sc_measureSequences_36 rfl (fun r36 S36 h => ?_)
      refine pw_aload_n (pc := 39) hG d_Sc_measureSequences_39 rfl ?_
      refine pw_aload_n (pc := 40) hG d_Sc_measureSequences_40 rfl ?_
      refine g3_5 (pc := 41) hG m_273 d_Sc_measureSequences_41 o_v0 ?_
      refine pw_iload_n (pc := 44) hG d_Sc_measureSequences_44 rfl ?_
      obtain ⟨hi45, h⟩ := h
      refine pw_aI (pc := 45) hG (q_arr hΛ o_v0 rfl (by decide)) hi45 d_Sc_measureSequences_45 ?_
      refine pw_calli (pc := 46) hG (fun l Δ => ct_Sc_placeOf l Δ hΛ o_v0 h) o_v0 rfl (by decide) m_589 k_Sc_placeOf rfl ⟨by decide, by decide⟩ (Nat.le_of_ble_eq_true rfl) d_Sc_measureSequences_46 rfl (fun r46 S46 h => ?_)
      obtain ⟨hrx49, hry49, ha49, hb49⟩ := h
      refine pw_icmp_le (tgt := 76) (pc := 49) hG d_Sc_measureSequences_49 (by decide) hrx49 hry49 (fun hc49 => ?_) (fun hc49 => ?_)
      · replace h := ha49 hc49
        refine pw_iinc0 (pc := 76) hG d_Sc_measureSequences_76 rfl (by decide) rfl ?_
        refine pw_goto (tgt := 22) (pc := 79) hG d_Sc_measureSequences_79 (by decide) ?_
        exact pw_sub hG [0, 1, 2, 3, 4] rfl (ih v0 v1 v2 v3 (v4 + 1) S46 o_v0 h)
      · replace h := hb49 hc49
        refine pw_aload_n (pc := 52) hG d_Sc_measureSequences_52 rfl ?_
        refine g3_6 (pc := 53) hG m_274 d_Sc_measureSequences_53 o_v0 ?_
        refine pw_iload_n (pc := 56) hG d_Sc_measureSequences_56 rfl ?_
        refine pw_aload_n (pc := 57) hG d_Sc_measureSequences_57 rfl ?_
        refine g3_6 (pc := 58) hG m_274 d_Sc_measureSequences_58 o_v0 ?_
        refine pw_iload_n (pc := 61) hG d_Sc_measureSequences_61 rfl ?_
        obtain ⟨hi62, h⟩ := h
        refine pw_aI (pc := 62) hG (q_arr hΛ o_v0 rfl (by decide)) hi62 d_Sc_measureSequences_62 ?_
        refine pw_aload_n (pc := 63) hG d_Sc_measureSequences_63 rfl ?_
        refine g3_6 (pc := 64) hG m_274 d_Sc_measureSequences_64 o_v0 ?_
        refine pw_iload (pc := 67) hG d_Sc_measureSequences_67 rfl ?_
        obtain ⟨hi69, h⟩ := h
        refine pw_aI (pc := 69) hG (q_arr hΛ o_v0 rfl (by decide)) hi69 d_Sc_measureSequences_69 ?_
        refine pw_iconst (pc := 70) hG d_Sc_measureSequences_70 ?_
        refine pw_iadd (pc := 71) hG d_Sc_measureSequences_71 ?_
        obtain ⟨hrx72, hry72, h⟩ := h
        refine pw_max (pc := 72) hG m_593 d_Sc_measureSequences_72 hrx72 hry72 (by decide) (Nat.le_of_ble_eq_true rfl) ?_
        obtain ⟨hi75, h⟩ := h
        refine pw_sI (pc := 75) hG (q_arr hΛ o_v0 rfl (by decide)) hi75 d_Sc_measureSequences_75 (fun S75 eS75 => ?_)
        replace h := h S75 eS75
        refine pw_iinc0 (pc := 76) hG d_Sc_measureSequences_76 rfl (by decide) rfl ?_
        refine pw_goto (tgt := 22) (pc := 79) hG d_Sc_measureSequences_79 (by decide) ?_
        exact pw_sub hG [0, 1, 2, 3, 4] rfl (ih v0 v1 v2 v3 (v4 + 1) S75 o_v0 h)
theorem b_Sc_measureSequences_6 {Λ : QLay} {G : Nat → List (Nat × Value) → List Value → QMem → Prop} {Q : Int → QMem → Prop} (hG : QAct c_Sc_measureSequences "TreeDiffer$Script" 5 { frames := 1, cells := 0, slots := 0, locals := 21 } Λ G) (hR : RtI c_Sc_measureSequences G Q) : ∀ (n : Nat) (v0 : Nat) (v1 : Int) (v2 : Int) (v3 : Int) (S : QMem), qob Λ 3 v0 → w_Sc_measureSequences_6 Λ Q n v0 v1 v2 v3 S → G 6 [(0, .ref v0), (1, vI v1), (2, vI v2), (3, vI v3)] [] S := by
  have hΛ := hG.lay
  intro n
  induction n with
  | zero => intro v0 v1 v2 v3 S o_v0 h; exact h.elim
  | succ n ih =>
    intro v0 v1 v2 v3 S o_v0 h
    rw [w_Sc_measureSequences_6] at h
    refine pw_iload_n (pc := 6) hG d_Sc_measureSequences_6 rfl ?_
    obtain ⟨hrx7, ha7, hb7⟩ := h
    refine pw_if_lt (tgt := 99) (pc := 7) hG d_Sc_measureSequences_7 (by decide) hrx7 (fun hc7 => ?_) (fun hc7 => ?_)
    · replace h := ha7 hc7
      refine pw_iload_n (pc := 99) hG d_Sc_measureSequences_99 rfl ?_
      exact hR 100 _ _ _ d_Sc_measureSequences_100 h
    · replace h := hb7 hc7
      refine pw_aload_n (pc := 10) hG d_Sc_measureSequences_10 rfl ?_
      refine g3_6 (pc := 11) hG m_274 d_Sc_measureSequences_11 o_v0 ?_
      refine pw_iload_n (pc := 14) hG d_Sc_measureSequences_14 rfl ?_
      refine pw_iconst (pc := 15) hG d_Sc_measureSequences_15 ?_
      obtain ⟨hi16, h⟩ := h
      refine pw_sI (pc := 16) hG (q_arr hΛ o_v0 rfl (by decide)) hi16 d_Sc_measureSequences_16 (fun S16 eS16 => ?_)
      replace h := h S16 eS16
      refine pw_iload_n (pc := 17) hG d_Sc_measureSequences_17 rfl ?_
      refine pw_iconst (pc := 18) hG d_Sc_measureSequences_18 ?_
      refine pw_iadd (pc := 19) hG d_Sc_measureSequences_19 ?_
      refine pw_istore (pc := 20) hG d_Sc_measureSequences_20 (by decide) (fun x20 ex20 => ⟨_, rfl, ?_⟩)
      replace h := h x20 ex20
      obtain ⟨n20, h⟩ := h
      exact pw_sub hG [0, 1, 2, 3, 4] rfl (b_Sc_measureSequences_22 hG hR ih n20 v0 v1 v2 v3 x20 S16 o_v0 h)
theorem b_Sc_measureSequences_0 {Λ : QLay} {G : Nat → List (Nat × Value) → List Value → QMem → Prop} {Q : Int → QMem → Prop} (hG : QAct c_Sc_measureSequences "TreeDiffer$Script" 5 { frames := 1, cells := 0, slots := 0, locals := 21 } Λ G) (hR : RtI c_Sc_measureSequences G Q) (v0 : Nat) (v1 : Int) (S : QMem) (o0 : qob Λ 3 v0) (h : w_Sc_measureSequences Λ v0 v1 S Q) : G 0 [(0, .ref v0), (1, vI v1)] [] S := by
  have hΛ := hG.lay
  unfold w_Sc_measureSequences at h
  refine pw_iconst (pc := 0) hG d_Sc_measureSequences_0 ?_
  refine pw_ist_n (pc := 1) hG d_Sc_measureSequences_1 (by decide) rfl ?_
  refine pw_iload_n (pc := 2) hG d_Sc_measureSequences_2 rfl ?_
  refine pw_iconst (pc := 3) hG d_Sc_measureSequences_3 ?_
  refine pw_isub (pc := 4) hG d_Sc_measureSequences_4 ?_
  refine pw_istore_n (pc := 5) hG d_Sc_measureSequences_5 (by decide) (fun x5 ex5 => ⟨_, rfl, ?_⟩)
  replace h := h x5 ex5
  obtain ⟨n5, h⟩ := h
  exact pw_sub hG [0, 1, 2, 3] rfl (b_Sc_measureSequences_6 hG hR n5 v0 v1 0 x5 S o0 h)
theorem ct_Sc_measureSequences (l : Launch) (Δ : QDl) {Λ : QLay} (hΛ : LayOk Λ) {v0 : Nat} {v1 : Int} {S : QMem} {Q : Int → QMem → Prop} (o0 : qob Λ 3 v0) (h : w_Sc_measureSequences Λ v0 v1 S Q) : QCt l y_Sc_measureSequences c_Sc_measureSequences 5 (some .int) 1 21 Δ Λ [.ref v0, vI v1] S (qI Q) :=
  QCt.mk (own := "TreeDiffer$Script") hΛ (by decide) rfl rfl (Nat.le_of_ble_eq_true rfl) (fun G hG ri rz rv rj ra => b_Sc_measureSequences_0 hG (fun pc lv x S d hq => ri pc lv x S rfl d ⟨x, rfl, hq⟩) v0 v1 S o0 h)
theorem k_Sc_markLongest : QVf y_Sc_markLongest c_Sc_markLongest 6 none "TreeDiffer$Script" 2 := ⟨m_596, m_p24, m_6, m_597, by decide +kernel⟩
theorem b_Sc_markLongest_8 {Λ : QLay} {G : Nat → List (Nat × Value) → List Value → QMem → Prop} {Q : QMem → Prop} (hG : QAct c_Sc_markLongest "TreeDiffer$Script" 6 { frames := 1, cells := 0, slots := 0, locals := 21 } Λ G) (hR : RtV c_Sc_markLongest G Q) : ∀ (n : Nat) (v0 : Nat) (v1 : Int) (v3 : Int) (v4 : Int) (v5 : Int) (S : QMem), qob Λ 3 v0 → w_Sc_markLongest_8 Λ Q n v0 v1 v3 v4 v5 S → G 8 [(0, .ref v0), (1, vI v1), (3, vI v3), (4, vI v4), (5, vI v5)] [] S := by
  have hΛ := hG.lay
  intro n
  induction n with
  | zero => intro v0 v1 v3 v4 v5 S o_v0 h; exact h.elim
  | succ n ih =>
    intro v0 v1 v3 v4 v5 S o_v0 h
    rw [w_Sc_markLongest_8] at h
    refine pw_iload (pc := 8) hG d_Sc_markLongest_8 rfl ?_
    refine pw_iload_n (pc := 10) hG d_Sc_markLongest_10 rfl ?_
    obtain ⟨hrx11, hry11, ha11, hb11⟩ := h
    refine pw_icmp_ge (tgt := 76) (pc := 11) hG d_Sc_markLongest_11 (by decide) hrx11 hry11 (fun hc11 => ?_) (fun hc11 => ?_)
    · replace h := ha11 hc11
      exact hR 76 _ _ d_Sc_markLongest_76 h
    · replace h := hb11 hc11
      refine pw_aload_n (pc := 14) hG d_Sc_markLongest_14 rfl ?_
      refine g3_6 (pc := 15) hG m_274 d_Sc_markLongest_15 o_v0 ?_
      refine pw_iload (pc := 18) hG d_Sc_markLongest_18 rfl ?_
      obtain ⟨hi20, h⟩ := h
      refine pw_aI (pc := 20) hG (q_arr hΛ o_v0 rfl (by decide)) hi20 d_Sc_markLongest_20 ?_
      refine pw_iload_n (pc := 21) hG d_Sc_markLongest_21 rfl ?_
      obtain ⟨hrx22, hry22, ha22, hb22⟩ := h
      refine pw_icmp_ne (tgt := 70) (pc := 22) hG d_Sc_markLongest_22 (by decide) hrx22 hry22 (fun hc22 => ?_) (fun hc22 => ?_)
      · replace h := ha22 hc22
        refine pw_iinc0 (pc := 70) hG d_Sc_markLongest_70 rfl (by decide) rfl ?_
        refine pw_goto (tgt := 8) (pc := 73) hG d_Sc_markLongest_73 (by decide) ?_
        exact pw_sub hG [0, 1, 3, 4, 5] rfl (ih v0 v1 v3 v4 (v5 + 1) S o_v0 h)
      · replace h := hb22 hc22
        refine pw_aload_n (pc := 25) hG d_Sc_markLongest_25 rfl ?_
        refine pw_aload_n (pc := 26) hG d_Sc_markLongest_26 rfl ?_
        refine g3_5 (pc := 27) hG m_273 d_Sc_markLongest_27 o_v0 ?_
        refine pw_iload (pc := 30) hG d_Sc_markLongest_30 rfl ?_
        obtain ⟨hi32, h⟩ := h
        refine pw_aI (pc := 32) hG (q_arr hΛ o_v0 rfl (by decide)) hi32 d_Sc_markLongest_32 ?_
        refine pw_calli (pc := 33) hG (fun l Δ => ct_Sc_placeOf l Δ hΛ o_v0 h) o_v0 rfl (by decide) m_589 k_Sc_placeOf rfl ⟨by decide, by decide⟩ (Nat.le_of_ble_eq_true rfl) d_Sc_markLongest_33 rfl (fun r33 S33 h => ?_)
        refine pw_iload (pc := 36) hG d_Sc_markLongest_36 rfl ?_
        obtain ⟨hrx38, hry38, ha38, hb38⟩ := h
        refine pw_icmp_le (tgt := 70) (pc := 38) hG d_Sc_markLongest_38 (by decide) hrx38 hry38 (fun hc38 => ?_) (fun hc38 => ?_)
        · replace h := ha38 hc38
          refine pw_iinc0 (pc := 70) hG d_Sc_markLongest_70 rfl (by decide) rfl ?_
          refine pw_goto (tgt := 8) (pc := 73) hG d_Sc_markLongest_73 (by decide) ?_
          exact pw_sub hG [0, 1, 3, 4, 5] rfl (ih v0 v1 v3 v4 (v5 + 1) S33 o_v0 h)
        · replace h := hb38 hc38
          refine pw_aload_n (pc := 41) hG d_Sc_markLongest_41 rfl ?_
          refine g3_4 (pc := 42) hG m_272 d_Sc_markLongest_42 o_v0 ?_
          refine pw_aload_n (pc := 45) hG d_Sc_markLongest_45 rfl ?_
          refine g3_5 (pc := 46) hG m_273 d_Sc_markLongest_46 o_v0 ?_
          refine pw_iload (pc := 49) hG d_Sc_markLongest_49 rfl ?_
          obtain ⟨hi51, h⟩ := h
          refine pw_aI (pc := 51) hG (q_arr hΛ o_v0 rfl (by decide)) hi51 d_Sc_markLongest_51 ?_
          refine pw_iconst (pc := 52) hG d_Sc_markLongest_52 ?_
          obtain ⟨hi53, h⟩ := h
          refine pw_sZ (pc := 53) hG (q_arr hΛ o_v0 rfl (by decide)) hi53 (Or.inr rfl) d_Sc_markLongest_53 (fun S53 eS53 => ?_)
          replace h := h S53 eS53
          refine pw_aload_n (pc := 54) hG d_Sc_markLongest_54 rfl ?_
          refine pw_aload_n (pc := 55) hG d_Sc_markLongest_55 rfl ?_
          refine g3_5 (pc := 56) hG m_273 d_Sc_markLongest_56 o_v0 ?_
          refine pw_iload (pc := 59) hG d_Sc_markLongest_59 rfl ?_
          obtain ⟨hi61, h⟩ := h
          refine pw_aI (pc := 61) hG (q_arr hΛ o_v0 rfl (by decide)) hi61 d_Sc_markLongest_61 ?_
          refine pw_calli (pc := 62) hG (fun l Δ => ct_Sc_placeOf l Δ hΛ o_v0 h) o_v0 rfl (by decide) m_589 k_Sc_placeOf rfl ⟨by decide, by decide⟩ (Nat.le_of_ble_eq_true rfl) d_Sc_markLongest_62 rfl (fun r62 S62 h => ?_)
          refine pw_ist (pc := 65) hG d_Sc_markLongest_65 (by decide) rfl ?_
          refine pw_iinc0 (pc := 67) hG d_Sc_markLongest_67 rfl (by decide) rfl ?_
          refine pw_iinc0 (pc := 70) hG d_Sc_markLongest_70 rfl (by decide) rfl ?_
          refine pw_goto (tgt := 8) (pc := 73) hG d_Sc_markLongest_73 (by decide) ?_
          exact pw_sub hG [0, 1, 3, 4, 5] rfl (ih v0 v1 (v3 + (-1)) r62 (v5 + 1) S62 o_v0 h)
theorem b_Sc_markLongest_0 {Λ : QLay} {G : Nat → List (Nat × Value) → List Value → QMem → Prop} {Q : QMem → Prop} (hG : QAct c_Sc_markLongest "TreeDiffer$Script" 6 { frames := 1, cells := 0, slots := 0, locals := 21 } Λ G) (hR : RtV c_Sc_markLongest G Q) (v0 : Nat) (v1 : Int) (v2 : Int) (S : QMem) (o0 : qob Λ 3 v0) (h : w_Sc_markLongest Λ v0 v1 v2 S Q) : G 0 [(0, .ref v0), (1, vI v1), (2, vI v2)] [] S := by
  have hΛ := hG.lay
  unfold w_Sc_markLongest at h
  refine pw_iload_n (pc := 0) hG d_Sc_markLongest_0 rfl ?_
  refine pw_ist_n (pc := 1) hG d_Sc_markLongest_1 (by decide) rfl ?_
  refine pw_iconst (pc := 2) hG d_Sc_markLongest_2 ?_
  refine pw_ist (pc := 3) hG d_Sc_markLongest_3 (by decide) rfl ?_
  refine pw_iconst (pc := 5) hG d_Sc_markLongest_5 ?_
  refine pw_ist (pc := 6) hG d_Sc_markLongest_6 (by decide) rfl ?_
  obtain ⟨n6, h⟩ := h
  exact pw_sub hG [0, 1, 3, 4, 5] rfl (b_Sc_markLongest_8 hG hR n6 v0 v1 v2 (-1) 0 S o0 h)
theorem ct_Sc_markLongest (l : Launch) (Δ : QDl) {Λ : QLay} (hΛ : LayOk Λ) {v0 : Nat} {v1 : Int} {v2 : Int} {S : QMem} {Q : QMem → Prop} (o0 : qob Λ 3 v0) (h : w_Sc_markLongest Λ v0 v1 v2 S Q) : QCt l y_Sc_markLongest c_Sc_markLongest 6 none 1 21 Δ Λ [.ref v0, vI v1, vI v2] S (qV Q) :=
  QCt.mk (own := "TreeDiffer$Script") hΛ (by decide) rfl rfl (Nat.le_of_ble_eq_true rfl) (fun G hG ri rz rv rj ra => b_Sc_markLongest_0 hG (fun pc lv S d hq => rv pc lv S rfl d ⟨rfl, hq⟩) v0 v1 v2 S o0 h)
theorem k_Sc_addStep : QVf y_Sc_addStep c_Sc_addStep 5 (some (.object "TreeDiffer$Step")) "TreeDiffer$Script" 2 := ⟨m_604, m_p26, m_6, m_605, by decide +kernel⟩
theorem b_Sc_addStep_0 {Λ : QLay} {G : Nat → List (Nat × Value) → List Value → QMem → Prop} {Q : Nat → QMem → Prop} (hG : QAct c_Sc_addStep "TreeDiffer$Script" 5 { frames := 1, cells := 0, slots := 0, locals := 21 } Λ G) (hR : RtA c_Sc_addStep Λ 5 G Q) (v0 : Nat) (v1 : Int) (v2 : Int) (S : QMem) (o0 : qob Λ 3 v0) (h : w_Sc_addStep Λ v0 v1 v2 S Q) : G 0 [(0, .ref v0), (1, vI v1), (2, vI v2)] [] S := by
  have hΛ := hG.lay
  unfold w_Sc_addStep at h
  refine pw_aload_n (pc := 0) hG d_Sc_addStep_0 rfl ?_
  refine g3_1 (pc := 1) hG m_268 d_Sc_addStep_1 o0 ?_
  refine pw_bipush (pc := 4) hG d_Sc_addStep_4 (by decide) ?_
  obtain ⟨hrx6, hry6, h⟩ := h
  refine pw_min (pc := 6) hG m_606 d_Sc_addStep_6 hrx6 hry6 (by decide) (Nat.le_of_ble_eq_true rfl) ?_
  refine pw_istore_n (pc := 9) hG d_Sc_addStep_9 (by decide) (fun x9 ex9 => ⟨_, rfl, ?_⟩)
  replace h := h x9 ex9
  refine pw_aload_n (pc := 10) hG d_Sc_addStep_10 rfl ?_
  refine pw_iload_n (pc := 11) hG d_Sc_addStep_11 rfl ?_
  refine pw_iconst (pc := 12) hG d_Sc_addStep_12 ?_
  refine pw_iadd (pc := 13) hG d_Sc_addStep_13 ?_
  refine p3_1 (pc := 14) hG m_268 d_Sc_addStep_14 o0 (fun S14 eS14 => ?_)
  replace h := h S14 eS14
  refine pw_aload_n (pc := 17) hG d_Sc_addStep_17 rfl ?_
  refine g3_0 (pc := 18) hG m_266 d_Sc_addStep_18 o0 ?_
  refine pw_iload_n (pc := 21) hG d_Sc_addStep_21 rfl ?_
  obtain ⟨hi22, h⟩ := h
  refine pw_aO (pc := 22) hG (q_arr hΛ o0 rfl (by decide)) (Or.inr rfl) hi22 d_Sc_addStep_22 ?_
  refine pw_astore (pc := 23) hG d_Sc_addStep_23 (by decide) rfl ?_
  refine pw_aload (pc := 25) hG d_Sc_addStep_25 rfl ?_
  refine pw_iload_n (pc := 27) hG d_Sc_addStep_27 rfl ?_
  refine p5_0 (pc := 28) hG m_223 d_Sc_addStep_28 (q_rf hΛ o0 rfl hi22) (fun S28 eS28 => ?_)
  replace h := h S28 eS28
  refine pw_aload (pc := 31) hG d_Sc_addStep_31 rfl ?_
  refine pw_iload_n (pc := 33) hG d_Sc_addStep_33 rfl ?_
  refine p5_1 (pc := 34) hG m_227 d_Sc_addStep_34 (q_rf hΛ o0 rfl hi22) (fun S34 eS34 => ?_)
  replace h := h S34 eS34
  refine pw_aload (pc := 37) hG d_Sc_addStep_37 rfl ?_
  exact hR 39 _ _ _ d_Sc_addStep_39 (q_rf hΛ o0 rfl hi22) h
theorem ct_Sc_addStep (l : Launch) (Δ : QDl) {Λ : QLay} (hΛ : LayOk Λ) {v0 : Nat} {v1 : Int} {v2 : Int} {S : QMem} {Q : Nat → QMem → Prop} (o0 : qob Λ 3 v0) (h : w_Sc_addStep Λ v0 v1 v2 S Q) : QCt l y_Sc_addStep c_Sc_addStep 5 (some (.object "TreeDiffer$Step")) 1 21 Δ Λ [.ref v0, vI v1, vI v2] S (qA Λ 5 Q) :=
  QCt.mk (own := "TreeDiffer$Script") hΛ (by decide) rfl rfl (Nat.le_of_ble_eq_true rfl) (fun G hG ri rz rv rj ra => b_Sc_addStep_0 hG (fun pc lv x S d ho hq => ra pc lv x _ S rfl d ⟨x, rfl, ho, hq⟩) v0 v1 v2 S o0 h)
theorem k_Wt_takeOut : QVf y_Wt_takeOut c_Wt_takeOut 4 none "TreeDiffer$WorkTree" 1 := ⟨m_608, m_609, m_7, m_610, by decide +kernel⟩
theorem b_Wt_takeOut_25 {Λ : QLay} {G : Nat → List (Nat × Value) → List Value → QMem → Prop} {Q : QMem → Prop} (hG : QAct c_Wt_takeOut "TreeDiffer$WorkTree" 4 { frames := 1, cells := 0, slots := 0, locals := 21 } Λ G) (hR : RtV c_Wt_takeOut G Q) : ∀ (n : Nat) (v0 : Nat) (v1 : Int) (v2 : Int) (v3 : Int) (S : QMem), qob Λ 8 v0 → w_Wt_takeOut_25 Λ Q n v0 v1 v2 v3 S → G 25 [(0, .ref v0), (1, vI v1), (2, vI v2), (3, vI v3)] [] S := by
  have hΛ := hG.lay
  intro n
  induction n with
  | zero => intro v0 v1 v2 v3 S o_v0 h; exact h.elim
  | succ n ih =>
    intro v0 v1 v2 v3 S o_v0 h
    rw [w_Wt_takeOut_25] at h
    refine pw_iload_n (pc := 25) hG d_Wt_takeOut_25 rfl ?_
    refine pw_bipush (pc := 26) hG d_Wt_takeOut_26 (by decide) ?_
    obtain ⟨hrx28, ha28, hb28⟩ := h
    refine pw_icmp_ge (tgt := 72) (pc := 28) hG d_Wt_takeOut_28 (by decide) hrx28 (q_lit rfl) (fun hc28 => ?_) (fun hc28 => ?_)
    · replace h := ha28 hc28
      exact hR 72 _ _ d_Wt_takeOut_72 h
    · replace h := hb28 hc28
      refine pw_aload_n (pc := 31) hG d_Wt_takeOut_31 rfl ?_
      refine g8_2 (pc := 32) hG m_201 d_Wt_takeOut_32 o_v0 ?_
      refine pw_iload_n (pc := 35) hG d_Wt_takeOut_35 rfl ?_
      obtain ⟨hi36, h⟩ := h
      refine pw_aI (pc := 36) hG (q_arr hΛ o_v0 rfl (by decide)) hi36 d_Wt_takeOut_36 ?_
      refine pw_iload_n (pc := 37) hG d_Wt_takeOut_37 rfl ?_
      obtain ⟨hrx38, hry38, ha38, hb38⟩ := h
      refine pw_icmp_ne (tgt := 66) (pc := 38) hG d_Wt_takeOut_38 (by decide) hrx38 hry38 (fun hc38 => ?_) (fun hc38 => ?_)
      · replace h := ha38 hc38
        refine pw_iinc0 (pc := 66) hG d_Wt_takeOut_66 rfl (by decide) rfl ?_
        refine pw_goto (tgt := 25) (pc := 69) hG d_Wt_takeOut_69 (by decide) ?_
        exact pw_sub hG [0, 1, 2, 3] rfl (ih v0 v1 v2 (v3 + 1) S o_v0 h)
      · replace h := hb38 hc38
        refine pw_aload_n (pc := 41) hG d_Wt_takeOut_41 rfl ?_
        refine g8_3 (pc := 42) hG m_205 d_Wt_takeOut_42 o_v0 ?_
        refine pw_iload_n (pc := 45) hG d_Wt_takeOut_45 rfl ?_
        obtain ⟨hi46, h⟩ := h
        refine pw_aI (pc := 46) hG (q_arr hΛ o_v0 rfl (by decide)) hi46 d_Wt_takeOut_46 ?_
        refine pw_aload_n (pc := 47) hG d_Wt_takeOut_47 rfl ?_
        refine g8_3 (pc := 48) hG m_205 d_Wt_takeOut_48 o_v0 ?_
        refine pw_iload_n (pc := 51) hG d_Wt_takeOut_51 rfl ?_
        obtain ⟨hi52, h⟩ := h
        refine pw_aI (pc := 52) hG (q_arr hΛ o_v0 rfl (by decide)) hi52 d_Wt_takeOut_52 ?_
        obtain ⟨hrx53, hry53, ha53, hb53⟩ := h
        refine pw_icmp_le (tgt := 66) (pc := 53) hG d_Wt_takeOut_53 (by decide) hrx53 hry53 (fun hc53 => ?_) (fun hc53 => ?_)
        · replace h := ha53 hc53
          refine pw_iinc0 (pc := 66) hG d_Wt_takeOut_66 rfl (by decide) rfl ?_
          refine pw_goto (tgt := 25) (pc := 69) hG d_Wt_takeOut_69 (by decide) ?_
          exact pw_sub hG [0, 1, 2, 3] rfl (ih v0 v1 v2 (v3 + 1) S o_v0 h)
        · replace h := hb53 hc53
          refine pw_aload_n (pc := 56) hG d_Wt_takeOut_56 rfl ?_
          refine g8_3 (pc := 57) hG m_205 d_Wt_takeOut_57 o_v0 ?_
          refine pw_iload_n (pc := 60) hG d_Wt_takeOut_60 rfl ?_
          refine pw_dup2 (pc := 61) hG d_Wt_takeOut_61 rfl rfl ?_
          obtain ⟨hi62, h⟩ := h
          refine pw_aI (pc := 62) hG (q_arr hΛ o_v0 rfl (by decide)) hi62 d_Wt_takeOut_62 ?_
          refine pw_iconst (pc := 63) hG d_Wt_takeOut_63 ?_
          refine pw_isub (pc := 64) hG d_Wt_takeOut_64 ?_
          obtain ⟨hi65, h⟩ := h
          refine pw_sI (pc := 65) hG (q_arr hΛ o_v0 rfl (by decide)) hi65 d_Wt_takeOut_65 (fun S65 eS65 => ?_)
          replace h := h S65 eS65
          refine pw_iinc0 (pc := 66) hG d_Wt_takeOut_66 rfl (by decide) rfl ?_
          refine pw_goto (tgt := 25) (pc := 69) hG d_Wt_takeOut_69 (by decide) ?_
          exact pw_sub hG [0, 1, 2, 3] rfl (ih v0 v1 v2 (v3 + 1) S65 o_v0 h)
theorem b_Wt_takeOut_0 {Λ : QLay} {G : Nat → List (Nat × Value) → List Value → QMem → Prop} {Q : QMem → Prop} (hG : QAct c_Wt_takeOut "TreeDiffer$WorkTree" 4 { frames := 1, cells := 0, slots := 0, locals := 21 } Λ G) (hR : RtV c_Wt_takeOut G Q) (v0 : Nat) (v1 : Int) (S : QMem) (o0 : qob Λ 8 v0) (h : w_Wt_takeOut Λ v0 v1 S Q) : G 0 [(0, .ref v0), (1, vI v1)] [] S := by
  have hΛ := hG.lay
  unfold w_Wt_takeOut at h
  refine pw_aload_n (pc := 0) hG d_Wt_takeOut_0 rfl ?_
  refine pw_iload_n (pc := 1) hG d_Wt_takeOut_1 rfl ?_
  refine pw_calli (pc := 2) hG (fun l Δ => ct_Wt_has l Δ hΛ o0 h) o0 rfl (by decide) m_611 k_Wt_has rfl ⟨by decide, by decide⟩ (Nat.le_of_ble_eq_true rfl) d_Wt_takeOut_2 rfl (fun r2 S2 h => ?_)
  obtain ⟨hrx5, ha5, hb5⟩ := h
  refine pw_if_ne (tgt := 9) (pc := 5) hG d_Wt_takeOut_5 (by decide) hrx5 (fun hc5 => ?_) (fun hc5 => ?_)
  · replace h := ha5 hc5
    refine pw_aload_n (pc := 9) hG d_Wt_takeOut_9 rfl ?_
    refine g8_2 (pc := 10) hG m_201 d_Wt_takeOut_10 o0 ?_
    refine pw_iload_n (pc := 13) hG d_Wt_takeOut_13 rfl ?_
    obtain ⟨hi14, h⟩ := h
    refine pw_aI (pc := 14) hG (q_arr hΛ o0 rfl (by decide)) hi14 d_Wt_takeOut_14 ?_
    refine pw_istore_n (pc := 15) hG d_Wt_takeOut_15 (by decide) (fun x15 ex15 => ⟨_, rfl, ?_⟩)
    replace h := h x15 ex15
    refine pw_aload_n (pc := 16) hG d_Wt_takeOut_16 rfl ?_
    refine g8_2 (pc := 17) hG m_201 d_Wt_takeOut_17 o0 ?_
    refine pw_iload_n (pc := 20) hG d_Wt_takeOut_20 rfl ?_
    refine pw_iconst (pc := 21) hG d_Wt_takeOut_21 ?_
    obtain ⟨hi22, h⟩ := h
    refine pw_sI (pc := 22) hG (q_arr hΛ o0 rfl (by decide)) hi22 d_Wt_takeOut_22 (fun S22 eS22 => ?_)
    replace h := h S22 eS22
    refine pw_iconst (pc := 23) hG d_Wt_takeOut_23 ?_
    refine pw_ist_n (pc := 24) hG d_Wt_takeOut_24 (by decide) rfl ?_
    obtain ⟨n24, h⟩ := h
    exact pw_sub hG [0, 1, 2, 3] rfl (b_Wt_takeOut_25 hG hR n24 v0 v1 x15 0 S22 o0 h)
  · replace h := hb5 hc5
    exact hR 8 _ _ d_Wt_takeOut_8 h
theorem ct_Wt_takeOut (l : Launch) (Δ : QDl) {Λ : QLay} (hΛ : LayOk Λ) {v0 : Nat} {v1 : Int} {S : QMem} {Q : QMem → Prop} (o0 : qob Λ 8 v0) (h : w_Wt_takeOut Λ v0 v1 S Q) : QCt l y_Wt_takeOut c_Wt_takeOut 4 none 1 21 Δ Λ [.ref v0, vI v1] S (qV Q) :=
  QCt.mk (own := "TreeDiffer$WorkTree") hΛ (by decide) rfl rfl (Nat.le_of_ble_eq_true rfl) (fun G hG ri rz rv rj ra => b_Wt_takeOut_0 hG (fun pc lv S d hq => rv pc lv S rfl d ⟨rfl, hq⟩) v0 v1 S o0 h)
theorem k_Sc_placeFor : QVf y_Sc_placeFor c_Sc_placeFor 6 (some .int) "TreeDiffer$Script" 2 := ⟨m_617, m_p27, m_6, m_618, by decide +kernel⟩
theorem b_Sc_placeFor_16 {Λ : QLay} {G : Nat → List (Nat × Value) → List Value → QMem → Prop} {Q : Int → QMem → Prop} (hG : QAct c_Sc_placeFor "TreeDiffer$Script" 6 { frames := 0, cells := 0, slots := 0, locals := 0 } Λ G) (hR : RtI c_Sc_placeFor G Q) : ∀ (n : Nat) (v0 : Nat) (v1 : Nat) (v2 : Int) (v3 : Int) (v4 : Int) (v5 : Int) (S : QMem), qob Λ 3 v0 → qob Λ 7 v1 → w_Sc_placeFor_16 Λ Q n v0 v1 v2 v3 v4 v5 S → G 16 [(0, .ref v0), (1, .ref v1), (2, vI v2), (3, vI v3), (4, vI v4), (5, vI v5)] [] S := by
  have hΛ := hG.lay
  intro n
  induction n with
  | zero => intro v0 v1 v2 v3 v4 v5 S o_v0 o_v1 h; exact h.elim
  | succ n ih =>
    intro v0 v1 v2 v3 v4 v5 S o_v0 o_v1 h
    rw [w_Sc_placeFor_16] at h
    refine pw_iload (pc := 16) hG d_Sc_placeFor_16 rfl ?_
    refine pw_iload_n (pc := 18) hG d_Sc_placeFor_18 rfl ?_
    obtain ⟨hrx19, hry19, ha19, hb19⟩ := h
    refine pw_icmp_ge (tgt := 68) (pc := 19) hG d_Sc_placeFor_19 (by decide) hrx19 hry19 (fun hc19 => ?_) (fun hc19 => ?_)
    · replace h := ha19 hc19
      refine pw_iload_n (pc := 68) hG d_Sc_placeFor_68 rfl ?_
      exact hR 69 _ _ _ d_Sc_placeFor_69 h
    · replace h := hb19 hc19
      refine pw_aload_n (pc := 22) hG d_Sc_placeFor_22 rfl ?_
      refine g7_3 (pc := 23) hG m_54 d_Sc_placeFor_23 o_v1 ?_
      refine pw_iload (pc := 26) hG d_Sc_placeFor_26 rfl ?_
      obtain ⟨hi28, h⟩ := h
      refine pw_aI (pc := 28) hG (q_arr hΛ o_v1 rfl (by decide)) hi28 d_Sc_placeFor_28 ?_
      refine pw_iload (pc := 29) hG d_Sc_placeFor_29 rfl ?_
      obtain ⟨hrx31, hry31, ha31, hb31⟩ := h
      refine pw_icmp_ne (tgt := 62) (pc := 31) hG d_Sc_placeFor_31 (by decide) hrx31 hry31 (fun hc31 => ?_) (fun hc31 => ?_)
      · replace h := ha31 hc31
        refine pw_iinc0 (pc := 62) hG d_Sc_placeFor_62 rfl (by decide) rfl ?_
        refine pw_goto (tgt := 16) (pc := 65) hG d_Sc_placeFor_65 (by decide) ?_
        exact pw_sub hG [0, 1, 2, 3, 4, 5] rfl (ih v0 v1 v2 v3 v4 (v5 + 1) S o_v0 o_v1 h)
      · replace h := hb31 hc31
        refine pw_aload_n (pc := 34) hG d_Sc_placeFor_34 rfl ?_
        refine g3_4 (pc := 35) hG m_272 d_Sc_placeFor_35 o_v0 ?_
        refine pw_iload (pc := 38) hG d_Sc_placeFor_38 rfl ?_
        obtain ⟨hi40, h⟩ := h
        refine pw_aZ (pc := 40) hG (q_arr hΛ o_v0 rfl (by decide)) hi40 d_Sc_placeFor_40 ?_
        obtain ⟨hrx41, ha41, hb41⟩ := h
        refine pw_if_eq (tgt := 62) (pc := 41) hG d_Sc_placeFor_41 (by decide) hrx41 (fun hc41 => ?_) (fun hc41 => ?_)
        · replace h := ha41 hc41
          refine pw_iinc0 (pc := 62) hG d_Sc_placeFor_62 rfl (by decide) rfl ?_
          refine pw_goto (tgt := 16) (pc := 65) hG d_Sc_placeFor_65 (by decide) ?_
          exact pw_sub hG [0, 1, 2, 3, 4, 5] rfl (ih v0 v1 v2 v3 v4 (v5 + 1) S o_v0 o_v1 h)
        · replace h := hb41 hc41
          refine pw_aload_n (pc := 44) hG d_Sc_placeFor_44 rfl ?_
          refine g3_2 (pc := 45) hG m_270 d_Sc_placeFor_45 o_v0 ?_
          refine g8_3 (pc := 48) hG m_207 d_Sc_placeFor_48 (q_rf hΛ o_v0 rfl (by decide)) ?_
          refine pw_aload_n (pc := 51) hG d_Sc_placeFor_51 rfl ?_
          refine g3_3 (pc := 52) hG m_271 d_Sc_placeFor_52 o_v0 ?_
          refine pw_iload (pc := 55) hG d_Sc_placeFor_55 rfl ?_
          obtain ⟨hi57, h⟩ := h
          refine pw_aI (pc := 57) hG (q_arr hΛ o_v0 rfl (by decide)) hi57 d_Sc_placeFor_57 ?_
          obtain ⟨hi58, h⟩ := h
          refine pw_aI (pc := 58) hG (q_arr hΛ (q_rf hΛ o_v0 rfl (by decide)) rfl (by decide)) hi58 d_Sc_placeFor_58 ?_
          refine pw_iconst (pc := 59) hG d_Sc_placeFor_59 ?_
          refine pw_iadd (pc := 60) hG d_Sc_placeFor_60 ?_
          refine pw_istore_n (pc := 61) hG d_Sc_placeFor_61 (by decide) (fun x61 ex61 => ⟨_, rfl, ?_⟩)
          replace h := h x61 ex61
          refine pw_iinc0 (pc := 62) hG d_Sc_placeFor_62 rfl (by decide) rfl ?_
          refine pw_goto (tgt := 16) (pc := 65) hG d_Sc_placeFor_65 (by decide) ?_
          exact pw_sub hG [0, 1, 2, 3, 4, 5] rfl (ih v0 v1 v2 x61 v4 (v5 + 1) S o_v0 o_v1 h)
theorem b_Sc_placeFor_0 {Λ : QLay} {G : Nat → List (Nat × Value) → List Value → QMem → Prop} {Q : Int → QMem → Prop} (hG : QAct c_Sc_placeFor "TreeDiffer$Script" 6 { frames := 0, cells := 0, slots := 0, locals := 0 } Λ G) (hR : RtI c_Sc_placeFor G Q) (v0 : Nat) (v1 : Nat) (v2 : Int) (S : QMem) (o0 : qob Λ 3 v0) (o1 : qob Λ 7 v1) (h : w_Sc_placeFor Λ v0 v1 v2 S Q) : G 0 [(0, .ref v0), (1, .ref v1), (2, vI v2)] [] S := by
  have hΛ := hG.lay
  unfold w_Sc_placeFor at h
  refine pw_iconst (pc := 0) hG d_Sc_placeFor_0 ?_
  refine pw_ist_n (pc := 1) hG d_Sc_placeFor_1 (by decide) rfl ?_
  refine pw_aload_n (pc := 2) hG d_Sc_placeFor_2 rfl ?_
  refine g7_3 (pc := 3) hG m_54 d_Sc_placeFor_3 o1 ?_
  refine pw_iload_n (pc := 6) hG d_Sc_placeFor_6 rfl ?_
  obtain ⟨hi7, h⟩ := h
  refine pw_aI (pc := 7) hG (q_arr hΛ o1 rfl (by decide)) hi7 d_Sc_placeFor_7 ?_
  refine pw_istore (pc := 8) hG d_Sc_placeFor_8 (by decide) (fun x8 ex8 => ⟨_, rfl, ?_⟩)
  replace h := h x8 ex8
  refine pw_iload (pc := 10) hG d_Sc_placeFor_10 rfl ?_
  refine pw_iconst (pc := 12) hG d_Sc_placeFor_12 ?_
  refine pw_iadd (pc := 13) hG d_Sc_placeFor_13 ?_
  refine pw_istore (pc := 14) hG d_Sc_placeFor_14 (by decide) (fun x14 ex14 => ⟨_, rfl, ?_⟩)
  replace h := h x14 ex14
  obtain ⟨n14, h⟩ := h
  exact pw_sub hG [0, 1, 2, 3, 4, 5] rfl (b_Sc_placeFor_16 hG hR n14 v0 v1 v2 0 x8 x14 S o0 o1 h)
theorem ct_Sc_placeFor (l : Launch) (Δ : QDl) {Λ : QLay} (hΛ : LayOk Λ) {v0 : Nat} {v1 : Nat} {v2 : Int} {S : QMem} {Q : Int → QMem → Prop} (o0 : qob Λ 3 v0) (o1 : qob Λ 7 v1) (h : w_Sc_placeFor Λ v0 v1 v2 S Q) : QCt l y_Sc_placeFor c_Sc_placeFor 6 (some .int) 0 0 Δ Λ [.ref v0, .ref v1, vI v2] S (qI Q) :=
  QCt.mk (own := "TreeDiffer$Script") hΛ (by decide) rfl rfl (Nat.le_of_ble_eq_true rfl) (fun G hG ri rz rv rj ra => b_Sc_placeFor_0 hG (fun pc lv x S d hq => ri pc lv x S rfl d ⟨x, rfl, hq⟩) v0 v1 v2 S o0 o1 h)
theorem k_Wt_putIn : QVf y_Wt_putIn c_Wt_putIn 5 none "TreeDiffer$WorkTree" 3 := ⟨m_620, m_621, m_7, m_622, by decide +kernel⟩
theorem b_Wt_putIn_3 {Λ : QLay} {G : Nat → List (Nat × Value) → List Value → QMem → Prop} {Q : QMem → Prop} (hG : QAct c_Wt_putIn "TreeDiffer$WorkTree" 5 { frames := 0, cells := 0, slots := 0, locals := 0 } Λ G) (hR : RtV c_Wt_putIn G Q) : ∀ (n : Nat) (v0 : Nat) (v1 : Int) (v2 : Int) (v3 : Int) (v4 : Int) (S : QMem), qob Λ 8 v0 → w_Wt_putIn_3 Λ Q n v0 v1 v2 v3 v4 S → G 3 [(0, .ref v0), (1, vI v1), (2, vI v2), (3, vI v3), (4, vI v4)] [] S := by
  have hΛ := hG.lay
  intro n
  induction n with
  | zero => intro v0 v1 v2 v3 v4 S o_v0 h; exact h.elim
  | succ n ih =>
    intro v0 v1 v2 v3 v4 S o_v0 h
    rw [w_Wt_putIn_3] at h
    refine pw_iload (pc := 3) hG d_Wt_putIn_3 rfl ?_
    refine pw_bipush (pc := 5) hG d_Wt_putIn_5 (by decide) ?_
    obtain ⟨hrx7, ha7, hb7⟩ := h
    refine pw_icmp_ge (tgt := 49) (pc := 7) hG d_Wt_putIn_7 (by decide) hrx7 (q_lit rfl) (fun hc7 => ?_) (fun hc7 => ?_)
    · replace h := ha7 hc7
      refine pw_aload_n (pc := 49) hG d_Wt_putIn_49 rfl ?_
      refine g8_2 (pc := 50) hG m_201 d_Wt_putIn_50 o_v0 ?_
      refine pw_iload_n (pc := 53) hG d_Wt_putIn_53 rfl ?_
      refine pw_iload_n (pc := 54) hG d_Wt_putIn_54 rfl ?_
      obtain ⟨hi55, h⟩ := h
      refine pw_sI (pc := 55) hG (q_arr hΛ o_v0 rfl (by decide)) hi55 d_Wt_putIn_55 (fun S55 eS55 => ?_)
      replace h := h S55 eS55
      refine pw_aload_n (pc := 56) hG d_Wt_putIn_56 rfl ?_
      refine g8_3 (pc := 57) hG m_205 d_Wt_putIn_57 o_v0 ?_
      refine pw_iload_n (pc := 60) hG d_Wt_putIn_60 rfl ?_
      refine pw_iload_n (pc := 61) hG d_Wt_putIn_61 rfl ?_
      obtain ⟨hi62, h⟩ := h
      refine pw_sI (pc := 62) hG (q_arr hΛ o_v0 rfl (by decide)) hi62 d_Wt_putIn_62 (fun S62 eS62 => ?_)
      replace h := h S62 eS62
      exact hR 63 _ _ d_Wt_putIn_63 h
    · replace h := hb7 hc7
      refine pw_aload_n (pc := 10) hG d_Wt_putIn_10 rfl ?_
      refine g8_2 (pc := 11) hG m_201 d_Wt_putIn_11 o_v0 ?_
      refine pw_iload (pc := 14) hG d_Wt_putIn_14 rfl ?_
      obtain ⟨hi16, h⟩ := h
      refine pw_aI (pc := 16) hG (q_arr hΛ o_v0 rfl (by decide)) hi16 d_Wt_putIn_16 ?_
      refine pw_iload_n (pc := 17) hG d_Wt_putIn_17 rfl ?_
      obtain ⟨hrx18, hry18, ha18, hb18⟩ := h
      refine pw_icmp_ne (tgt := 43) (pc := 18) hG d_Wt_putIn_18 (by decide) hrx18 hry18 (fun hc18 => ?_) (fun hc18 => ?_)
      · replace h := ha18 hc18
        refine pw_iinc0 (pc := 43) hG d_Wt_putIn_43 rfl (by decide) rfl ?_
        refine pw_goto (tgt := 3) (pc := 46) hG d_Wt_putIn_46 (by decide) ?_
        exact pw_sub hG [0, 1, 2, 3, 4] rfl (ih v0 v1 v2 v3 (v4 + 1) S o_v0 h)
      · replace h := hb18 hc18
        refine pw_aload_n (pc := 21) hG d_Wt_putIn_21 rfl ?_
        refine g8_3 (pc := 22) hG m_205 d_Wt_putIn_22 o_v0 ?_
        refine pw_iload (pc := 25) hG d_Wt_putIn_25 rfl ?_
        obtain ⟨hi27, h⟩ := h
        refine pw_aI (pc := 27) hG (q_arr hΛ o_v0 rfl (by decide)) hi27 d_Wt_putIn_27 ?_
        refine pw_iload_n (pc := 28) hG d_Wt_putIn_28 rfl ?_
        obtain ⟨hrx29, hry29, ha29, hb29⟩ := h
        refine pw_icmp_lt (tgt := 43) (pc := 29) hG d_Wt_putIn_29 (by decide) hrx29 hry29 (fun hc29 => ?_) (fun hc29 => ?_)
        · replace h := ha29 hc29
          refine pw_iinc0 (pc := 43) hG d_Wt_putIn_43 rfl (by decide) rfl ?_
          refine pw_goto (tgt := 3) (pc := 46) hG d_Wt_putIn_46 (by decide) ?_
          exact pw_sub hG [0, 1, 2, 3, 4] rfl (ih v0 v1 v2 v3 (v4 + 1) S o_v0 h)
        · replace h := hb29 hc29
          refine pw_aload_n (pc := 32) hG d_Wt_putIn_32 rfl ?_
          refine g8_3 (pc := 33) hG m_205 d_Wt_putIn_33 o_v0 ?_
          refine pw_iload (pc := 36) hG d_Wt_putIn_36 rfl ?_
          refine pw_dup2 (pc := 38) hG d_Wt_putIn_38 rfl rfl ?_
          obtain ⟨hi39, h⟩ := h
          refine pw_aI (pc := 39) hG (q_arr hΛ o_v0 rfl (by decide)) hi39 d_Wt_putIn_39 ?_
          refine pw_iconst (pc := 40) hG d_Wt_putIn_40 ?_
          refine pw_iadd (pc := 41) hG d_Wt_putIn_41 ?_
          obtain ⟨hi42, h⟩ := h
          refine pw_sI (pc := 42) hG (q_arr hΛ o_v0 rfl (by decide)) hi42 d_Wt_putIn_42 (fun S42 eS42 => ?_)
          replace h := h S42 eS42
          refine pw_iinc0 (pc := 43) hG d_Wt_putIn_43 rfl (by decide) rfl ?_
          refine pw_goto (tgt := 3) (pc := 46) hG d_Wt_putIn_46 (by decide) ?_
          exact pw_sub hG [0, 1, 2, 3, 4] rfl (ih v0 v1 v2 v3 (v4 + 1) S42 o_v0 h)
theorem b_Wt_putIn_0 {Λ : QLay} {G : Nat → List (Nat × Value) → List Value → QMem → Prop} {Q : QMem → Prop} (hG : QAct c_Wt_putIn "TreeDiffer$WorkTree" 5 { frames := 0, cells := 0, slots := 0, locals := 0 } Λ G) (hR : RtV c_Wt_putIn G Q) (v0 : Nat) (v1 : Int) (v2 : Int) (v3 : Int) (S : QMem) (o0 : qob Λ 8 v0) (h : w_Wt_putIn Λ v0 v1 v2 v3 S Q) : G 0 [(0, .ref v0), (1, vI v1), (2, vI v2), (3, vI v3)] [] S := by
  have hΛ := hG.lay
  unfold w_Wt_putIn at h
  refine pw_iconst (pc := 0) hG d_Wt_putIn_0 ?_
  refine pw_ist (pc := 1) hG d_Wt_putIn_1 (by decide) rfl ?_
  obtain ⟨n1, h⟩ := h
  exact pw_sub hG [0, 1, 2, 3, 4] rfl (b_Wt_putIn_3 hG hR n1 v0 v1 v2 v3 0 S o0 h)
theorem ct_Wt_putIn (l : Launch) (Δ : QDl) {Λ : QLay} (hΛ : LayOk Λ) {v0 : Nat} {v1 : Int} {v2 : Int} {v3 : Int} {S : QMem} {Q : QMem → Prop} (o0 : qob Λ 8 v0) (h : w_Wt_putIn Λ v0 v1 v2 v3 S Q) : QCt l y_Wt_putIn c_Wt_putIn 5 none 0 0 Δ Λ [.ref v0, vI v1, vI v2, vI v3] S (qV Q) :=
  QCt.mk (own := "TreeDiffer$WorkTree") hΛ (by decide) rfl rfl (Nat.le_of_ble_eq_true rfl) (fun G hG ri rz rv rj ra => b_Wt_putIn_0 hG (fun pc lv S d hq => rv pc lv S rfl d ⟨rfl, hq⟩) v0 v1 v2 v3 S o0 h)
theorem k_Sc_move : QVf y_Sc_move c_Sc_move 5 none "TreeDiffer$Script" 2 := ⟨m_600, m_p25, m_6, m_601, by decide +kernel⟩
theorem b_Sc_move_0 {Λ : QLay} {G : Nat → List (Nat × Value) → List Value → QMem → Prop} {Q : QMem → Prop} (hG : QAct c_Sc_move "TreeDiffer$Script" 5 { frames := 2, cells := 0, slots := 0, locals := 45 } Λ G) (hR : RtV c_Sc_move G Q) (v0 : Nat) (v1 : Nat) (v2 : Int) (S : QMem) (o0 : qob Λ 3 v0) (o1 : qob Λ 7 v1) (h : w_Sc_move Λ v0 v1 v2 S Q) : G 0 [(0, .ref v0), (1, .ref v1), (2, vI v2)] [] S := by
  have hΛ := hG.lay
  unfold w_Sc_move at h
  refine pw_aload_n (pc := 0) hG d_Sc_move_0 rfl ?_
  refine g3_3 (pc := 1) hG m_271 d_Sc_move_1 o0 ?_
  refine pw_iload_n (pc := 4) hG d_Sc_move_4 rfl ?_
  obtain ⟨hi5, h⟩ := h
  refine pw_aI (pc := 5) hG (q_arr hΛ o0 rfl (by decide)) hi5 d_Sc_move_5 ?_
  refine pw_istore_n (pc := 6) hG d_Sc_move_6 (by decide) (fun x6 ex6 => ⟨_, rfl, ?_⟩)
  replace h := h x6 ex6
  refine pw_aload_n (pc := 7) hG d_Sc_move_7 rfl ?_
  refine pw_iconst (pc := 8) hG d_Sc_move_8 ?_
  refine pw_iload_n (pc := 9) hG d_Sc_move_9 rfl ?_
  refine pw_callr (pc := 10) hG (fun l Δ => ct_Sc_addStep l Δ hΛ o0 h) o0 rfl (by decide) m_602 k_Sc_addStep rfl ⟨by decide, by decide⟩ (Nat.le_of_ble_eq_true rfl) d_Sc_move_10 rfl (fun r10 or10 S10 h => ?_)
  refine pw_astore (pc := 13) hG d_Sc_move_13 (by decide) rfl ?_
  refine pw_aload (pc := 15) hG d_Sc_move_15 rfl ?_
  refine pw_aload_n (pc := 17) hG d_Sc_move_17 rfl ?_
  refine g3_2 (pc := 18) hG m_270 d_Sc_move_18 o0 ?_
  refine g8_2 (pc := 21) hG m_203 d_Sc_move_21 (q_rf hΛ o0 rfl (by decide)) ?_
  refine pw_iload_n (pc := 24) hG d_Sc_move_24 rfl ?_
  obtain ⟨hi25, h⟩ := h
  refine pw_aI (pc := 25) hG (q_arr hΛ (q_rf hΛ o0 rfl (by decide)) rfl (by decide)) hi25 d_Sc_move_25 ?_
  refine p5_6 (pc := 26) hG m_241 d_Sc_move_26 or10 (fun S26 eS26 => ?_)
  replace h := h S26 eS26
  refine pw_aload (pc := 29) hG d_Sc_move_29 rfl ?_
  refine pw_aload_n (pc := 31) hG d_Sc_move_31 rfl ?_
  refine g3_2 (pc := 32) hG m_270 d_Sc_move_32 o0 ?_
  refine g8_3 (pc := 35) hG m_207 d_Sc_move_35 (q_rf hΛ o0 rfl (by decide)) ?_
  refine pw_iload_n (pc := 38) hG d_Sc_move_38 rfl ?_
  obtain ⟨hi39, h⟩ := h
  refine pw_aI (pc := 39) hG (q_arr hΛ (q_rf hΛ o0 rfl (by decide)) rfl (by decide)) hi39 d_Sc_move_39 ?_
  refine p5_7 (pc := 40) hG m_243 d_Sc_move_40 or10 (fun S40 eS40 => ?_)
  replace h := h S40 eS40
  refine pw_aload (pc := 43) hG d_Sc_move_43 rfl ?_
  refine pw_aload_n (pc := 45) hG d_Sc_move_45 rfl ?_
  refine pw_aload_n (pc := 46) hG d_Sc_move_46 rfl ?_
  refine g7_3 (pc := 47) hG m_54 d_Sc_move_47 o1 ?_
  refine pw_iload_n (pc := 50) hG d_Sc_move_50 rfl ?_
  obtain ⟨hi51, h⟩ := h
  refine pw_aI (pc := 51) hG (q_arr hΛ o1 rfl (by decide)) hi51 d_Sc_move_51 ?_
  refine pw_calli (pc := 52) hG (fun l Δ => ct_Sc_partnerOf l Δ hΛ o0 h) o0 rfl (by decide) m_577 k_Sc_partnerOf rfl ⟨by decide, by decide⟩ (Nat.le_of_ble_eq_true rfl) d_Sc_move_52 rfl (fun r52 S52 h => ?_)
  refine p5_2 (pc := 55) hG m_230 d_Sc_move_55 or10 (fun S55 eS55 => ?_)
  replace h := h S55 eS55
  refine pw_aload_n (pc := 58) hG d_Sc_move_58 rfl ?_
  refine g3_2 (pc := 59) hG m_270 d_Sc_move_59 o0 ?_
  refine pw_iload_n (pc := 62) hG d_Sc_move_62 rfl ?_
  refine pw_callv (pc := 63) hG (fun l Δ => ct_Wt_takeOut l Δ hΛ (q_rf hΛ o0 rfl (by decide)) h) (q_rf hΛ o0 rfl (by decide)) rfl (by decide) m_607 k_Wt_takeOut rfl ⟨by decide, by decide⟩ (Nat.le_of_ble_eq_true rfl) d_Sc_move_63 rfl (fun S63 h => ?_)
  refine pw_aload (pc := 66) hG d_Sc_move_66 rfl ?_
  refine pw_aload_n (pc := 68) hG d_Sc_move_68 rfl ?_
  refine pw_aload_n (pc := 69) hG d_Sc_move_69 rfl ?_
  refine pw_iload_n (pc := 70) hG d_Sc_move_70 rfl ?_
  refine pw_calli (pc := 71) hG (fun l Δ => ct_Sc_placeFor l Δ hΛ o0 o1 h) o0 rfl (by decide) m_615 k_Sc_placeFor rfl ⟨by decide, by decide⟩ (Nat.le_of_ble_eq_true rfl) d_Sc_move_71 rfl (fun r71 S71 h => ?_)
  refine p5_3 (pc := 74) hG m_233 d_Sc_move_74 or10 (fun S74 eS74 => ?_)
  replace h := h S74 eS74
  refine pw_aload_n (pc := 77) hG d_Sc_move_77 rfl ?_
  refine g3_2 (pc := 78) hG m_270 d_Sc_move_78 o0 ?_
  refine pw_iload_n (pc := 81) hG d_Sc_move_81 rfl ?_
  refine pw_aload (pc := 82) hG d_Sc_move_82 rfl ?_
  refine g5_2 (pc := 84) hG m_230 d_Sc_move_84 or10 ?_
  refine pw_aload (pc := 87) hG d_Sc_move_87 rfl ?_
  refine g5_3 (pc := 89) hG m_233 d_Sc_move_89 or10 ?_
  refine pw_callv (pc := 92) hG (fun l Δ => ct_Wt_putIn l Δ hΛ (q_rf hΛ o0 rfl (by decide)) h) (q_rf hΛ o0 rfl (by decide)) rfl (by decide) m_619 k_Wt_putIn rfl ⟨by decide, by decide⟩ (Nat.le_of_ble_eq_true rfl) d_Sc_move_92 rfl (fun S92 h => ?_)
  refine pw_aload_n (pc := 95) hG d_Sc_move_95 rfl ?_
  refine g3_4 (pc := 96) hG m_272 d_Sc_move_96 o0 ?_
  refine pw_iload_n (pc := 99) hG d_Sc_move_99 rfl ?_
  refine pw_iconst (pc := 100) hG d_Sc_move_100 ?_
  obtain ⟨hi101, h⟩ := h
  refine pw_sZ (pc := 101) hG (q_arr hΛ o0 rfl (by decide)) hi101 (Or.inr rfl) d_Sc_move_101 (fun S101 eS101 => ?_)
  replace h := h S101 eS101
  exact hR 102 _ _ d_Sc_move_102 h
theorem ct_Sc_move (l : Launch) (Δ : QDl) {Λ : QLay} (hΛ : LayOk Λ) {v0 : Nat} {v1 : Nat} {v2 : Int} {S : QMem} {Q : QMem → Prop} (o0 : qob Λ 3 v0) (o1 : qob Λ 7 v1) (h : w_Sc_move Λ v0 v1 v2 S Q) : QCt l y_Sc_move c_Sc_move 5 none 2 45 Δ Λ [.ref v0, .ref v1, vI v2] S (qV Q) :=
  QCt.mk (own := "TreeDiffer$Script") hΛ (by decide) rfl rfl (Nat.le_of_ble_eq_true rfl) (fun G hG ri rz rv rj ra => b_Sc_move_0 hG (fun pc lv S d hq => rv pc lv S rfl d ⟨rfl, hq⟩) v0 v1 v2 S o0 o1 h)
