theorem k_Tr_endOf : QVf y_Tr_endOf c_Tr_endOf 2 (some .int) "TreeDiffer$Tree" 1 := ⟨m_484, m_485, m_3, m_486, by decide +kernel⟩
theorem b_Tr_endOf_0 {Λ : QLay} {G : Nat → List (Nat × Value) → List Value → QMem → Prop} {Q : Int → QMem → Prop} (hG : QAct c_Tr_endOf "TreeDiffer$Tree" 2 { frames := 0, cells := 0, slots := 0, locals := 0 } Λ G) (hR : RtI c_Tr_endOf G Q) (v0 : Nat) (v1 : Int) (S : QMem) (o0 : qob Λ 7 v0) (h : w_Tr_endOf Λ v0 v1 S Q) : G 0 [(0, .ref v0), (1, vI v1)] [] S := by
  have hΛ := hG.lay
  unfold w_Tr_endOf at h
  refine pw_iload_n (pc := 0) hG d_Tr_endOf_0 rfl ?_
  obtain ⟨hrx1, ha1, hb1⟩ := h
  refine pw_if_ge (tgt := 11) (pc := 1) hG d_Tr_endOf_1 (by decide) hrx1 (fun hc1 => ?_) (fun hc1 => ?_)
  · replace h := ha1 hc1
    refine pw_iload_n (pc := 11) hG d_Tr_endOf_11 rfl ?_
    refine pw_iconst (pc := 12) hG d_Tr_endOf_12 ?_
    refine pw_iadd (pc := 13) hG d_Tr_endOf_13 ?_
    refine pw_aload_n (pc := 14) hG d_Tr_endOf_14 rfl ?_
    refine g7_7 (pc := 15) hG m_65 d_Tr_endOf_15 o0 ?_
    refine pw_iload_n (pc := 18) hG d_Tr_endOf_18 rfl ?_
    obtain ⟨hi19, h⟩ := h
    refine pw_aI (pc := 19) hG (q_arr hΛ o0 rfl (by decide)) hi19 d_Tr_endOf_19 ?_
    refine pw_iadd (pc := 20) hG d_Tr_endOf_20 ?_
    exact hR 21 _ _ _ d_Tr_endOf_21 h
  · replace h := hb1 hc1
    refine pw_aload_n (pc := 4) hG d_Tr_endOf_4 rfl ?_
    refine g7_0 (pc := 5) hG m_33 d_Tr_endOf_5 o0 ?_
    refine pw_goto (tgt := 21) (pc := 8) hG d_Tr_endOf_8 (by decide) ?_
    exact hR 21 _ _ _ d_Tr_endOf_21 h
theorem ct_Tr_endOf (l : Launch) (Δ : QDl) {Λ : QLay} (hΛ : LayOk Λ) {v0 : Nat} {v1 : Int} {S : QMem} {Q : Int → QMem → Prop} (o0 : qob Λ 7 v0) (h : w_Tr_endOf Λ v0 v1 S Q) : QCt l y_Tr_endOf c_Tr_endOf 2 (some .int) 0 0 Δ Λ [.ref v0, vI v1] S (qI Q) :=
  QCt.mk (own := "TreeDiffer$Tree") hΛ (by decide) rfl rfl (Nat.le_of_ble_eq_true rfl) (fun G hG ri rz rv rj ra => b_Tr_endOf_0 hG (fun pc lv x S d hq => ri pc lv x S rfl d ⟨x, rfl, hq⟩) v0 v1 S o0 h)
theorem k_ED_isKey : QSf y_ED_isKey c_ED_isKey 3 (some .boolean) "TreeDiffer$EditDistance" 2 := ⟨m_692, m_9, m_693, by decide +kernel⟩
theorem b_ED_isKey_0 {Λ : QLay} {G : Nat → List (Nat × Value) → List Value → QMem → Prop} {Q : Int → QMem → Prop} (hG : QAct c_ED_isKey "TreeDiffer$EditDistance" 3 { frames := 1, cells := 0, slots := 0, locals := 21 } Λ G) (hR : RtZ c_ED_isKey G Q) (v0 : Nat) (v1 : Int) (S : QMem) (o0 : qob Λ 7 v0) (h : w_ED_isKey Λ v0 v1 S Q) : G 0 [(0, .ref v0), (1, vI v1)] [] S := by
  have hΛ := hG.lay
  unfold w_ED_isKey at h
  refine pw_aload_n (pc := 0) hG d_ED_isKey_0 rfl ?_
  refine g7_3 (pc := 1) hG m_53 d_ED_isKey_1 o0 ?_
  refine pw_iload_n (pc := 4) hG d_ED_isKey_4 rfl ?_
  obtain ⟨hi5, h⟩ := h
  refine pw_aI (pc := 5) hG (q_arr hΛ o0 rfl (by decide)) hi5 d_ED_isKey_5 ?_
  refine pw_istore_n (pc := 6) hG d_ED_isKey_6 (by decide) (fun x6 ex6 => ⟨_, rfl, ?_⟩)
  replace h := h x6 ex6
  refine pw_iload_n (pc := 7) hG d_ED_isKey_7 rfl ?_
  obtain ⟨hrx8, ha8, hb8⟩ := h
  refine pw_if_lt (tgt := 24) (pc := 8) hG d_ED_isKey_8 (by decide) hrx8 (fun hc8 => ?_) (fun hc8 => ?_)
  · replace h := ha8 hc8
    refine pw_iconst (pc := 24) hG d_ED_isKey_24 ?_
    refine pw_goto (tgt := 29) (pc := 25) hG d_ED_isKey_25 (by decide) ?_
    exact hR 29 _ _ _ d_ED_isKey_29 (Or.inr rfl) h
  · replace h := hb8 hc8
    refine pw_aload_n (pc := 11) hG d_ED_isKey_11 rfl ?_
    refine pw_iload_n (pc := 12) hG d_ED_isKey_12 rfl ?_
    refine pw_calli (pc := 13) hG (fun l Δ => ct_Tr_endOf l Δ hΛ o0 h) o0 rfl (by decide) m_694 k_Tr_endOf rfl ⟨by decide, by decide⟩ (Nat.le_of_ble_eq_true rfl) d_ED_isKey_13 rfl (fun r13 S13 h => ?_)
    refine pw_aload_n (pc := 16) hG d_ED_isKey_16 rfl ?_
    refine pw_iload_n (pc := 17) hG d_ED_isKey_17 rfl ?_
    refine pw_calli (pc := 18) hG (fun l Δ => ct_Tr_endOf l Δ hΛ o0 h) o0 rfl (by decide) m_694 k_Tr_endOf rfl ⟨by decide, by decide⟩ (Nat.le_of_ble_eq_true rfl) d_ED_isKey_18 rfl (fun r18 S18 h => ?_)
    obtain ⟨hrx21, hry21, ha21, hb21⟩ := h
    refine pw_icmp_eq (tgt := 28) (pc := 21) hG d_ED_isKey_21 (by decide) hrx21 hry21 (fun hc21 => ?_) (fun hc21 => ?_)
    · replace h := ha21 hc21
      refine pw_iconst (pc := 28) hG d_ED_isKey_28 ?_
      exact hR 29 _ _ _ d_ED_isKey_29 (Or.inl rfl) h
    · replace h := hb21 hc21
      refine pw_iconst (pc := 24) hG d_ED_isKey_24 ?_
      refine pw_goto (tgt := 29) (pc := 25) hG d_ED_isKey_25 (by decide) ?_
      exact hR 29 _ _ _ d_ED_isKey_29 (Or.inr rfl) h
theorem ct_ED_isKey (l : Launch) (Δ : QDl) {Λ : QLay} (hΛ : LayOk Λ) {v0 : Nat} {v1 : Int} {S : QMem} {Q : Int → QMem → Prop} (o0 : qob Λ 7 v0) (h : w_ED_isKey Λ v0 v1 S Q) : QCt l y_ED_isKey c_ED_isKey 3 (some .boolean) 1 21 Δ Λ [.ref v0, vI v1] S (qI Q) :=
  QCt.mk (own := "TreeDiffer$EditDistance") hΛ (by decide) rfl rfl (Nat.le_of_ble_eq_true rfl) (fun G hG ri rz rv rj ra => b_ED_isKey_0 hG (fun pc lv x S d hb hq => rz pc lv x S rfl d hb ⟨x, rfl, hq⟩) v0 v1 S o0 h)
theorem k_Se_haveSameContent : QVf y_Se_haveSameContent c_Se_haveSameContent 3 (some .boolean) "TreeDiffer$Setup" 2 := ⟨m_496, m_497, m_4, m_498, by decide +kernel⟩
theorem b_Se_haveSameContent_0 {Λ : QLay} {G : Nat → List (Nat × Value) → List Value → QMem → Prop} {Q : Int → QMem → Prop} (hG : QAct c_Se_haveSameContent "TreeDiffer$Setup" 3 { frames := 0, cells := 0, slots := 0, locals := 0 } Λ G) (hR : RtZ c_Se_haveSameContent G Q) (v0 : Nat) (v1 : Int) (v2 : Int) (S : QMem) (o0 : qob Λ 4 v0) (h : w_Se_haveSameContent Λ v0 v1 v2 S Q) : G 0 [(0, .ref v0), (1, vI v1), (2, vI v2)] [] S := by
  have hΛ := hG.lay
  unfold w_Se_haveSameContent at h
  refine pw_aload_n (pc := 0) hG d_Se_haveSameContent_0 rfl ?_
  refine pw_getP (pc := 1) hG o0 0 (Or.inl rfl) m_128 d_Se_haveSameContent_1 (fun t1 et1 ot1 => ?_)
  replace h := h t1 et1
  refine g7_1 (pc := 4) hG m_42 d_Se_haveSameContent_4 ot1 ?_
  refine pw_iload_n (pc := 7) hG d_Se_haveSameContent_7 rfl ?_
  obtain ⟨hi8, h⟩ := h
  refine pw_aI (pc := 8) hG (q_arr hΛ ot1 rfl (by decide)) hi8 d_Se_haveSameContent_8 ?_
  refine pw_aload_n (pc := 9) hG d_Se_haveSameContent_9 rfl ?_
  refine pw_getP (pc := 10) hG o0 1 (Or.inr rfl) m_133 d_Se_haveSameContent_10 (fun t10 et10 ot10 => ?_)
  replace h := h t10 et10
  refine g7_1 (pc := 13) hG m_42 d_Se_haveSameContent_13 ot10 ?_
  refine pw_iload_n (pc := 16) hG d_Se_haveSameContent_16 rfl ?_
  obtain ⟨hi17, h⟩ := h
  refine pw_aI (pc := 17) hG (q_arr hΛ ot10 rfl (by decide)) hi17 d_Se_haveSameContent_17 ?_
  obtain ⟨hrx18, hry18, ha18, hb18⟩ := h
  refine pw_icmp_ne (tgt := 46) (pc := 18) hG d_Se_haveSameContent_18 (by decide) hrx18 hry18 (fun hc18 => ?_) (fun hc18 => ?_)
  · replace h := ha18 hc18
    refine pw_iconst (pc := 46) hG d_Se_haveSameContent_46 ?_
    exact hR 47 _ _ _ d_Se_haveSameContent_47 (Or.inl rfl) h
  · replace h := hb18 hc18
    refine pw_aload_n (pc := 21) hG d_Se_haveSameContent_21 rfl ?_
    refine pw_getP (pc := 22) hG o0 0 (Or.inl rfl) m_128 d_Se_haveSameContent_22 (fun t22 et22 ot22 => ?_)
    replace h := h t22 et22
    refine g7_2 (pc := 25) hG m_48 d_Se_haveSameContent_25 ot22 ?_
    refine pw_iload_n (pc := 28) hG d_Se_haveSameContent_28 rfl ?_
    obtain ⟨hi29, h⟩ := h
    refine pw_aI (pc := 29) hG (q_arr hΛ ot22 rfl (by decide)) hi29 d_Se_haveSameContent_29 ?_
    refine pw_aload_n (pc := 30) hG d_Se_haveSameContent_30 rfl ?_
    refine pw_getP (pc := 31) hG o0 1 (Or.inr rfl) m_133 d_Se_haveSameContent_31 (fun t31 et31 ot31 => ?_)
    replace h := h t31 et31
    refine g7_2 (pc := 34) hG m_48 d_Se_haveSameContent_34 ot31 ?_
    refine pw_iload_n (pc := 37) hG d_Se_haveSameContent_37 rfl ?_
    obtain ⟨hi38, h⟩ := h
    refine pw_aI (pc := 38) hG (q_arr hΛ ot31 rfl (by decide)) hi38 d_Se_haveSameContent_38 ?_
    obtain ⟨hrx39, hry39, ha39, hb39⟩ := h
    refine pw_icmp_ne (tgt := 46) (pc := 39) hG d_Se_haveSameContent_39 (by decide) hrx39 hry39 (fun hc39 => ?_) (fun hc39 => ?_)
    · replace h := ha39 hc39
      refine pw_iconst (pc := 46) hG d_Se_haveSameContent_46 ?_
      exact hR 47 _ _ _ d_Se_haveSameContent_47 (Or.inl rfl) h
    · replace h := hb39 hc39
      refine pw_iconst (pc := 42) hG d_Se_haveSameContent_42 ?_
      refine pw_goto (tgt := 47) (pc := 43) hG d_Se_haveSameContent_43 (by decide) ?_
      exact hR 47 _ _ _ d_Se_haveSameContent_47 (Or.inr rfl) h
theorem ct_Se_haveSameContent (l : Launch) (Δ : QDl) {Λ : QLay} (hΛ : LayOk Λ) {v0 : Nat} {v1 : Int} {v2 : Int} {S : QMem} {Q : Int → QMem → Prop} (o0 : qob Λ 4 v0) (h : w_Se_haveSameContent Λ v0 v1 v2 S Q) : QCt l y_Se_haveSameContent c_Se_haveSameContent 3 (some .boolean) 0 0 Δ Λ [.ref v0, vI v1, vI v2] S (qI Q) :=
  QCt.mk (own := "TreeDiffer$Setup") hΛ (by decide) rfl rfl (Nat.le_of_ble_eq_true rfl) (fun G hG ri rz rv rj ra => b_Se_haveSameContent_0 hG (fun pc lv x S d hb hq => rz pc lv x S rfl d hb ⟨x, rfl, hq⟩) v0 v1 v2 S o0 h)
theorem k_ED_compareSubtrees : QVf y_ED_compareSubtrees c_ED_compareSubtrees 12 none "TreeDiffer$EditDistance" 3 := ⟨m_697, m_p32, m_9, m_698, by decide +kernel⟩
theorem b_ED_compareSubtrees_223 {Λ : QLay} {G : Nat → List (Nat × Value) → List Value → QMem → Prop} {Q : QMem → Prop} (hG : QAct c_ED_compareSubtrees "TreeDiffer$EditDistance" 12 { frames := 1, cells := 0, slots := 0, locals := 22 } Λ G) (hR : RtV c_ED_compareSubtrees G Q) {K88 : Nat → Nat → Int → Int → Int → Int → Int → QMem → Prop} {K100 : Nat → Nat → Int → Int → Int → Int → Int → Int → QMem → Prop} (hK88 : ∀ (v0 : Nat) (v1 : Nat) (v2 : Int) (v3 : Int) (v4 : Int) (v5 : Int) (v6 : Int) (S : QMem), qob Λ 0 v0 → qob Λ 4 v1 → K88 v0 v1 v2 v3 v4 v5 v6 S → G 88 [(0, .ref v0), (1, .ref v1), (2, vI v2), (3, vI v3), (4, vI v4), (5, vI v5), (6, vI v6)] [] S) (hK100 : ∀ (v0 : Nat) (v1 : Nat) (v2 : Int) (v3 : Int) (v4 : Int) (v5 : Int) (v6 : Int) (v7 : Int) (S : QMem), qob Λ 0 v0 → qob Λ 4 v1 → K100 v0 v1 v2 v3 v4 v5 v6 v7 S → G 100 [(0, .ref v0), (1, .ref v1), (2, vI v2), (3, vI v3), (4, vI v4), (5, vI v5), (6, vI v6), (7, vI v7)] [] S) (v0 : Nat) (v1 : Nat) (v2 : Int) (v3 : Int) (v4 : Int) (v5 : Int) (v6 : Int) (v7 : Int) (v8 : Int) (v9 : Int) (v10 : Int) (S : QMem) (o_v0 : qob Λ 0 v0) (o_v1 : qob Λ 4 v1) (h : w_ED_compareSubtrees_223 Λ K88 K100 Q v0 v1 v2 v3 v4 v5 v6 v7 v8 v9 v10 S) : G 223 [(0, .ref v0), (1, .ref v1), (2, vI v2), (3, vI v3), (4, vI v4), (5, vI v5), (6, vI v6), (7, vI v7), (8, vI v8), (9, vI v9), (10, vI v10)] [] S := by
  have hΛ := hG.lay
  unfold w_ED_compareSubtrees_223 at h
  refine pw_aload_n (pc := 223) hG d_ED_compareSubtrees_223 rfl ?_
  refine g0_0 (pc := 224) hG m_298 d_ED_compareSubtrees_224 o_v0 ?_
  refine pw_iload (pc := 227) hG d_ED_compareSubtrees_227 rfl ?_
  obtain ⟨hi229, h⟩ := h
  refine pw_aG (pc := 229) hG (q_arr hΛ o_v0 rfl (by decide)) hi229 d_ED_compareSubtrees_229 ?_
  refine pw_iload (pc := 230) hG d_ED_compareSubtrees_230 rfl ?_
  refine pw_iload (pc := 232) hG d_ED_compareSubtrees_232 rfl ?_
  refine pw_aload_n (pc := 234) hG d_ED_compareSubtrees_234 rfl ?_
  refine g0_0 (pc := 235) hG m_298 d_ED_compareSubtrees_235 o_v0 ?_
  refine pw_iload (pc := 238) hG d_ED_compareSubtrees_238 rfl ?_
  obtain ⟨hi240, h⟩ := h
  refine pw_aG (pc := 240) hG (q_arr hΛ o_v0 rfl (by decide)) hi240 d_ED_compareSubtrees_240 ?_
  refine pw_iload (pc := 241) hG d_ED_compareSubtrees_241 rfl ?_
  obtain ⟨hi243, h⟩ := h
  refine pw_aI (pc := 243) hG (q_row hΛ o_v0 rfl hi240) hi243 d_ED_compareSubtrees_243 ?_
  refine pw_aload_n (pc := 244) hG d_ED_compareSubtrees_244 rfl ?_
  refine g0_1 (pc := 245) hG m_299 d_ED_compareSubtrees_245 o_v0 ?_
  refine pw_iload (pc := 248) hG d_ED_compareSubtrees_248 rfl ?_
  obtain ⟨hi250, h⟩ := h
  refine pw_aG (pc := 250) hG (q_arr hΛ o_v0 rfl (by decide)) hi250 d_ED_compareSubtrees_250 ?_
  refine pw_iload (pc := 251) hG d_ED_compareSubtrees_251 rfl ?_
  obtain ⟨hi253, h⟩ := h
  refine pw_aI (pc := 253) hG (q_row hΛ o_v0 rfl hi250) hi253 d_ED_compareSubtrees_253 ?_
  refine pw_iadd (pc := 254) hG d_ED_compareSubtrees_254 ?_
  obtain ⟨hrx255, hry255, h⟩ := h
  refine pw_min (pc := 255) hG m_699 d_ED_compareSubtrees_255 hrx255 hry255 (by decide) (Nat.le_of_ble_eq_true rfl) ?_
  obtain ⟨hi258, h⟩ := h
  refine pw_sI (pc := 258) hG (q_row hΛ o_v0 rfl hi229) hi258 d_ED_compareSubtrees_258 (fun S258 eS258 => ?_)
  replace h := h S258 eS258
  refine pw_iinc0 (pc := 259) hG d_ED_compareSubtrees_259 rfl (by decide) rfl ?_
  refine pw_goto (tgt := 100) (pc := 262) hG d_ED_compareSubtrees_262 (by decide) ?_
  exact pw_sub hG [0, 1, 2, 3, 4, 5, 6, 7] rfl (hK100 v0 v1 v2 v3 v4 v5 v6 (v7 + (-1)) S258 o_v0 o_v1 h)
theorem b_ED_compareSubtrees_189 {Λ : QLay} {G : Nat → List (Nat × Value) → List Value → QMem → Prop} {Q : QMem → Prop} (hG : QAct c_ED_compareSubtrees "TreeDiffer$EditDistance" 12 { frames := 1, cells := 0, slots := 0, locals := 22 } Λ G) (hR : RtV c_ED_compareSubtrees G Q) {K88 : Nat → Nat → Int → Int → Int → Int → Int → QMem → Prop} {K100 : Nat → Nat → Int → Int → Int → Int → Int → Int → QMem → Prop} (hK88 : ∀ (v0 : Nat) (v1 : Nat) (v2 : Int) (v3 : Int) (v4 : Int) (v5 : Int) (v6 : Int) (S : QMem), qob Λ 0 v0 → qob Λ 4 v1 → K88 v0 v1 v2 v3 v4 v5 v6 S → G 88 [(0, .ref v0), (1, .ref v1), (2, vI v2), (3, vI v3), (4, vI v4), (5, vI v5), (6, vI v6)] [] S) (hK100 : ∀ (v0 : Nat) (v1 : Nat) (v2 : Int) (v3 : Int) (v4 : Int) (v5 : Int) (v6 : Int) (v7 : Int) (S : QMem), qob Λ 0 v0 → qob Λ 4 v1 → K100 v0 v1 v2 v3 v4 v5 v6 v7 S → G 100 [(0, .ref v0), (1, .ref v1), (2, vI v2), (3, vI v3), (4, vI v4), (5, vI v5), (6, vI v6), (7, vI v7)] [] S) (v0 : Nat) (v1 : Nat) (v2 : Int) (v3 : Int) (v4 : Int) (v5 : Int) (v6 : Int) (v7 : Int) (v8 : Int) (v9 : Int) (v10 : Int) (s0 : Int) (S : QMem) (o_v0 : qob Λ 0 v0) (o_v1 : qob Λ 4 v1) (h : w_ED_compareSubtrees_189 Λ K88 K100 Q v0 v1 v2 v3 v4 v5 v6 v7 v8 v9 v10 s0 S) : G 189 [(0, .ref v0), (1, .ref v1), (2, vI v2), (3, vI v3), (4, vI v4), (5, vI v5), (6, vI v6), (7, vI v7), (8, vI v8), (9, vI v9), (10, vI v10)] [vI s0] S := by
  have hΛ := hG.lay
  unfold w_ED_compareSubtrees_189 at h
  refine pw_ist (pc := 189) hG d_ED_compareSubtrees_189 (by decide) rfl ?_
  refine pw_aload_n (pc := 191) hG d_ED_compareSubtrees_191 rfl ?_
  refine g0_1 (pc := 192) hG m_299 d_ED_compareSubtrees_192 o_v0 ?_
  refine pw_iload (pc := 195) hG d_ED_compareSubtrees_195 rfl ?_
  obtain ⟨hi197, h⟩ := h
  refine pw_aG (pc := 197) hG (q_arr hΛ o_v0 rfl (by decide)) hi197 d_ED_compareSubtrees_197 ?_
  refine pw_iload (pc := 198) hG d_ED_compareSubtrees_198 rfl ?_
  refine pw_iload (pc := 200) hG d_ED_compareSubtrees_200 rfl ?_
  refine pw_aload_n (pc := 202) hG d_ED_compareSubtrees_202 rfl ?_
  refine g0_0 (pc := 203) hG m_298 d_ED_compareSubtrees_203 o_v0 ?_
  refine pw_iload (pc := 206) hG d_ED_compareSubtrees_206 rfl ?_
  refine pw_iconst (pc := 208) hG d_ED_compareSubtrees_208 ?_
  refine pw_iadd (pc := 209) hG d_ED_compareSubtrees_209 ?_
  obtain ⟨hi210, h⟩ := h
  refine pw_aG (pc := 210) hG (q_arr hΛ o_v0 rfl (by decide)) hi210 d_ED_compareSubtrees_210 ?_
  refine pw_iload (pc := 211) hG d_ED_compareSubtrees_211 rfl ?_
  refine pw_iconst (pc := 213) hG d_ED_compareSubtrees_213 ?_
  refine pw_iadd (pc := 214) hG d_ED_compareSubtrees_214 ?_
  obtain ⟨hi215, h⟩ := h
  refine pw_aI (pc := 215) hG (q_row hΛ o_v0 rfl hi210) hi215 d_ED_compareSubtrees_215 ?_
  refine pw_iload (pc := 216) hG d_ED_compareSubtrees_216 rfl ?_
  refine pw_iadd (pc := 218) hG d_ED_compareSubtrees_218 ?_
  obtain ⟨hrx219, hry219, h⟩ := h
  refine pw_min (pc := 219) hG m_699 d_ED_compareSubtrees_219 hrx219 hry219 (by decide) (Nat.le_of_ble_eq_true rfl) ?_
  obtain ⟨hi222, h⟩ := h
  refine pw_sI (pc := 222) hG (q_row hΛ o_v0 rfl hi197) hi222 d_ED_compareSubtrees_222 (fun S222 eS222 => ?_)
  replace h := h S222 eS222
  exact pw_sub hG [0, 1, 2, 3, 4, 5, 6, 7, 8, 9, 10] rfl (b_ED_compareSubtrees_223 hG hR hK88 hK100 v0 v1 v2 v3 v4 v5 v6 v7 v8 v9 v10 S222 o_v0 o_v1 h)
theorem b_ED_compareSubtrees_100 {Λ : QLay} {G : Nat → List (Nat × Value) → List Value → QMem → Prop} {Q : QMem → Prop} (hG : QAct c_ED_compareSubtrees "TreeDiffer$EditDistance" 12 { frames := 1, cells := 0, slots := 0, locals := 22 } Λ G) (hR : RtV c_ED_compareSubtrees G Q) {K88 : Nat → Nat → Int → Int → Int → Int → Int → QMem → Prop} (hK88 : ∀ (v0 : Nat) (v1 : Nat) (v2 : Int) (v3 : Int) (v4 : Int) (v5 : Int) (v6 : Int) (S : QMem), qob Λ 0 v0 → qob Λ 4 v1 → K88 v0 v1 v2 v3 v4 v5 v6 S → G 88 [(0, .ref v0), (1, .ref v1), (2, vI v2), (3, vI v3), (4, vI v4), (5, vI v5), (6, vI v6)] [] S) : ∀ (n : Nat) (v0 : Nat) (v1 : Nat) (v2 : Int) (v3 : Int) (v4 : Int) (v5 : Int) (v6 : Int) (v7 : Int) (S : QMem), qob Λ 0 v0 → qob Λ 4 v1 → w_ED_compareSubtrees_100 Λ K88 Q n v0 v1 v2 v3 v4 v5 v6 v7 S → G 100 [(0, .ref v0), (1, .ref v1), (2, vI v2), (3, vI v3), (4, vI v4), (5, vI v5), (6, vI v6), (7, vI v7)] [] S := by
  have hΛ := hG.lay
  intro n
  induction n with
  | zero => intro v0 v1 v2 v3 v4 v5 v6 v7 S o_v0 o_v1 h; exact h.elim
  | succ n ih =>
    intro v0 v1 v2 v3 v4 v5 v6 v7 S o_v0 o_v1 h
    rw [w_ED_compareSubtrees_100] at h
    refine pw_iload (pc := 100) hG d_ED_compareSubtrees_100 rfl ?_
    refine pw_iload_n (pc := 102) hG d_ED_compareSubtrees_102 rfl ?_
    obtain ⟨hrx103, hry103, ha103, hb103⟩ := h
    refine pw_icmp_lt (tgt := 265) (pc := 103) hG d_ED_compareSubtrees_103 (by decide) hrx103 hry103 (fun hc103 => ?_) (fun hc103 => ?_)
    · replace h := ha103 hc103
      refine pw_iinc0 (pc := 265) hG d_ED_compareSubtrees_265 rfl (by decide) rfl ?_
      refine pw_goto (tgt := 88) (pc := 268) hG d_ED_compareSubtrees_268 (by decide) ?_
      exact pw_sub hG [0, 1, 2, 3, 4, 5, 6] rfl (hK88 v0 v1 v2 v3 v4 v5 (v6 + (-1)) S o_v0 o_v1 h)
    · replace h := hb103 hc103
      refine pw_aload_n (pc := 106) hG d_ED_compareSubtrees_106 rfl ?_
      refine g0_0 (pc := 107) hG m_298 d_ED_compareSubtrees_107 o_v0 ?_
      refine pw_iload (pc := 110) hG d_ED_compareSubtrees_110 rfl ?_
      refine pw_iconst (pc := 112) hG d_ED_compareSubtrees_112 ?_
      refine pw_iadd (pc := 113) hG d_ED_compareSubtrees_113 ?_
      obtain ⟨hi114, h⟩ := h
      refine pw_aG (pc := 114) hG (q_arr hΛ o_v0 rfl (by decide)) hi114 d_ED_compareSubtrees_114 ?_
      refine pw_iload (pc := 115) hG d_ED_compareSubtrees_115 rfl ?_
      obtain ⟨hi117, h⟩ := h
      refine pw_aI (pc := 117) hG (q_row hΛ o_v0 rfl hi114) hi117 d_ED_compareSubtrees_117 ?_
      refine pw_aload_n (pc := 118) hG d_ED_compareSubtrees_118 rfl ?_
      refine g0_0 (pc := 119) hG m_298 d_ED_compareSubtrees_119 o_v0 ?_
      refine pw_iload (pc := 122) hG d_ED_compareSubtrees_122 rfl ?_
      obtain ⟨hi124, h⟩ := h
      refine pw_aG (pc := 124) hG (q_arr hΛ o_v0 rfl (by decide)) hi124 d_ED_compareSubtrees_124 ?_
      refine pw_iload (pc := 125) hG d_ED_compareSubtrees_125 rfl ?_
      refine pw_iconst (pc := 127) hG d_ED_compareSubtrees_127 ?_
      refine pw_iadd (pc := 128) hG d_ED_compareSubtrees_128 ?_
      obtain ⟨hi129, h⟩ := h
      refine pw_aI (pc := 129) hG (q_row hΛ o_v0 rfl hi124) hi129 d_ED_compareSubtrees_129 ?_
      obtain ⟨hrx130, hry130, h⟩ := h
      refine pw_min (pc := 130) hG m_699 d_ED_compareSubtrees_130 hrx130 hry130 (by decide) (Nat.le_of_ble_eq_true rfl) ?_
      refine pw_iconst (pc := 133) hG d_ED_compareSubtrees_133 ?_
      refine pw_iadd (pc := 134) hG d_ED_compareSubtrees_134 ?_
      refine pw_istore (pc := 135) hG d_ED_compareSubtrees_135 (by decide) (fun x135 ex135 => ⟨_, rfl, ?_⟩)
      replace h := h x135 ex135
      refine pw_aload_n (pc := 137) hG d_ED_compareSubtrees_137 rfl ?_
      refine pw_getP (pc := 138) hG o_v1 0 (Or.inl rfl) m_130 d_ED_compareSubtrees_138 (fun t138 et138 ot138 => ?_)
      replace h := h t138 et138
      refine pw_iload (pc := 141) hG d_ED_compareSubtrees_141 rfl ?_
      refine pw_calli (pc := 143) hG (fun l Δ => ct_Tr_endOf l Δ hΛ ot138 h) ot138 rfl (by decide) m_694 k_Tr_endOf rfl ⟨by decide, by decide⟩ (Nat.le_of_ble_eq_true rfl) d_ED_compareSubtrees_143 rfl (fun r143 S143 h => ?_)
      refine pw_ist (pc := 146) hG d_ED_compareSubtrees_146 (by decide) rfl ?_
      refine pw_aload_n (pc := 148) hG d_ED_compareSubtrees_148 rfl ?_
      refine pw_getP (pc := 149) hG o_v1 1 (Or.inr rfl) m_134 d_ED_compareSubtrees_149 (fun t149 et149 ot149 => ?_)
      replace h := h t149 et149
      refine pw_iload (pc := 152) hG d_ED_compareSubtrees_152 rfl ?_
      refine pw_calli (pc := 154) hG (fun l Δ => ct_Tr_endOf l Δ hΛ ot149 h) ot149 rfl (by decide) m_694 k_Tr_endOf rfl ⟨by decide, by decide⟩ (Nat.le_of_ble_eq_true rfl) d_ED_compareSubtrees_154 rfl (fun r154 S154 h => ?_)
      refine pw_ist (pc := 157) hG d_ED_compareSubtrees_157 (by decide) rfl ?_
      refine pw_iload (pc := 159) hG d_ED_compareSubtrees_159 rfl ?_
      refine pw_iload (pc := 161) hG d_ED_compareSubtrees_161 rfl ?_
      obtain ⟨hrx163, hry163, ha163, hb163⟩ := h
      refine pw_icmp_ne (tgt := 223) (pc := 163) hG d_ED_compareSubtrees_163 (by decide) hrx163 hry163 (fun hc163 => ?_) (fun hc163 => ?_)
      · replace h := ha163 hc163
        exact pw_sub hG [0, 1, 2, 3, 4, 5, 6, 7, 8, 9, 10] rfl (b_ED_compareSubtrees_223 hG hR hK88 ih v0 v1 v2 v3 v4 v5 v6 v7 x135 r143 r154 S154 o_v0 o_v1 h)
      · replace h := hb163 hc163
        refine pw_iload (pc := 166) hG d_ED_compareSubtrees_166 rfl ?_
        refine pw_iload (pc := 168) hG d_ED_compareSubtrees_168 rfl ?_
        obtain ⟨hrx170, hry170, ha170, hb170⟩ := h
        refine pw_icmp_ne (tgt := 223) (pc := 170) hG d_ED_compareSubtrees_170 (by decide) hrx170 hry170 (fun hc170 => ?_) (fun hc170 => ?_)
        · replace h := ha170 hc170
          exact pw_sub hG [0, 1, 2, 3, 4, 5, 6, 7, 8, 9, 10] rfl (b_ED_compareSubtrees_223 hG hR hK88 ih v0 v1 v2 v3 v4 v5 v6 v7 x135 r143 r154 S154 o_v0 o_v1 h)
        · replace h := hb170 hc170
          refine pw_aload_n (pc := 173) hG d_ED_compareSubtrees_173 rfl ?_
          refine pw_iload (pc := 174) hG d_ED_compareSubtrees_174 rfl ?_
          refine pw_iload (pc := 176) hG d_ED_compareSubtrees_176 rfl ?_
          refine pw_calli (pc := 178) hG (fun l Δ => ct_Se_haveSameContent l Δ hΛ o_v1 h) o_v1 rfl (by decide) m_700 k_Se_haveSameContent rfl ⟨by decide, by decide⟩ (Nat.le_of_ble_eq_true rfl) d_ED_compareSubtrees_178 rfl (fun r178 S178 h => ?_)
          obtain ⟨hrx181, ha181, hb181⟩ := h
          refine pw_if_eq (tgt := 188) (pc := 181) hG d_ED_compareSubtrees_181 (by decide) hrx181 (fun hc181 => ?_) (fun hc181 => ?_)
          · replace h := ha181 hc181
            refine pw_iconst (pc := 188) hG d_ED_compareSubtrees_188 ?_
            exact pw_sub hG [0, 1, 2, 3, 4, 5, 6, 7, 8, 9, 10] rfl (b_ED_compareSubtrees_189 hG hR hK88 ih v0 v1 v2 v3 v4 v5 v6 v7 x135 r143 r154 1 S178 o_v0 o_v1 h)
          · replace h := hb181 hc181
            refine pw_iconst (pc := 184) hG d_ED_compareSubtrees_184 ?_
            refine pw_goto (tgt := 189) (pc := 185) hG d_ED_compareSubtrees_185 (by decide) ?_
            exact pw_sub hG [0, 1, 2, 3, 4, 5, 6, 7, 8, 9, 10] rfl (b_ED_compareSubtrees_189 hG hR hK88 ih v0 v1 v2 v3 v4 v5 v6 v7 x135 r143 r154 0 S178 o_v0 o_v1 h)
theorem b_ED_compareSubtrees_88 {Λ : QLay} {G : Nat → List (Nat × Value) → List Value → QMem → Prop} {Q : QMem → Prop} (hG : QAct c_ED_compareSubtrees "TreeDiffer$EditDistance" 12 { frames := 1, cells := 0, slots := 0, locals := 22 } Λ G) (hR : RtV c_ED_compareSubtrees G Q) : ∀ (n : Nat) (v0 : Nat) (v1 : Nat) (v2 : Int) (v3 : Int) (v4 : Int) (v5 : Int) (v6 : Int) (S : QMem), qob Λ 0 v0 → qob Λ 4 v1 → w_ED_compareSubtrees_88 Λ Q n v0 v1 v2 v3 v4 v5 v6 S → G 88 [(0, .ref v0), (1, .ref v1), (2, vI v2), (3, vI v3), (4, vI v4), (5, vI v5), (6, vI v6)] [] S := by
  have hΛ := hG.lay
  intro n
  induction n with
  | zero => intro v0 v1 v2 v3 v4 v5 v6 S o_v0 o_v1 h; exact h.elim
  | succ n ih =>
    intro v0 v1 v2 v3 v4 v5 v6 S o_v0 o_v1 h
    rw [w_ED_compareSubtrees_88] at h
    refine pw_iload (pc := 88) hG d_ED_compareSubtrees_88 rfl ?_
    refine pw_iload_n (pc := 90) hG d_ED_compareSubtrees_90 rfl ?_
    obtain ⟨hrx91, hry91, ha91, hb91⟩ := h
    refine pw_icmp_lt (tgt := 271) (pc := 91) hG d_ED_compareSubtrees_91 (by decide) hrx91 hry91 (fun hc91 => ?_) (fun hc91 => ?_)
    · replace h := ha91 hc91
      exact hR 271 _ _ d_ED_compareSubtrees_271 h
    · replace h := hb91 hc91
      refine pw_iload (pc := 94) hG d_ED_compareSubtrees_94 rfl ?_
      refine pw_iconst (pc := 96) hG d_ED_compareSubtrees_96 ?_
      refine pw_isub (pc := 97) hG d_ED_compareSubtrees_97 ?_
      refine pw_istore (pc := 98) hG d_ED_compareSubtrees_98 (by decide) (fun x98 ex98 => ⟨_, rfl, ?_⟩)
      replace h := h x98 ex98
      obtain ⟨n98, h⟩ := h
      exact pw_sub hG [0, 1, 2, 3, 4, 5, 6, 7] rfl (b_ED_compareSubtrees_100 hG hR ih n98 v0 v1 v2 v3 v4 v5 v6 x98 S o_v0 o_v1 h)
theorem b_ED_compareSubtrees_55 {Λ : QLay} {G : Nat → List (Nat × Value) → List Value → QMem → Prop} {Q : QMem → Prop} (hG : QAct c_ED_compareSubtrees "TreeDiffer$EditDistance" 12 { frames := 1, cells := 0, slots := 0, locals := 22 } Λ G) (hR : RtV c_ED_compareSubtrees G Q) : ∀ (n : Nat) (v0 : Nat) (v1 : Nat) (v2 : Int) (v3 : Int) (v4 : Int) (v5 : Int) (v6 : Int) (S : QMem), qob Λ 0 v0 → qob Λ 4 v1 → w_ED_compareSubtrees_55 Λ Q n v0 v1 v2 v3 v4 v5 v6 S → G 55 [(0, .ref v0), (1, .ref v1), (2, vI v2), (3, vI v3), (4, vI v4), (5, vI v5), (6, vI v6)] [] S := by
  have hΛ := hG.lay
  intro n
  induction n with
  | zero => intro v0 v1 v2 v3 v4 v5 v6 S o_v0 o_v1 h; exact h.elim
  | succ n ih =>
    intro v0 v1 v2 v3 v4 v5 v6 S o_v0 o_v1 h
    rw [w_ED_compareSubtrees_55] at h
    refine pw_iload (pc := 55) hG d_ED_compareSubtrees_55 rfl ?_
    refine pw_iload_n (pc := 57) hG d_ED_compareSubtrees_57 rfl ?_
    obtain ⟨hrx58, hry58, ha58, hb58⟩ := h
    refine pw_icmp_lt (tgt := 82) (pc := 58) hG d_ED_compareSubtrees_58 (by decide) hrx58 hry58 (fun hc58 => ?_) (fun hc58 => ?_)
    · replace h := ha58 hc58
      refine pw_iload (pc := 82) hG d_ED_compareSubtrees_82 rfl ?_
      refine pw_iconst (pc := 84) hG d_ED_compareSubtrees_84 ?_
      refine pw_isub (pc := 85) hG d_ED_compareSubtrees_85 ?_
      refine pw_istore (pc := 86) hG d_ED_compareSubtrees_86 (by decide) (fun x86 ex86 => ⟨_, rfl, ?_⟩)
      replace h := h x86 ex86
      obtain ⟨n86, h⟩ := h
      exact pw_sub hG [0, 1, 2, 3, 4, 5, 6] rfl (b_ED_compareSubtrees_88 hG hR n86 v0 v1 v2 v3 v4 v5 x86 S o_v0 o_v1 h)
    · replace h := hb58 hc58
      refine pw_aload_n (pc := 61) hG d_ED_compareSubtrees_61 rfl ?_
      refine g0_0 (pc := 62) hG m_298 d_ED_compareSubtrees_62 o_v0 ?_
      refine pw_iload (pc := 65) hG d_ED_compareSubtrees_65 rfl ?_
      obtain ⟨hi67, h⟩ := h
      refine pw_aG (pc := 67) hG (q_arr hΛ o_v0 rfl (by decide)) hi67 d_ED_compareSubtrees_67 ?_
      refine pw_iload (pc := 68) hG d_ED_compareSubtrees_68 rfl ?_
      refine pw_iload (pc := 70) hG d_ED_compareSubtrees_70 rfl ?_
      refine pw_iload (pc := 72) hG d_ED_compareSubtrees_72 rfl ?_
      refine pw_isub (pc := 74) hG d_ED_compareSubtrees_74 ?_
      obtain ⟨hi75, h⟩ := h
      refine pw_sI (pc := 75) hG (q_row hΛ o_v0 rfl hi67) hi75 d_ED_compareSubtrees_75 (fun S75 eS75 => ?_)
      replace h := h S75 eS75
      refine pw_iinc0 (pc := 76) hG d_ED_compareSubtrees_76 rfl (by decide) rfl ?_
      refine pw_goto (tgt := 55) (pc := 79) hG d_ED_compareSubtrees_79 (by decide) ?_
      exact pw_sub hG [0, 1, 2, 3, 4, 5, 6] rfl (ih v0 v1 v2 v3 v4 v5 (v6 + (-1)) S75 o_v0 o_v1 h)
theorem b_ED_compareSubtrees_24 {Λ : QLay} {G : Nat → List (Nat × Value) → List Value → QMem → Prop} {Q : QMem → Prop} (hG : QAct c_ED_compareSubtrees "TreeDiffer$EditDistance" 12 { frames := 1, cells := 0, slots := 0, locals := 22 } Λ G) (hR : RtV c_ED_compareSubtrees G Q) : ∀ (n : Nat) (v0 : Nat) (v1 : Nat) (v2 : Int) (v3 : Int) (v4 : Int) (v5 : Int) (v6 : Int) (S : QMem), qob Λ 0 v0 → qob Λ 4 v1 → w_ED_compareSubtrees_24 Λ Q n v0 v1 v2 v3 v4 v5 v6 S → G 24 [(0, .ref v0), (1, .ref v1), (2, vI v2), (3, vI v3), (4, vI v4), (5, vI v5), (6, vI v6)] [] S := by
  have hΛ := hG.lay
  intro n
  induction n with
  | zero => intro v0 v1 v2 v3 v4 v5 v6 S o_v0 o_v1 h; exact h.elim
  | succ n ih =>
    intro v0 v1 v2 v3 v4 v5 v6 S o_v0 o_v1 h
    rw [w_ED_compareSubtrees_24] at h
    refine pw_iload (pc := 24) hG d_ED_compareSubtrees_24 rfl ?_
    refine pw_iload_n (pc := 26) hG d_ED_compareSubtrees_26 rfl ?_
    obtain ⟨hrx27, hry27, ha27, hb27⟩ := h
    refine pw_icmp_lt (tgt := 51) (pc := 27) hG d_ED_compareSubtrees_27 (by decide) hrx27 hry27 (fun hc27 => ?_) (fun hc27 => ?_)
    · replace h := ha27 hc27
      refine pw_iload (pc := 51) hG d_ED_compareSubtrees_51 rfl ?_
      refine pw_ist (pc := 53) hG d_ED_compareSubtrees_53 (by decide) rfl ?_
      obtain ⟨n53, h⟩ := h
      exact pw_sub hG [0, 1, 2, 3, 4, 5, 6] rfl (b_ED_compareSubtrees_55 hG hR n53 v0 v1 v2 v3 v4 v5 v5 S o_v0 o_v1 h)
    · replace h := hb27 hc27
      refine pw_aload_n (pc := 30) hG d_ED_compareSubtrees_30 rfl ?_
      refine g0_0 (pc := 31) hG m_298 d_ED_compareSubtrees_31 o_v0 ?_
      refine pw_iload (pc := 34) hG d_ED_compareSubtrees_34 rfl ?_
      obtain ⟨hi36, h⟩ := h
      refine pw_aG (pc := 36) hG (q_arr hΛ o_v0 rfl (by decide)) hi36 d_ED_compareSubtrees_36 ?_
      refine pw_iload (pc := 37) hG d_ED_compareSubtrees_37 rfl ?_
      refine pw_iload (pc := 39) hG d_ED_compareSubtrees_39 rfl ?_
      refine pw_iload (pc := 41) hG d_ED_compareSubtrees_41 rfl ?_
      refine pw_isub (pc := 43) hG d_ED_compareSubtrees_43 ?_
      obtain ⟨hi44, h⟩ := h
      refine pw_sI (pc := 44) hG (q_row hΛ o_v0 rfl hi36) hi44 d_ED_compareSubtrees_44 (fun S44 eS44 => ?_)
      replace h := h S44 eS44
      refine pw_iinc0 (pc := 45) hG d_ED_compareSubtrees_45 rfl (by decide) rfl ?_
      refine pw_goto (tgt := 24) (pc := 48) hG d_ED_compareSubtrees_48 (by decide) ?_
      exact pw_sub hG [0, 1, 2, 3, 4, 5, 6] rfl (ih v0 v1 v2 v3 v4 v5 (v6 + (-1)) S44 o_v0 o_v1 h)
theorem b_ED_compareSubtrees_0 {Λ : QLay} {G : Nat → List (Nat × Value) → List Value → QMem → Prop} {Q : QMem → Prop} (hG : QAct c_ED_compareSubtrees "TreeDiffer$EditDistance" 12 { frames := 1, cells := 0, slots := 0, locals := 22 } Λ G) (hR : RtV c_ED_compareSubtrees G Q) (v0 : Nat) (v1 : Nat) (v2 : Int) (v3 : Int) (S : QMem) (o0 : qob Λ 0 v0) (o1 : qob Λ 4 v1) (h : w_ED_compareSubtrees Λ v0 v1 v2 v3 S Q) : G 0 [(0, .ref v0), (1, .ref v1), (2, vI v2), (3, vI v3)] [] S := by
  have hΛ := hG.lay
  unfold w_ED_compareSubtrees at h
  refine pw_aload_n (pc := 0) hG d_ED_compareSubtrees_0 rfl ?_
  refine pw_getP (pc := 1) hG o1 0 (Or.inl rfl) m_130 d_ED_compareSubtrees_1 (fun t1 et1 ot1 => ?_)
  replace h := h t1 et1
  refine pw_iload_n (pc := 4) hG d_ED_compareSubtrees_4 rfl ?_
  refine pw_calli (pc := 5) hG (fun l Δ => ct_Tr_endOf l Δ hΛ ot1 h) ot1 rfl (by decide) m_694 k_Tr_endOf rfl ⟨by decide, by decide⟩ (Nat.le_of_ble_eq_true rfl) d_ED_compareSubtrees_5 rfl (fun r5 S5 h => ?_)
  refine pw_ist (pc := 8) hG d_ED_compareSubtrees_8 (by decide) rfl ?_
  refine pw_aload_n (pc := 10) hG d_ED_compareSubtrees_10 rfl ?_
  refine pw_getP (pc := 11) hG o1 1 (Or.inr rfl) m_134 d_ED_compareSubtrees_11 (fun t11 et11 ot11 => ?_)
  replace h := h t11 et11
  refine pw_iload_n (pc := 14) hG d_ED_compareSubtrees_14 rfl ?_
  refine pw_calli (pc := 15) hG (fun l Δ => ct_Tr_endOf l Δ hΛ ot11 h) ot11 rfl (by decide) m_694 k_Tr_endOf rfl ⟨by decide, by decide⟩ (Nat.le_of_ble_eq_true rfl) d_ED_compareSubtrees_15 rfl (fun r15 S15 h => ?_)
  refine pw_ist (pc := 18) hG d_ED_compareSubtrees_18 (by decide) rfl ?_
  refine pw_iload (pc := 20) hG d_ED_compareSubtrees_20 rfl ?_
  refine pw_ist (pc := 22) hG d_ED_compareSubtrees_22 (by decide) rfl ?_
  obtain ⟨n22, h⟩ := h
  exact pw_sub hG [0, 1, 2, 3, 4, 5, 6] rfl (b_ED_compareSubtrees_24 hG hR n22 v0 v1 v2 v3 r5 r15 r5 S15 o0 o1 h)
theorem ct_ED_compareSubtrees (l : Launch) (Δ : QDl) {Λ : QLay} (hΛ : LayOk Λ) {v0 : Nat} {v1 : Nat} {v2 : Int} {v3 : Int} {S : QMem} {Q : QMem → Prop} (o0 : qob Λ 0 v0) (o1 : qob Λ 4 v1) (h : w_ED_compareSubtrees Λ v0 v1 v2 v3 S Q) : QCt l y_ED_compareSubtrees c_ED_compareSubtrees 12 none 1 22 Δ Λ [.ref v0, .ref v1, vI v2, vI v3] S (qV Q) :=
  QCt.mk (own := "TreeDiffer$EditDistance") hΛ (by decide) rfl rfl (Nat.le_of_ble_eq_true rfl) (fun G hG ri rz rv rj ra => b_ED_compareSubtrees_0 hG (fun pc lv S d hq => rv pc lv S rfl d ⟨rfl, hq⟩) v0 v1 v2 v3 S o0 o1 h)
theorem k_ED_compute : QVf y_ED_compute c_ED_compute 4 (some .int) "TreeDiffer$EditDistance" 1 := ⟨m_688, m_689, m_9, m_690, by decide +kernel⟩
theorem b_ED_compute_24 {Λ : QLay} {G : Nat → List (Nat × Value) → List Value → QMem → Prop} {Q : Int → QMem → Prop} (hG : QAct c_ED_compute "TreeDiffer$EditDistance" 4 { frames := 2, cells := 0, slots := 0, locals := 53 } Λ G) (hR : RtI c_ED_compute G Q) {K10 : Nat → Nat → Int → QMem → Prop} (hK10 : ∀ (v0 : Nat) (v1 : Nat) (v2 : Int) (S : QMem), qob Λ 0 v0 → qob Λ 4 v1 → K10 v0 v1 v2 S → G 10 [(0, .ref v0), (1, .ref v1), (2, vI v2)] [] S) : ∀ (n : Nat) (v0 : Nat) (v1 : Nat) (v2 : Int) (v3 : Int) (S : QMem), qob Λ 0 v0 → qob Λ 4 v1 → w_ED_compute_24 Λ K10 Q n v0 v1 v2 v3 S → G 24 [(0, .ref v0), (1, .ref v1), (2, vI v2), (3, vI v3)] [] S := by
  have hΛ := hG.lay
  intro n
  induction n with
  | zero => intro v0 v1 v2 v3 S o_v0 o_v1 h; exact h.elim
  | succ n ih =>
    intro v0 v1 v2 v3 S o_v0 o_v1 h
    rw [w_ED_compute_24] at h
    refine pw_iload_n (pc := 24) hG d_ED_compute_24 rfl ?_
    obtain ⟨hrx25, ha25, hb25⟩ := h
    refine pw_if_lt (tgt := 63) (pc := 25) hG d_ED_compute_25 (by decide) hrx25 (fun hc25 => ?_) (fun hc25 => ?_)
    · replace h := ha25 hc25
      refine pw_iinc0 (pc := 63) hG d_ED_compute_63 rfl (by decide) rfl ?_
      refine pw_goto (tgt := 10) (pc := 66) hG d_ED_compute_66 (by decide) ?_
      exact pw_sub hG [0, 1, 2] rfl (hK10 v0 v1 (v2 + (-1)) S o_v0 o_v1 h)
    · replace h := hb25 hc25
      refine pw_aload_n (pc := 28) hG d_ED_compute_28 rfl ?_
      refine pw_getP (pc := 29) hG o_v1 0 (Or.inl rfl) m_130 d_ED_compute_29 (fun t29 et29 ot29 => ?_)
      replace h := h t29 et29
      refine pw_iload_n (pc := 32) hG d_ED_compute_32 rfl ?_
      refine pw_scalli (pc := 33) hG (fun l Δ => ct_ED_isKey l Δ hΛ ot29 h) m_691 k_ED_isKey rfl ⟨by decide, by decide⟩ (Nat.le_of_ble_eq_true rfl) d_ED_compute_33 rfl (fun r33 S33 h => ?_)
      obtain ⟨hrx36, ha36, hb36⟩ := h
      refine pw_if_eq (tgt := 57) (pc := 36) hG d_ED_compute_36 (by decide) hrx36 (fun hc36 => ?_) (fun hc36 => ?_)
      · replace h := ha36 hc36
        refine pw_iinc0 (pc := 57) hG d_ED_compute_57 rfl (by decide) rfl ?_
        refine pw_goto (tgt := 24) (pc := 60) hG d_ED_compute_60 (by decide) ?_
        exact pw_sub hG [0, 1, 2, 3] rfl (ih v0 v1 v2 (v3 + (-1)) S33 o_v0 o_v1 h)
      · replace h := hb36 hc36
        refine pw_aload_n (pc := 39) hG d_ED_compute_39 rfl ?_
        refine pw_getP (pc := 40) hG o_v1 1 (Or.inr rfl) m_134 d_ED_compute_40 (fun t40 et40 ot40 => ?_)
        replace h := h t40 et40
        refine pw_iload_n (pc := 43) hG d_ED_compute_43 rfl ?_
        refine pw_scalli (pc := 44) hG (fun l Δ => ct_ED_isKey l Δ hΛ ot40 h) m_691 k_ED_isKey rfl ⟨by decide, by decide⟩ (Nat.le_of_ble_eq_true rfl) d_ED_compute_44 rfl (fun r44 S44 h => ?_)
        obtain ⟨hrx47, ha47, hb47⟩ := h
        refine pw_if_eq (tgt := 57) (pc := 47) hG d_ED_compute_47 (by decide) hrx47 (fun hc47 => ?_) (fun hc47 => ?_)
        · replace h := ha47 hc47
          refine pw_iinc0 (pc := 57) hG d_ED_compute_57 rfl (by decide) rfl ?_
          refine pw_goto (tgt := 24) (pc := 60) hG d_ED_compute_60 (by decide) ?_
          exact pw_sub hG [0, 1, 2, 3] rfl (ih v0 v1 v2 (v3 + (-1)) S44 o_v0 o_v1 h)
        · replace h := hb47 hc47
          refine pw_aload_n (pc := 50) hG d_ED_compute_50 rfl ?_
          refine pw_aload_n (pc := 51) hG d_ED_compute_51 rfl ?_
          refine pw_iload_n (pc := 52) hG d_ED_compute_52 rfl ?_
          refine pw_iload_n (pc := 53) hG d_ED_compute_53 rfl ?_
          refine pw_callv (pc := 54) hG (fun l Δ => ct_ED_compareSubtrees l Δ hΛ o_v0 o_v1 h) o_v0 rfl (by decide) m_695 k_ED_compareSubtrees rfl ⟨by decide, by decide⟩ (Nat.le_of_ble_eq_true rfl) d_ED_compute_54 rfl (fun S54 h => ?_)
          refine pw_iinc0 (pc := 57) hG d_ED_compute_57 rfl (by decide) rfl ?_
          refine pw_goto (tgt := 24) (pc := 60) hG d_ED_compute_60 (by decide) ?_
          exact pw_sub hG [0, 1, 2, 3] rfl (ih v0 v1 v2 (v3 + (-1)) S54 o_v0 o_v1 h)
theorem b_ED_compute_10 {Λ : QLay} {G : Nat → List (Nat × Value) → List Value → QMem → Prop} {Q : Int → QMem → Prop} (hG : QAct c_ED_compute "TreeDiffer$EditDistance" 4 { frames := 2, cells := 0, slots := 0, locals := 53 } Λ G) (hR : RtI c_ED_compute G Q) : ∀ (n : Nat) (v0 : Nat) (v1 : Nat) (v2 : Int) (S : QMem), qob Λ 0 v0 → qob Λ 4 v1 → w_ED_compute_10 Λ Q n v0 v1 v2 S → G 10 [(0, .ref v0), (1, .ref v1), (2, vI v2)] [] S := by
  have hΛ := hG.lay
  intro n
  induction n with
  | zero => intro v0 v1 v2 S o_v0 o_v1 h; exact h.elim
  | succ n ih =>
    intro v0 v1 v2 S o_v0 o_v1 h
    rw [w_ED_compute_10] at h
    refine pw_iload_n (pc := 10) hG d_ED_compute_10 rfl ?_
    obtain ⟨hrx11, ha11, hb11⟩ := h
    refine pw_if_lt (tgt := 69) (pc := 11) hG d_ED_compute_11 (by decide) hrx11 (fun hc11 => ?_) (fun hc11 => ?_)
    · replace h := ha11 hc11
      refine pw_aload_n (pc := 69) hG d_ED_compute_69 rfl ?_
      refine g0_1 (pc := 70) hG m_299 d_ED_compute_70 o_v0 ?_
      refine pw_iconst (pc := 73) hG d_ED_compute_73 ?_
      refine pw_aG (pc := 74) hG (q_arr hΛ o_v0 rfl (by decide)) (by decide) d_ED_compute_74 ?_
      refine pw_iconst (pc := 75) hG d_ED_compute_75 ?_
      refine pw_aI (pc := 76) hG (q_row hΛ o_v0 rfl (by decide)) (by decide) d_ED_compute_76 ?_
      exact hR 77 _ _ _ d_ED_compute_77 h
    · replace h := hb11 hc11
      refine pw_aload_n (pc := 14) hG d_ED_compute_14 rfl ?_
      refine pw_getP (pc := 15) hG o_v1 1 (Or.inr rfl) m_134 d_ED_compute_15 (fun t15 et15 ot15 => ?_)
      replace h := h t15 et15
      refine g7_0 (pc := 18) hG m_34 d_ED_compute_18 ot15 ?_
      refine pw_iconst (pc := 21) hG d_ED_compute_21 ?_
      refine pw_isub (pc := 22) hG d_ED_compute_22 ?_
      refine pw_istore_n (pc := 23) hG d_ED_compute_23 (by decide) (fun x23 ex23 => ⟨_, rfl, ?_⟩)
      replace h := h x23 ex23
      obtain ⟨n23, h⟩ := h
      exact pw_sub hG [0, 1, 2, 3] rfl (b_ED_compute_24 hG hR ih n23 v0 v1 v2 x23 S o_v0 o_v1 h)
theorem b_ED_compute_0 {Λ : QLay} {G : Nat → List (Nat × Value) → List Value → QMem → Prop} {Q : Int → QMem → Prop} (hG : QAct c_ED_compute "TreeDiffer$EditDistance" 4 { frames := 2, cells := 0, slots := 0, locals := 53 } Λ G) (hR : RtI c_ED_compute G Q) (v0 : Nat) (v1 : Nat) (S : QMem) (o0 : qob Λ 0 v0) (o1 : qob Λ 4 v1) (h : w_ED_compute Λ v0 v1 S Q) : G 0 [(0, .ref v0), (1, .ref v1)] [] S := by
  have hΛ := hG.lay
  unfold w_ED_compute at h
  refine pw_aload_n (pc := 0) hG d_ED_compute_0 rfl ?_
  refine pw_getP (pc := 1) hG o1 0 (Or.inl rfl) m_130 d_ED_compute_1 (fun t1 et1 ot1 => ?_)
  replace h := h t1 et1
  refine g7_0 (pc := 4) hG m_34 d_ED_compute_4 ot1 ?_
  refine pw_iconst (pc := 7) hG d_ED_compute_7 ?_
  refine pw_isub (pc := 8) hG d_ED_compute_8 ?_
  refine pw_istore_n (pc := 9) hG d_ED_compute_9 (by decide) (fun x9 ex9 => ⟨_, rfl, ?_⟩)
  replace h := h x9 ex9
  obtain ⟨n9, h⟩ := h
  exact pw_sub hG [0, 1, 2] rfl (b_ED_compute_10 hG hR n9 v0 v1 x9 S o0 o1 h)
theorem ct_ED_compute (l : Launch) (Δ : QDl) {Λ : QLay} (hΛ : LayOk Λ) {v0 : Nat} {v1 : Nat} {S : QMem} {Q : Int → QMem → Prop} (o0 : qob Λ 0 v0) (o1 : qob Λ 4 v1) (h : w_ED_compute Λ v0 v1 S Q) : QCt l y_ED_compute c_ED_compute 4 (some .int) 2 53 Δ Λ [.ref v0, .ref v1] S (qI Q) :=
  QCt.mk (own := "TreeDiffer$EditDistance") hΛ (by decide) rfl rfl (Nat.le_of_ble_eq_true rfl) (fun G hG ri rz rv rj ra => b_ED_compute_0 hG (fun pc lv x S d hq => ri pc lv x S rfl d ⟨x, rfl, hq⟩) v0 v1 S o0 o1 h)
theorem k_Se_areEqual : QVf y_Se_areEqual c_Se_areEqual 4 (some .boolean) "TreeDiffer$Setup" 2 := ⟨m_492, m_493, m_4, m_494, by decide +kernel⟩
theorem b_Se_areEqual_25 {Λ : QLay} {G : Nat → List (Nat × Value) → List Value → QMem → Prop} {Q : Int → QMem → Prop} (hG : QAct c_Se_areEqual "TreeDiffer$Setup" 4 { frames := 1, cells := 0, slots := 0, locals := 22 } Λ G) (hR : RtZ c_Se_areEqual G Q) : ∀ (n : Nat) (v0 : Nat) (v1 : Int) (v2 : Int) (v3 : Int) (S : QMem), qob Λ 4 v0 → w_Se_areEqual_25 Λ Q n v0 v1 v2 v3 S → G 25 [(0, .ref v0), (1, vI v1), (2, vI v2), (3, vI v3)] [] S := by
  have hΛ := hG.lay
  intro n
  induction n with
  | zero => intro v0 v1 v2 v3 S o_v0 h; exact h.elim
  | succ n ih =>
    intro v0 v1 v2 v3 S o_v0 h
    rw [w_Se_areEqual_25] at h
    refine pw_iload_n (pc := 25) hG d_Se_areEqual_25 rfl ?_
    refine pw_aload_n (pc := 26) hG d_Se_areEqual_26 rfl ?_
    refine pw_getP (pc := 27) hG o_v0 0 (Or.inl rfl) m_128 d_Se_areEqual_27 (fun t27 et27 ot27 => ?_)
    replace h := h t27 et27
    refine g7_7 (pc := 30) hG m_67 d_Se_areEqual_30 ot27 ?_
    refine pw_iload_n (pc := 33) hG d_Se_areEqual_33 rfl ?_
    obtain ⟨hi34, h⟩ := h
    refine pw_aI (pc := 34) hG (q_arr hΛ ot27 rfl (by decide)) hi34 d_Se_areEqual_34 ?_
    obtain ⟨hrx35, hry35, ha35, hb35⟩ := h
    refine pw_icmp_gt (tgt := 84) (pc := 35) hG d_Se_areEqual_35 (by decide) hrx35 hry35 (fun hc35 => ?_) (fun hc35 => ?_)
    · replace h := ha35 hc35
      refine pw_iconst (pc := 84) hG d_Se_areEqual_84 ?_
      exact hR 85 _ _ _ d_Se_areEqual_85 (Or.inr rfl) h
    · replace h := hb35 hc35
      refine pw_aload_n (pc := 38) hG d_Se_areEqual_38 rfl ?_
      refine pw_iload_n (pc := 39) hG d_Se_areEqual_39 rfl ?_
      refine pw_iload_n (pc := 40) hG d_Se_areEqual_40 rfl ?_
      refine pw_iadd (pc := 41) hG d_Se_areEqual_41 ?_
      refine pw_iload_n (pc := 42) hG d_Se_areEqual_42 rfl ?_
      refine pw_iload_n (pc := 43) hG d_Se_areEqual_43 rfl ?_
      refine pw_iadd (pc := 44) hG d_Se_areEqual_44 ?_
      refine pw_calli (pc := 45) hG (fun l Δ => ct_Se_haveSameContent l Δ hΛ o_v0 h) o_v0 rfl (by decide) m_495 k_Se_haveSameContent rfl ⟨by decide, by decide⟩ (Nat.le_of_ble_eq_true rfl) d_Se_areEqual_45 rfl (fun r45 S45 h => ?_)
      obtain ⟨hrx48, ha48, hb48⟩ := h
      refine pw_if_eq (tgt := 76) (pc := 48) hG d_Se_areEqual_48 (by decide) hrx48 (fun hc48 => ?_) (fun hc48 => ?_)
      · replace h := ha48 hc48
        refine pw_iconst (pc := 76) hG d_Se_areEqual_76 ?_
        exact hR 77 _ _ _ d_Se_areEqual_77 (Or.inl rfl) h
      · replace h := hb48 hc48
        refine pw_aload_n (pc := 51) hG d_Se_areEqual_51 rfl ?_
        refine pw_getP (pc := 52) hG o_v0 0 (Or.inl rfl) m_128 d_Se_areEqual_52 (fun t52 et52 ot52 => ?_)
        replace h := h t52 et52
        refine g7_7 (pc := 55) hG m_67 d_Se_areEqual_55 ot52 ?_
        refine pw_iload_n (pc := 58) hG d_Se_areEqual_58 rfl ?_
        refine pw_iload_n (pc := 59) hG d_Se_areEqual_59 rfl ?_
        refine pw_iadd (pc := 60) hG d_Se_areEqual_60 ?_
        obtain ⟨hi61, h⟩ := h
        refine pw_aI (pc := 61) hG (q_arr hΛ ot52 rfl (by decide)) hi61 d_Se_areEqual_61 ?_
        refine pw_aload_n (pc := 62) hG d_Se_areEqual_62 rfl ?_
        refine pw_getP (pc := 63) hG o_v0 1 (Or.inr rfl) m_133 d_Se_areEqual_63 (fun t63 et63 ot63 => ?_)
        replace h := h t63 et63
        refine g7_7 (pc := 66) hG m_67 d_Se_areEqual_66 ot63 ?_
        refine pw_iload_n (pc := 69) hG d_Se_areEqual_69 rfl ?_
        refine pw_iload_n (pc := 70) hG d_Se_areEqual_70 rfl ?_
        refine pw_iadd (pc := 71) hG d_Se_areEqual_71 ?_
        obtain ⟨hi72, h⟩ := h
        refine pw_aI (pc := 72) hG (q_arr hΛ ot63 rfl (by decide)) hi72 d_Se_areEqual_72 ?_
        obtain ⟨hrx73, hry73, ha73, hb73⟩ := h
        refine pw_icmp_eq (tgt := 78) (pc := 73) hG d_Se_areEqual_73 (by decide) hrx73 hry73 (fun hc73 => ?_) (fun hc73 => ?_)
        · replace h := ha73 hc73
          refine pw_iinc0 (pc := 78) hG d_Se_areEqual_78 rfl (by decide) rfl ?_
          refine pw_goto (tgt := 25) (pc := 81) hG d_Se_areEqual_81 (by decide) ?_
          exact pw_sub hG [0, 1, 2, 3] rfl (ih v0 v1 v2 (v3 + 1) S45 o_v0 h)
        · replace h := hb73 hc73
          refine pw_iconst (pc := 76) hG d_Se_areEqual_76 ?_
          exact hR 77 _ _ _ d_Se_areEqual_77 (Or.inl rfl) h
theorem b_Se_areEqual_0 {Λ : QLay} {G : Nat → List (Nat × Value) → List Value → QMem → Prop} {Q : Int → QMem → Prop} (hG : QAct c_Se_areEqual "TreeDiffer$Setup" 4 { frames := 1, cells := 0, slots := 0, locals := 22 } Λ G) (hR : RtZ c_Se_areEqual G Q) (v0 : Nat) (v1 : Int) (v2 : Int) (S : QMem) (o0 : qob Λ 4 v0) (h : w_Se_areEqual Λ v0 v1 v2 S Q) : G 0 [(0, .ref v0), (1, vI v1), (2, vI v2)] [] S := by
  have hΛ := hG.lay
  unfold w_Se_areEqual at h
  refine pw_aload_n (pc := 0) hG d_Se_areEqual_0 rfl ?_
  refine pw_getP (pc := 1) hG o0 0 (Or.inl rfl) m_128 d_Se_areEqual_1 (fun t1 et1 ot1 => ?_)
  replace h := h t1 et1
  refine g7_7 (pc := 4) hG m_67 d_Se_areEqual_4 ot1 ?_
  refine pw_iload_n (pc := 7) hG d_Se_areEqual_7 rfl ?_
  obtain ⟨hi8, h⟩ := h
  refine pw_aI (pc := 8) hG (q_arr hΛ ot1 rfl (by decide)) hi8 d_Se_areEqual_8 ?_
  refine pw_aload_n (pc := 9) hG d_Se_areEqual_9 rfl ?_
  refine pw_getP (pc := 10) hG o0 1 (Or.inr rfl) m_133 d_Se_areEqual_10 (fun t10 et10 ot10 => ?_)
  replace h := h t10 et10
  refine g7_7 (pc := 13) hG m_67 d_Se_areEqual_13 ot10 ?_
  refine pw_iload_n (pc := 16) hG d_Se_areEqual_16 rfl ?_
  obtain ⟨hi17, h⟩ := h
  refine pw_aI (pc := 17) hG (q_arr hΛ ot10 rfl (by decide)) hi17 d_Se_areEqual_17 ?_
  obtain ⟨hrx18, hry18, ha18, hb18⟩ := h
  refine pw_icmp_eq (tgt := 23) (pc := 18) hG d_Se_areEqual_18 (by decide) hrx18 hry18 (fun hc18 => ?_) (fun hc18 => ?_)
  · replace h := ha18 hc18
    refine pw_iconst (pc := 23) hG d_Se_areEqual_23 ?_
    refine pw_ist_n (pc := 24) hG d_Se_areEqual_24 (by decide) rfl ?_
    obtain ⟨n24, h⟩ := h
    exact pw_sub hG [0, 1, 2, 3] rfl (b_Se_areEqual_25 hG hR n24 v0 v1 v2 0 S o0 h)
  · replace h := hb18 hc18
    refine pw_iconst (pc := 21) hG d_Se_areEqual_21 ?_
    exact hR 22 _ _ _ d_Se_areEqual_22 (Or.inl rfl) h
theorem ct_Se_areEqual (l : Launch) (Δ : QDl) {Λ : QLay} (hΛ : LayOk Λ) {v0 : Nat} {v1 : Int} {v2 : Int} {S : QMem} {Q : Int → QMem → Prop} (o0 : qob Λ 4 v0) (h : w_Se_areEqual Λ v0 v1 v2 S Q) : QCt l y_Se_areEqual c_Se_areEqual 4 (some .boolean) 1 22 Δ Λ [.ref v0, vI v1, vI v2] S (qI Q) :=
  QCt.mk (own := "TreeDiffer$Setup") hΛ (by decide) rfl rfl (Nat.le_of_ble_eq_true rfl) (fun G hG ri rz rv rj ra => b_Se_areEqual_0 hG (fun pc lv x S d hb hq => rz pc lv x S rfl d hb ⟨x, rfl, hq⟩) v0 v1 v2 S o0 h)
theorem k_Se_kinship : QVf y_Se_kinship c_Se_kinship 6 (some .int) "TreeDiffer$Setup" 2 := ⟨m_535, m_536, m_4, m_537, by decide +kernel⟩
theorem b_Se_kinship_24 {Λ : QLay} {G : Nat → List (Nat × Value) → List Value → QMem → Prop} {Q : Int → QMem → Prop} (hG : QAct c_Se_kinship "TreeDiffer$Setup" 6 { frames := 0, cells := 0, slots := 0, locals := 0 } Λ G) (hR : RtI c_Se_kinship G Q) : ∀ (n : Nat) (v0 : Nat) (v3 : Int) (v4 : Int) (v5 : Int) (S : QMem), qob Λ 4 v0 → w_Se_kinship_24 Λ Q n v0 v3 v4 v5 S → G 24 [(0, .ref v0), (3, vI v3), (4, vI v4), (5, vI v5)] [] S := by
  have hΛ := hG.lay
  intro n
  induction n with
  | zero => intro v0 v3 v4 v5 S o_v0 h; exact h.elim
  | succ n ih =>
    intro v0 v3 v4 v5 S o_v0 h
    rw [w_Se_kinship_24] at h
    refine pw_iload (pc := 24) hG d_Se_kinship_24 rfl ?_
    refine pw_bipush (pc := 26) hG d_Se_kinship_26 (by decide) ?_
    obtain ⟨hrx28, ha28, hb28⟩ := h
    refine pw_icmp_ge (tgt := 93) (pc := 28) hG d_Se_kinship_28 (by decide) hrx28 (q_lit rfl) (fun hc28 => ?_) (fun hc28 => ?_)
    · replace h := ha28 hc28
      refine pw_bipush (pc := 93) hG d_Se_kinship_93 (by decide) ?_
      exact hR 95 _ _ _ d_Se_kinship_95 h
    · replace h := hb28 hc28
      refine pw_iload_n (pc := 31) hG d_Se_kinship_31 rfl ?_
      obtain ⟨hrx32, ha32, hb32⟩ := h
      refine pw_if_lt (tgt := 62) (pc := 32) hG d_Se_kinship_32 (by decide) hrx32 (fun hc32 => ?_) (fun hc32 => ?_)
      · replace h := ha32 hc32
        refine pw_iload (pc := 62) hG d_Se_kinship_62 rfl ?_
        exact hR 64 _ _ _ d_Se_kinship_64 h
      · replace h := hb32 hc32
        refine pw_iload (pc := 35) hG d_Se_kinship_35 rfl ?_
        obtain ⟨hrx37, ha37, hb37⟩ := h
        refine pw_if_lt (tgt := 62) (pc := 37) hG d_Se_kinship_37 (by decide) hrx37 (fun hc37 => ?_) (fun hc37 => ?_)
        · replace h := ha37 hc37
          refine pw_iload (pc := 62) hG d_Se_kinship_62 rfl ?_
          exact hR 64 _ _ _ d_Se_kinship_64 h
        · replace h := hb37 hc37
          refine pw_aload_n (pc := 40) hG d_Se_kinship_40 rfl ?_
          refine pw_getP (pc := 41) hG o_v0 0 (Or.inl rfl) m_128 d_Se_kinship_41 (fun t41 et41 ot41 => ?_)
          replace h := h t41 et41
          refine g7_1 (pc := 44) hG m_42 d_Se_kinship_44 ot41 ?_
          refine pw_iload_n (pc := 47) hG d_Se_kinship_47 rfl ?_
          obtain ⟨hi48, h⟩ := h
          refine pw_aI (pc := 48) hG (q_arr hΛ ot41 rfl (by decide)) hi48 d_Se_kinship_48 ?_
          refine pw_aload_n (pc := 49) hG d_Se_kinship_49 rfl ?_
          refine pw_getP (pc := 50) hG o_v0 1 (Or.inr rfl) m_133 d_Se_kinship_50 (fun t50 et50 ot50 => ?_)
          replace h := h t50 et50
          refine g7_1 (pc := 53) hG m_42 d_Se_kinship_53 ot50 ?_
          refine pw_iload (pc := 56) hG d_Se_kinship_56 rfl ?_
          obtain ⟨hi58, h⟩ := h
          refine pw_aI (pc := 58) hG (q_arr hΛ ot50 rfl (by decide)) hi58 d_Se_kinship_58 ?_
          obtain ⟨hrx59, hry59, ha59, hb59⟩ := h
          refine pw_icmp_eq (tgt := 65) (pc := 59) hG d_Se_kinship_59 (by decide) hrx59 hry59 (fun hc59 => ?_) (fun hc59 => ?_)
          · replace h := ha59 hc59
            refine pw_aload_n (pc := 65) hG d_Se_kinship_65 rfl ?_
            refine pw_getP (pc := 66) hG o_v0 0 (Or.inl rfl) m_128 d_Se_kinship_66 (fun t66 et66 ot66 => ?_)
            replace h := h t66 et66
            refine g7_3 (pc := 69) hG m_55 d_Se_kinship_69 ot66 ?_
            refine pw_iload_n (pc := 72) hG d_Se_kinship_72 rfl ?_
            obtain ⟨hi73, h⟩ := h
            refine pw_aI (pc := 73) hG (q_arr hΛ ot66 rfl (by decide)) hi73 d_Se_kinship_73 ?_
            refine pw_istore_n (pc := 74) hG d_Se_kinship_74 (by decide) (fun x74 ex74 => ⟨_, rfl, ?_⟩)
            replace h := h x74 ex74
            refine pw_aload_n (pc := 75) hG d_Se_kinship_75 rfl ?_
            refine pw_getP (pc := 76) hG o_v0 1 (Or.inr rfl) m_133 d_Se_kinship_76 (fun t76 et76 ot76 => ?_)
            replace h := h t76 et76
            refine g7_3 (pc := 79) hG m_55 d_Se_kinship_79 ot76 ?_
            refine pw_iload (pc := 82) hG d_Se_kinship_82 rfl ?_
            obtain ⟨hi84, h⟩ := h
            refine pw_aI (pc := 84) hG (q_arr hΛ ot76 rfl (by decide)) hi84 d_Se_kinship_84 ?_
            refine pw_istore (pc := 85) hG d_Se_kinship_85 (by decide) (fun x85 ex85 => ⟨_, rfl, ?_⟩)
            replace h := h x85 ex85
            refine pw_iinc0 (pc := 87) hG d_Se_kinship_87 rfl (by decide) rfl ?_
            refine pw_goto (tgt := 24) (pc := 90) hG d_Se_kinship_90 (by decide) ?_
            exact pw_sub hG [0, 3, 4, 5] rfl (ih v0 x74 x85 (v5 + 1) S o_v0 h)
          · replace h := hb59 hc59
            refine pw_iload (pc := 62) hG d_Se_kinship_62 rfl ?_
            exact hR 64 _ _ _ d_Se_kinship_64 h
theorem b_Se_kinship_0 {Λ : QLay} {G : Nat → List (Nat × Value) → List Value → QMem → Prop} {Q : Int → QMem → Prop} (hG : QAct c_Se_kinship "TreeDiffer$Setup" 6 { frames := 0, cells := 0, slots := 0, locals := 0 } Λ G) (hR : RtI c_Se_kinship G Q) (v0 : Nat) (v1 : Int) (v2 : Int) (S : QMem) (o0 : qob Λ 4 v0) (h : w_Se_kinship Λ v0 v1 v2 S Q) : G 0 [(0, .ref v0), (1, vI v1), (2, vI v2)] [] S := by
  have hΛ := hG.lay
  unfold w_Se_kinship at h
  refine pw_aload_n (pc := 0) hG d_Se_kinship_0 rfl ?_
  refine pw_getP (pc := 1) hG o0 0 (Or.inl rfl) m_128 d_Se_kinship_1 (fun t1 et1 ot1 => ?_)
  replace h := h t1 et1
  refine g7_3 (pc := 4) hG m_55 d_Se_kinship_4 ot1 ?_
  refine pw_iload_n (pc := 7) hG d_Se_kinship_7 rfl ?_
  obtain ⟨hi8, h⟩ := h
  refine pw_aI (pc := 8) hG (q_arr hΛ ot1 rfl (by decide)) hi8 d_Se_kinship_8 ?_
  refine pw_istore_n (pc := 9) hG d_Se_kinship_9 (by decide) (fun x9 ex9 => ⟨_, rfl, ?_⟩)
  replace h := h x9 ex9
  refine pw_aload_n (pc := 10) hG d_Se_kinship_10 rfl ?_
  refine pw_getP (pc := 11) hG o0 1 (Or.inr rfl) m_133 d_Se_kinship_11 (fun t11 et11 ot11 => ?_)
  replace h := h t11 et11
  refine g7_3 (pc := 14) hG m_55 d_Se_kinship_14 ot11 ?_
  refine pw_iload_n (pc := 17) hG d_Se_kinship_17 rfl ?_
  obtain ⟨hi18, h⟩ := h
  refine pw_aI (pc := 18) hG (q_arr hΛ ot11 rfl (by decide)) hi18 d_Se_kinship_18 ?_
  refine pw_istore (pc := 19) hG d_Se_kinship_19 (by decide) (fun x19 ex19 => ⟨_, rfl, ?_⟩)
  replace h := h x19 ex19
  refine pw_iconst (pc := 21) hG d_Se_kinship_21 ?_
  refine pw_ist (pc := 22) hG d_Se_kinship_22 (by decide) rfl ?_
  obtain ⟨n22, h⟩ := h
  exact pw_sub hG [0, 3, 4, 5] rfl (b_Se_kinship_24 hG hR n22 v0 x9 x19 0 S o0 h)
theorem ct_Se_kinship (l : Launch) (Δ : QDl) {Λ : QLay} (hΛ : LayOk Λ) {v0 : Nat} {v1 : Int} {v2 : Int} {S : QMem} {Q : Int → QMem → Prop} (o0 : qob Λ 4 v0) (h : w_Se_kinship Λ v0 v1 v2 S Q) : QCt l y_Se_kinship c_Se_kinship 6 (some .int) 0 0 Δ Λ [.ref v0, vI v1, vI v2] S (qI Q) :=
  QCt.mk (own := "TreeDiffer$Setup") hΛ (by decide) rfl rfl (Nat.le_of_ble_eq_true rfl) (fun G hG ri rz rv rj ra => b_Se_kinship_0 hG (fun pc lv x S d hq => ri pc lv x S rfl d ⟨x, rfl, hq⟩) v0 v1 v2 S o0 h)
theorem k_Ma_nearness : QVf y_Ma_nearness c_Ma_nearness 5 (some .int) "TreeDiffer$Matching" 3 := ⟨m_529, m_p13, m_5, m_530, by decide +kernel⟩
theorem b_Ma_nearness_0 {Λ : QLay} {G : Nat → List (Nat × Value) → List Value → QMem → Prop} {Q : Int → QMem → Prop} (hG : QAct c_Ma_nearness "TreeDiffer$Matching" 5 { frames := 1, cells := 0, slots := 0, locals := 25 } Λ G) (hR : RtI c_Ma_nearness G Q) (v0 : Nat) (v1 : Nat) (v2 : Int) (v3 : Int) (S : QMem) (o0 : qob Λ 1 v0) (o1 : qob Λ 4 v1) (h : w_Ma_nearness Λ v0 v1 v2 v3 S Q) : G 0 [(0, .ref v0), (1, .ref v1), (2, vI v2), (3, vI v3)] [] S := by
  have hΛ := hG.lay
  unfold w_Ma_nearness at h
  refine pw_aload_n (pc := 0) hG d_Ma_nearness_0 rfl ?_
  refine pw_getP (pc := 1) hG o1 0 (Or.inl rfl) m_132 d_Ma_nearness_1 (fun t1 et1 ot1 => ?_)
  replace h := h t1 et1
  refine g7_4 (pc := 4) hG m_60 d_Ma_nearness_4 ot1 ?_
  refine pw_iload_n (pc := 7) hG d_Ma_nearness_7 rfl ?_
  obtain ⟨hi8, h⟩ := h
  refine pw_aI (pc := 8) hG (q_arr hΛ ot1 rfl (by decide)) hi8 d_Ma_nearness_8 ?_
  refine pw_aload_n (pc := 9) hG d_Ma_nearness_9 rfl ?_
  refine pw_getP (pc := 10) hG o1 1 (Or.inr rfl) m_136 d_Ma_nearness_10 (fun t10 et10 ot10 => ?_)
  replace h := h t10 et10
  refine g7_4 (pc := 13) hG m_60 d_Ma_nearness_13 ot10 ?_
  refine pw_iload_n (pc := 16) hG d_Ma_nearness_16 rfl ?_
  obtain ⟨hi17, h⟩ := h
  refine pw_aI (pc := 17) hG (q_arr hΛ ot10 rfl (by decide)) hi17 d_Ma_nearness_17 ?_
  refine pw_isub (pc := 18) hG d_Ma_nearness_18 ?_
  obtain ⟨hr19, h⟩ := h
  refine pw_abs (pc := 19) hG m_531 d_Ma_nearness_19 hr19 (by decide) (Nat.le_of_ble_eq_true rfl) ?_
  refine pw_istore (pc := 22) hG d_Ma_nearness_22 (by decide) (fun x22 ex22 => ⟨_, rfl, ?_⟩)
  replace h := h x22 ex22
  refine pw_bipush (pc := 24) hG d_Ma_nearness_24 (by decide) ?_
  refine pw_aload_n (pc := 26) hG d_Ma_nearness_26 rfl ?_
  refine pw_iload_n (pc := 27) hG d_Ma_nearness_27 rfl ?_
  refine pw_iload_n (pc := 28) hG d_Ma_nearness_28 rfl ?_
  refine pw_calli (pc := 29) hG (fun l Δ => ct_Se_kinship l Δ hΛ o1 h) o1 rfl (by decide) m_534 k_Se_kinship rfl ⟨by decide, by decide⟩ (Nat.le_of_ble_eq_true rfl) d_Ma_nearness_29 rfl (fun r29 S29 h => ?_)
  refine pw_imul (pc := 32) hG d_Ma_nearness_32 ?_
  refine pw_bipush (pc := 33) hG d_Ma_nearness_33 (by decide) ?_
  refine pw_iadd (pc := 35) hG d_Ma_nearness_35 ?_
  refine pw_iconst (pc := 36) hG d_Ma_nearness_36 ?_
  refine pw_isub (pc := 37) hG d_Ma_nearness_37 ?_
  refine pw_iload (pc := 38) hG d_Ma_nearness_38 rfl ?_
  refine pw_isub (pc := 40) hG d_Ma_nearness_40 ?_
  exact hR 41 _ _ _ d_Ma_nearness_41 h
theorem ct_Ma_nearness (l : Launch) (Δ : QDl) {Λ : QLay} (hΛ : LayOk Λ) {v0 : Nat} {v1 : Nat} {v2 : Int} {v3 : Int} {S : QMem} {Q : Int → QMem → Prop} (o0 : qob Λ 1 v0) (o1 : qob Λ 4 v1) (h : w_Ma_nearness Λ v0 v1 v2 v3 S Q) : QCt l y_Ma_nearness c_Ma_nearness 5 (some .int) 1 25 Δ Λ [.ref v0, .ref v1, vI v2, vI v3] S (qI Q) :=
  QCt.mk (own := "TreeDiffer$Matching") hΛ (by decide) rfl rfl (Nat.le_of_ble_eq_true rfl) (fun G hG ri rz rv rj ra => b_Ma_nearness_0 hG (fun pc lv x S d hq => ri pc lv x S rfl d ⟨x, rfl, hq⟩) v0 v1 v2 v3 S o0 o1 h)
theorem k_Ma_pair : QVf y_Ma_pair c_Ma_pair 4 none "TreeDiffer$Matching" 3 := ⟨m_540, m_p14, m_5, m_541, by decide +kernel⟩
theorem b_Ma_pair_0 {Λ : QLay} {G : Nat → List (Nat × Value) → List Value → QMem → Prop} {Q : QMem → Prop} (hG : QAct c_Ma_pair "TreeDiffer$Matching" 4 { frames := 0, cells := 0, slots := 0, locals := 0 } Λ G) (hR : RtV c_Ma_pair G Q) (v0 : Nat) (v1 : Int) (v2 : Int) (v3 : Int) (S : QMem) (o0 : qob Λ 1 v0) (h : w_Ma_pair Λ v0 v1 v2 v3 S Q) : G 0 [(0, .ref v0), (1, vI v1), (2, vI v2), (3, vI v3)] [] S := by
  have hΛ := hG.lay
  unfold w_Ma_pair at h
  refine pw_aload_n (pc := 0) hG d_Ma_pair_0 rfl ?_
  refine g1_1 (pc := 1) hG m_162 d_Ma_pair_1 o0 ?_
  refine pw_iload_n (pc := 4) hG d_Ma_pair_4 rfl ?_
  refine pw_iload_n (pc := 5) hG d_Ma_pair_5 rfl ?_
  obtain ⟨hi6, h⟩ := h
  refine pw_sI (pc := 6) hG (q_arr hΛ o0 rfl (by decide)) hi6 d_Ma_pair_6 (fun S6 eS6 => ?_)
  replace h := h S6 eS6
  refine pw_aload_n (pc := 7) hG d_Ma_pair_7 rfl ?_
  refine g1_2 (pc := 8) hG m_165 d_Ma_pair_8 o0 ?_
  refine pw_iload_n (pc := 11) hG d_Ma_pair_11 rfl ?_
  refine pw_iload_n (pc := 12) hG d_Ma_pair_12 rfl ?_
  obtain ⟨hi13, h⟩ := h
  refine pw_sI (pc := 13) hG (q_arr hΛ o0 rfl (by decide)) hi13 d_Ma_pair_13 (fun S13 eS13 => ?_)
  replace h := h S13 eS13
  refine pw_aload_n (pc := 14) hG d_Ma_pair_14 rfl ?_
  refine g1_3 (pc := 15) hG m_168 d_Ma_pair_15 o0 ?_
  refine pw_iload_n (pc := 18) hG d_Ma_pair_18 rfl ?_
  refine pw_iload_n (pc := 19) hG d_Ma_pair_19 rfl ?_
  obtain ⟨hi20, h⟩ := h
  refine pw_sI (pc := 20) hG (q_arr hΛ o0 rfl (by decide)) hi20 d_Ma_pair_20 (fun S20 eS20 => ?_)
  replace h := h S20 eS20
  refine pw_aload_n (pc := 21) hG d_Ma_pair_21 rfl ?_
  refine pw_dup (pc := 22) hG d_Ma_pair_22 rfl ?_
  refine g1_0 (pc := 23) hG m_160 d_Ma_pair_23 o0 ?_
  refine pw_iconst (pc := 26) hG d_Ma_pair_26 ?_
  refine pw_iadd (pc := 27) hG d_Ma_pair_27 ?_
  refine p1_0 (pc := 28) hG m_160 d_Ma_pair_28 o0 (fun S28 eS28 => ?_)
  replace h := h S28 eS28
  exact hR 31 _ _ d_Ma_pair_31 h
theorem ct_Ma_pair (l : Launch) (Δ : QDl) {Λ : QLay} (hΛ : LayOk Λ) {v0 : Nat} {v1 : Int} {v2 : Int} {v3 : Int} {S : QMem} {Q : QMem → Prop} (o0 : qob Λ 1 v0) (h : w_Ma_pair Λ v0 v1 v2 v3 S Q) : QCt l y_Ma_pair c_Ma_pair 4 none 0 0 Δ Λ [.ref v0, vI v1, vI v2, vI v3] S (qV Q) :=
  QCt.mk (own := "TreeDiffer$Matching") hΛ (by decide) rfl rfl (Nat.le_of_ble_eq_true rfl) (fun G hG ri rz rv rj ra => b_Ma_pair_0 hG (fun pc lv S d hq => rv pc lv S rfl d ⟨rfl, hq⟩) v0 v1 v2 v3 S o0 h)
theorem k_Ma_pairNearest : QVf y_Ma_pairNearest c_Ma_pairNearest 9 (some .boolean) "TreeDiffer$Matching" 2 := ⟨m_524, m_p12, m_5, m_525, by decide +kernel⟩
theorem b_Ma_pairNearest_54 {Λ : QLay} {G : Nat → List (Nat × Value) → List Value → QMem → Prop} {Q : Int → QMem → Prop} (hG : QAct c_Ma_pairNearest "TreeDiffer$Matching" 9 { frames := 2, cells := 0, slots := 0, locals := 49 } Λ G) (hR : RtZ c_Ma_pairNearest G Q) {K11 : Nat → Nat → Int → Int → Int → Int → Int → QMem → Prop} (hK11 : ∀ (v0 : Nat) (v1 : Nat) (v2 : Int) (v3 : Int) (v4 : Int) (v5 : Int) (v6 : Int) (S : QMem), qob Λ 1 v0 → qob Λ 4 v1 → K11 v0 v1 v2 v3 v4 v5 v6 S → G 11 [(0, .ref v0), (1, .ref v1), (2, vI v2), (3, vI v3), (4, vI v4), (5, vI v5), (6, vI v6)] [] S) : ∀ (n : Nat) (v0 : Nat) (v1 : Nat) (v2 : Int) (v3 : Int) (v4 : Int) (v5 : Int) (v6 : Int) (v7 : Int) (S : QMem), qob Λ 1 v0 → qob Λ 4 v1 → w_Ma_pairNearest_54 Λ K11 Q n v0 v1 v2 v3 v4 v5 v6 v7 S → G 54 [(0, .ref v0), (1, .ref v1), (2, vI v2), (3, vI v3), (4, vI v4), (5, vI v5), (6, vI v6), (7, vI v7)] [] S := by
  have hΛ := hG.lay
  intro n
  induction n with
  | zero => intro v0 v1 v2 v3 v4 v5 v6 v7 S o_v0 o_v1 h; exact h.elim
  | succ n ih =>
    intro v0 v1 v2 v3 v4 v5 v6 v7 S o_v0 o_v1 h
    rw [w_Ma_pairNearest_54] at h
    refine pw_iload (pc := 54) hG d_Ma_pairNearest_54 rfl ?_
    refine pw_aload_n (pc := 56) hG d_Ma_pairNearest_56 rfl ?_
    refine pw_getP (pc := 57) hG o_v1 1 (Or.inr rfl) m_136 d_Ma_pairNearest_57 (fun t57 et57 ot57 => ?_)
    replace h := h t57 et57
    refine g7_0 (pc := 60) hG m_38 d_Ma_pairNearest_60 ot57 ?_
    obtain ⟨hrx63, hry63, ha63, hb63⟩ := h
    refine pw_icmp_ge (tgt := 126) (pc := 63) hG d_Ma_pairNearest_63 (by decide) hrx63 hry63 (fun hc63 => ?_) (fun hc63 => ?_)
    · replace h := ha63 hc63
      refine pw_iinc0 (pc := 126) hG d_Ma_pairNearest_126 rfl (by decide) rfl ?_
      refine pw_goto (tgt := 11) (pc := 129) hG d_Ma_pairNearest_129 (by decide) ?_
      exact pw_sub hG [0, 1, 2, 3, 4, 5, 6] rfl (hK11 v0 v1 v2 v3 v4 v5 (v6 + 1) S o_v0 o_v1 h)
    · replace h := hb63 hc63
      refine pw_aload_n (pc := 66) hG d_Ma_pairNearest_66 rfl ?_
      refine g1_2 (pc := 67) hG m_165 d_Ma_pairNearest_67 o_v0 ?_
      refine pw_iload (pc := 70) hG d_Ma_pairNearest_70 rfl ?_
      obtain ⟨hi72, h⟩ := h
      refine pw_aI (pc := 72) hG (q_arr hΛ o_v0 rfl (by decide)) hi72 d_Ma_pairNearest_72 ?_
      refine pw_iconst (pc := 73) hG d_Ma_pairNearest_73 ?_
      obtain ⟨hrx74, ha74, hb74⟩ := h
      refine pw_icmp_ne (tgt := 120) (pc := 74) hG d_Ma_pairNearest_74 (by decide) hrx74 (q_lit rfl) (fun hc74 => ?_) (fun hc74 => ?_)
      · replace h := ha74 hc74
        refine pw_iinc0 (pc := 120) hG d_Ma_pairNearest_120 rfl (by decide) rfl ?_
        refine pw_goto (tgt := 54) (pc := 123) hG d_Ma_pairNearest_123 (by decide) ?_
        exact pw_sub hG [0, 1, 2, 3, 4, 5, 6, 7] rfl (ih v0 v1 v2 v3 v4 v5 v6 (v7 + 1) S o_v0 o_v1 h)
      · replace h := hb74 hc74
        refine pw_aload_n (pc := 77) hG d_Ma_pairNearest_77 rfl ?_
        refine pw_iload (pc := 78) hG d_Ma_pairNearest_78 rfl ?_
        refine pw_iload (pc := 80) hG d_Ma_pairNearest_80 rfl ?_
        refine pw_calli (pc := 82) hG (fun l Δ => ct_Se_areEqual l Δ hΛ o_v1 h) o_v1 rfl (by decide) m_526 k_Se_areEqual rfl ⟨by decide, by decide⟩ (Nat.le_of_ble_eq_true rfl) d_Ma_pairNearest_82 rfl (fun r82 S82 h => ?_)
        obtain ⟨hrx85, ha85, hb85⟩ := h
        refine pw_if_ne (tgt := 91) (pc := 85) hG d_Ma_pairNearest_85 (by decide) hrx85 (fun hc85 => ?_) (fun hc85 => ?_)
        · replace h := ha85 hc85
          refine pw_aload_n (pc := 91) hG d_Ma_pairNearest_91 rfl ?_
          refine pw_aload_n (pc := 92) hG d_Ma_pairNearest_92 rfl ?_
          refine pw_iload (pc := 93) hG d_Ma_pairNearest_93 rfl ?_
          refine pw_iload (pc := 95) hG d_Ma_pairNearest_95 rfl ?_
          refine pw_calli (pc := 97) hG (fun l Δ => ct_Ma_nearness l Δ hΛ o_v0 o_v1 h) o_v0 rfl (by decide) m_527 k_Ma_nearness rfl ⟨by decide, by decide⟩ (Nat.le_of_ble_eq_true rfl) d_Ma_pairNearest_97 rfl (fun r97 S97 h => ?_)
          refine pw_ist (pc := 100) hG d_Ma_pairNearest_100 (by decide) rfl ?_
          refine pw_iload (pc := 102) hG d_Ma_pairNearest_102 rfl ?_
          refine pw_iload (pc := 104) hG d_Ma_pairNearest_104 rfl ?_
          obtain ⟨hrx106, hry106, ha106, hb106⟩ := h
          refine pw_icmp_le (tgt := 120) (pc := 106) hG d_Ma_pairNearest_106 (by decide) hrx106 hry106 (fun hc106 => ?_) (fun hc106 => ?_)
          · replace h := ha106 hc106
            refine pw_iinc0 (pc := 120) hG d_Ma_pairNearest_120 rfl (by decide) rfl ?_
            refine pw_goto (tgt := 54) (pc := 123) hG d_Ma_pairNearest_123 (by decide) ?_
            exact pw_sub hG [0, 1, 2, 3, 4, 5, 6, 7] rfl (ih v0 v1 v2 v3 v4 v5 v6 (v7 + 1) S97 o_v0 o_v1 h)
          · replace h := hb106 hc106
            refine pw_iload (pc := 109) hG d_Ma_pairNearest_109 rfl ?_
            refine pw_ist (pc := 111) hG d_Ma_pairNearest_111 (by decide) rfl ?_
            refine pw_iload (pc := 113) hG d_Ma_pairNearest_113 rfl ?_
            refine pw_ist_n (pc := 115) hG d_Ma_pairNearest_115 (by decide) rfl ?_
            refine pw_iload (pc := 116) hG d_Ma_pairNearest_116 rfl ?_
            refine pw_ist (pc := 118) hG d_Ma_pairNearest_118 (by decide) rfl ?_
            refine pw_iinc0 (pc := 120) hG d_Ma_pairNearest_120 rfl (by decide) rfl ?_
            refine pw_goto (tgt := 54) (pc := 123) hG d_Ma_pairNearest_123 (by decide) ?_
            exact pw_sub hG [0, 1, 2, 3, 4, 5, 6, 7] rfl (ih v0 v1 v2 v6 v7 r97 v6 (v7 + 1) S97 o_v0 o_v1 h)
        · replace h := hb85 hc85
          refine pw_goto (tgt := 120) (pc := 88) hG d_Ma_pairNearest_88 (by decide) ?_
          refine pw_iinc0 (pc := 120) hG d_Ma_pairNearest_120 rfl (by decide) rfl ?_
          refine pw_goto (tgt := 54) (pc := 123) hG d_Ma_pairNearest_123 (by decide) ?_
          exact pw_sub hG [0, 1, 2, 3, 4, 5, 6, 7] rfl (ih v0 v1 v2 v3 v4 v5 v6 (v7 + 1) S82 o_v0 o_v1 h)
theorem b_Ma_pairNearest_148 {Λ : QLay} {G : Nat → List (Nat × Value) → List Value → QMem → Prop} {Q : Int → QMem → Prop} (hG : QAct c_Ma_pairNearest "TreeDiffer$Matching" 9 { frames := 2, cells := 0, slots := 0, locals := 49 } Λ G) (hR : RtZ c_Ma_pairNearest G Q) : ∀ (n : Nat) (v0 : Nat) (v1 : Nat) (v3 : Int) (v4 : Int) (v6 : Int) (S : QMem), qob Λ 1 v0 → qob Λ 4 v1 → w_Ma_pairNearest_148 Λ Q n v0 v1 v3 v4 v6 S → G 148 [(0, .ref v0), (1, .ref v1), (3, vI v3), (4, vI v4), (6, vI v6)] [] S := by
  have hΛ := hG.lay
  intro n
  induction n with
  | zero => intro v0 v1 v3 v4 v6 S o_v0 o_v1 h; exact h.elim
  | succ n ih =>
    intro v0 v1 v3 v4 v6 S o_v0 o_v1 h
    rw [w_Ma_pairNearest_148] at h
    refine pw_iload (pc := 148) hG d_Ma_pairNearest_148 rfl ?_
    refine pw_aload_n (pc := 150) hG d_Ma_pairNearest_150 rfl ?_
    refine pw_getP (pc := 151) hG o_v1 0 (Or.inl rfl) m_132 d_Ma_pairNearest_151 (fun t151 et151 ot151 => ?_)
    replace h := h t151 et151
    refine g7_7 (pc := 154) hG m_66 d_Ma_pairNearest_154 ot151 ?_
    refine pw_iload_n (pc := 157) hG d_Ma_pairNearest_157 rfl ?_
    obtain ⟨hi158, h⟩ := h
    refine pw_aI (pc := 158) hG (q_arr hΛ ot151 rfl (by decide)) hi158 d_Ma_pairNearest_158 ?_
    obtain ⟨hrx159, hry159, ha159, hb159⟩ := h
    refine pw_icmp_gt (tgt := 182) (pc := 159) hG d_Ma_pairNearest_159 (by decide) hrx159 hry159 (fun hc159 => ?_) (fun hc159 => ?_)
    · replace h := ha159 hc159
      refine pw_iconst (pc := 182) hG d_Ma_pairNearest_182 ?_
      exact hR 183 _ _ _ d_Ma_pairNearest_183 (Or.inr rfl) h
    · replace h := hb159 hc159
      refine pw_aload_n (pc := 162) hG d_Ma_pairNearest_162 rfl ?_
      refine pw_iload_n (pc := 163) hG d_Ma_pairNearest_163 rfl ?_
      refine pw_iload (pc := 164) hG d_Ma_pairNearest_164 rfl ?_
      refine pw_iadd (pc := 166) hG d_Ma_pairNearest_166 ?_
      refine pw_iload (pc := 167) hG d_Ma_pairNearest_167 rfl ?_
      refine pw_iload (pc := 169) hG d_Ma_pairNearest_169 rfl ?_
      refine pw_iadd (pc := 171) hG d_Ma_pairNearest_171 ?_
      refine pw_iconst (pc := 172) hG d_Ma_pairNearest_172 ?_
      refine pw_callv (pc := 173) hG (fun l Δ => ct_Ma_pair l Δ hΛ o_v0 h) o_v0 rfl (by decide) m_538 k_Ma_pair rfl ⟨by decide, by decide⟩ (Nat.le_of_ble_eq_true rfl) d_Ma_pairNearest_173 rfl (fun S173 h => ?_)
      refine pw_iinc0 (pc := 176) hG d_Ma_pairNearest_176 rfl (by decide) rfl ?_
      refine pw_goto (tgt := 148) (pc := 179) hG d_Ma_pairNearest_179 (by decide) ?_
      exact pw_sub hG [0, 1, 3, 4, 6] rfl (ih v0 v1 v3 v4 (v6 + 1) S173 o_v0 o_v1 h)
theorem b_Ma_pairNearest_11 {Λ : QLay} {G : Nat → List (Nat × Value) → List Value → QMem → Prop} {Q : Int → QMem → Prop} (hG : QAct c_Ma_pairNearest "TreeDiffer$Matching" 9 { frames := 2, cells := 0, slots := 0, locals := 49 } Λ G) (hR : RtZ c_Ma_pairNearest G Q) : ∀ (n : Nat) (v0 : Nat) (v1 : Nat) (v2 : Int) (v3 : Int) (v4 : Int) (v5 : Int) (v6 : Int) (S : QMem), qob Λ 1 v0 → qob Λ 4 v1 → w_Ma_pairNearest_11 Λ Q n v0 v1 v2 v3 v4 v5 v6 S → G 11 [(0, .ref v0), (1, .ref v1), (2, vI v2), (3, vI v3), (4, vI v4), (5, vI v5), (6, vI v6)] [] S := by
  have hΛ := hG.lay
  intro n
  induction n with
  | zero => intro v0 v1 v2 v3 v4 v5 v6 S o_v0 o_v1 h; exact h.elim
  | succ n ih =>
    intro v0 v1 v2 v3 v4 v5 v6 S o_v0 o_v1 h
    rw [w_Ma_pairNearest_11] at h
    refine pw_iload (pc := 11) hG d_Ma_pairNearest_11 rfl ?_
    refine pw_aload_n (pc := 13) hG d_Ma_pairNearest_13 rfl ?_
    refine pw_getP (pc := 14) hG o_v1 0 (Or.inl rfl) m_132 d_Ma_pairNearest_14 (fun t14 et14 ot14 => ?_)
    replace h := h t14 et14
    refine g7_0 (pc := 17) hG m_38 d_Ma_pairNearest_17 ot14 ?_
    obtain ⟨hrx20, hry20, ha20, hb20⟩ := h
    refine pw_icmp_ge (tgt := 132) (pc := 20) hG d_Ma_pairNearest_20 (by decide) hrx20 hry20 (fun hc20 => ?_) (fun hc20 => ?_)
    · replace h := ha20 hc20
      refine pw_iload_n (pc := 132) hG d_Ma_pairNearest_132 rfl ?_
      refine pw_iconst (pc := 133) hG d_Ma_pairNearest_133 ?_
      obtain ⟨hrx134, ha134, hb134⟩ := h
      refine pw_icmp_eq (tgt := 143) (pc := 134) hG d_Ma_pairNearest_134 (by decide) hrx134 (q_lit rfl) (fun hc134 => ?_) (fun hc134 => ?_)
      · replace h := ha134 hc134
        refine pw_iconst (pc := 143) hG d_Ma_pairNearest_143 ?_
        exact hR 144 _ _ _ d_Ma_pairNearest_144 (Or.inl rfl) h
      · replace h := hb134 hc134
        refine pw_iload (pc := 137) hG d_Ma_pairNearest_137 rfl ?_
        refine pw_iconst (pc := 139) hG d_Ma_pairNearest_139 ?_
        obtain ⟨hrx140, ha140, hb140⟩ := h
        refine pw_icmp_ne (tgt := 145) (pc := 140) hG d_Ma_pairNearest_140 (by decide) hrx140 (q_lit rfl) (fun hc140 => ?_) (fun hc140 => ?_)
        · replace h := ha140 hc140
          refine pw_iconst (pc := 145) hG d_Ma_pairNearest_145 ?_
          refine pw_ist (pc := 146) hG d_Ma_pairNearest_146 (by decide) rfl ?_
          obtain ⟨n146, h⟩ := h
          exact pw_sub hG [0, 1, 3, 4, 6] rfl (b_Ma_pairNearest_148 hG hR n146 v0 v1 v3 v4 0 S o_v0 o_v1 h)
        · replace h := hb140 hc140
          refine pw_iconst (pc := 143) hG d_Ma_pairNearest_143 ?_
          exact hR 144 _ _ _ d_Ma_pairNearest_144 (Or.inl rfl) h
    · replace h := hb20 hc20
      refine pw_aload_n (pc := 23) hG d_Ma_pairNearest_23 rfl ?_
      refine g1_1 (pc := 24) hG m_162 d_Ma_pairNearest_24 o_v0 ?_
      refine pw_iload (pc := 27) hG d_Ma_pairNearest_27 rfl ?_
      obtain ⟨hi29, h⟩ := h
      refine pw_aI (pc := 29) hG (q_arr hΛ o_v0 rfl (by decide)) hi29 d_Ma_pairNearest_29 ?_
      refine pw_iconst (pc := 30) hG d_Ma_pairNearest_30 ?_
      obtain ⟨hrx31, ha31, hb31⟩ := h
      refine pw_icmp_ne (tgt := 126) (pc := 31) hG d_Ma_pairNearest_31 (by decide) hrx31 (q_lit rfl) (fun hc31 => ?_) (fun hc31 => ?_)
      · replace h := ha31 hc31
        refine pw_iinc0 (pc := 126) hG d_Ma_pairNearest_126 rfl (by decide) rfl ?_
        refine pw_goto (tgt := 11) (pc := 129) hG d_Ma_pairNearest_129 (by decide) ?_
        exact pw_sub hG [0, 1, 2, 3, 4, 5, 6] rfl (ih v0 v1 v2 v3 v4 v5 (v6 + 1) S o_v0 o_v1 h)
      · replace h := hb31 hc31
        refine pw_aload_n (pc := 34) hG d_Ma_pairNearest_34 rfl ?_
        refine pw_getP (pc := 35) hG o_v1 0 (Or.inl rfl) m_132 d_Ma_pairNearest_35 (fun t35 et35 ot35 => ?_)
        replace h := h t35 et35
        refine g7_8 (pc := 38) hG m_71 d_Ma_pairNearest_38 ot35 ?_
        refine pw_iload (pc := 41) hG d_Ma_pairNearest_41 rfl ?_
        obtain ⟨hi43, h⟩ := h
        refine pw_aI (pc := 43) hG (q_arr hΛ ot35 rfl (by decide)) hi43 d_Ma_pairNearest_43 ?_
        refine pw_iload_n (pc := 44) hG d_Ma_pairNearest_44 rfl ?_
        obtain ⟨hrx45, hry45, ha45, hb45⟩ := h
        refine pw_icmp_eq (tgt := 51) (pc := 45) hG d_Ma_pairNearest_45 (by decide) hrx45 hry45 (fun hc45 => ?_) (fun hc45 => ?_)
        · replace h := ha45 hc45
          refine pw_iconst (pc := 51) hG d_Ma_pairNearest_51 ?_
          refine pw_ist (pc := 52) hG d_Ma_pairNearest_52 (by decide) rfl ?_
          obtain ⟨n52, h⟩ := h
          exact pw_sub hG [0, 1, 2, 3, 4, 5, 6, 7] rfl (b_Ma_pairNearest_54 hG hR ih n52 v0 v1 v2 v3 v4 v5 v6 0 S o_v0 o_v1 h)
        · replace h := hb45 hc45
          refine pw_goto (tgt := 126) (pc := 48) hG d_Ma_pairNearest_48 (by decide) ?_
          refine pw_iinc0 (pc := 126) hG d_Ma_pairNearest_126 rfl (by decide) rfl ?_
          refine pw_goto (tgt := 11) (pc := 129) hG d_Ma_pairNearest_129 (by decide) ?_
          exact pw_sub hG [0, 1, 2, 3, 4, 5, 6] rfl (ih v0 v1 v2 v3 v4 v5 (v6 + 1) S o_v0 o_v1 h)
theorem b_Ma_pairNearest_0 {Λ : QLay} {G : Nat → List (Nat × Value) → List Value → QMem → Prop} {Q : Int → QMem → Prop} (hG : QAct c_Ma_pairNearest "TreeDiffer$Matching" 9 { frames := 2, cells := 0, slots := 0, locals := 49 } Λ G) (hR : RtZ c_Ma_pairNearest G Q) (v0 : Nat) (v1 : Nat) (v2 : Int) (S : QMem) (o0 : qob Λ 1 v0) (o1 : qob Λ 4 v1) (h : w_Ma_pairNearest Λ v0 v1 v2 S Q) : G 0 [(0, .ref v0), (1, .ref v1), (2, vI v2)] [] S := by
  have hΛ := hG.lay
  unfold w_Ma_pairNearest at h
  refine pw_iconst (pc := 0) hG d_Ma_pairNearest_0 ?_
  refine pw_ist_n (pc := 1) hG d_Ma_pairNearest_1 (by decide) rfl ?_
  refine pw_iconst (pc := 2) hG d_Ma_pairNearest_2 ?_
  refine pw_ist (pc := 3) hG d_Ma_pairNearest_3 (by decide) rfl ?_
  refine pw_iconst (pc := 5) hG d_Ma_pairNearest_5 ?_
  refine pw_ist (pc := 6) hG d_Ma_pairNearest_6 (by decide) rfl ?_
  refine pw_iconst (pc := 8) hG d_Ma_pairNearest_8 ?_
  refine pw_ist (pc := 9) hG d_Ma_pairNearest_9 (by decide) rfl ?_
  obtain ⟨n9, h⟩ := h
  exact pw_sub hG [0, 1, 2, 3, 4, 5, 6] rfl (b_Ma_pairNearest_11 hG hR n9 v0 v1 v2 (-1) (-1) (-1) 0 S o0 o1 h)
theorem ct_Ma_pairNearest (l : Launch) (Δ : QDl) {Λ : QLay} (hΛ : LayOk Λ) {v0 : Nat} {v1 : Nat} {v2 : Int} {S : QMem} {Q : Int → QMem → Prop} (o0 : qob Λ 1 v0) (o1 : qob Λ 4 v1) (h : w_Ma_pairNearest Λ v0 v1 v2 S Q) : QCt l y_Ma_pairNearest c_Ma_pairNearest 9 (some .boolean) 2 49 Δ Λ [.ref v0, .ref v1, vI v2] S (qI Q) :=
  QCt.mk (own := "TreeDiffer$Matching") hΛ (by decide) rfl rfl (Nat.le_of_ble_eq_true rfl) (fun G hG ri rz rv rj ra => b_Ma_pairNearest_0 hG (fun pc lv x S d hb hq => rz pc lv x S rfl d hb ⟨x, rfl, hq⟩) v0 v1 v2 S o0 o1 h)
theorem k_Ma_pairEqualSubtrees : QVf y_Ma_pairEqualSubtrees c_Ma_pairEqualSubtrees 6 none "TreeDiffer$Matching" 1 := ⟨m_517, m_p11, m_5, m_518, by decide +kernel⟩
theorem b_Ma_pairEqualSubtrees_38 {Λ : QLay} {G : Nat → List (Nat × Value) → List Value → QMem → Prop} {Q : QMem → Prop} (hG : QAct c_Ma_pairEqualSubtrees "TreeDiffer$Matching" 6 { frames := 3, cells := 0, slots := 0, locals := 77 } Λ G) (hR : RtV c_Ma_pairEqualSubtrees G Q) {K24 : Nat → Nat → Int → QMem → Prop} (hK24 : ∀ (v0 : Nat) (v1 : Nat) (v3 : Int) (S : QMem), qob Λ 1 v0 → qob Λ 4 v1 → K24 v0 v1 v3 S → G 24 [(0, .ref v0), (1, .ref v1), (3, vI v3)] [] S) : ∀ (n : Nat) (v0 : Nat) (v1 : Nat) (v3 : Int) (v4 : Int) (v5 : Int) (S : QMem), qob Λ 1 v0 → qob Λ 4 v1 → w_Ma_pairEqualSubtrees_38 Λ K24 Q n v0 v1 v3 v4 v5 S → G 38 [(0, .ref v0), (1, .ref v1), (3, vI v3), (4, vI v4), (5, vI v5)] [] S := by
  have hΛ := hG.lay
  intro n
  induction n with
  | zero => intro v0 v1 v3 v4 v5 S o_v0 o_v1 h; exact h.elim
  | succ n ih =>
    intro v0 v1 v3 v4 v5 S o_v0 o_v1 h
    rw [w_Ma_pairEqualSubtrees_38] at h
    refine pw_iload (pc := 38) hG d_Ma_pairEqualSubtrees_38 rfl ?_
    refine pw_bipush (pc := 40) hG d_Ma_pairEqualSubtrees_40 (by decide) ?_
    obtain ⟨hrx42, ha42, hb42⟩ := h
    refine pw_icmp_ge (tgt := 64) (pc := 42) hG d_Ma_pairEqualSubtrees_42 (by decide) hrx42 (q_lit rfl) (fun hc42 => ?_) (fun hc42 => ?_)
    · replace h := ha42 hc42
      refine pw_iinc0 (pc := 64) hG d_Ma_pairEqualSubtrees_64 rfl (by decide) rfl ?_
      refine pw_goto (tgt := 24) (pc := 67) hG d_Ma_pairEqualSubtrees_67 (by decide) ?_
      exact pw_sub hG [0, 1, 3] rfl (hK24 v0 v1 (v3 + (-1)) S o_v0 o_v1 h)
    · replace h := hb42 hc42
      refine pw_iload (pc := 45) hG d_Ma_pairEqualSubtrees_45 rfl ?_
      obtain ⟨hrx47, ha47, hb47⟩ := h
      refine pw_if_eq (tgt := 64) (pc := 47) hG d_Ma_pairEqualSubtrees_47 (by decide) hrx47 (fun hc47 => ?_) (fun hc47 => ?_)
      · replace h := ha47 hc47
        refine pw_iinc0 (pc := 64) hG d_Ma_pairEqualSubtrees_64 rfl (by decide) rfl ?_
        refine pw_goto (tgt := 24) (pc := 67) hG d_Ma_pairEqualSubtrees_67 (by decide) ?_
        exact pw_sub hG [0, 1, 3] rfl (hK24 v0 v1 (v3 + (-1)) S o_v0 o_v1 h)
      · replace h := hb47 hc47
        refine pw_aload_n (pc := 50) hG d_Ma_pairEqualSubtrees_50 rfl ?_
        refine pw_aload_n (pc := 51) hG d_Ma_pairEqualSubtrees_51 rfl ?_
        refine pw_iload_n (pc := 52) hG d_Ma_pairEqualSubtrees_52 rfl ?_
        refine pw_calli (pc := 53) hG (fun l Δ => ct_Ma_pairNearest l Δ hΛ o_v0 o_v1 h) o_v0 rfl (by decide) m_522 k_Ma_pairNearest rfl ⟨by decide, by decide⟩ (Nat.le_of_ble_eq_true rfl) d_Ma_pairEqualSubtrees_53 rfl (fun r53 S53 h => ?_)
        refine pw_ist (pc := 56) hG d_Ma_pairEqualSubtrees_56 (by decide) rfl ?_
        refine pw_iinc0 (pc := 58) hG d_Ma_pairEqualSubtrees_58 rfl (by decide) rfl ?_
        refine pw_goto (tgt := 38) (pc := 61) hG d_Ma_pairEqualSubtrees_61 (by decide) ?_
        exact pw_sub hG [0, 1, 3, 4, 5] rfl (ih v0 v1 v3 r53 (v5 + 1) S53 o_v0 o_v1 h)
theorem b_Ma_pairEqualSubtrees_24 {Λ : QLay} {G : Nat → List (Nat × Value) → List Value → QMem → Prop} {Q : QMem → Prop} (hG : QAct c_Ma_pairEqualSubtrees "TreeDiffer$Matching" 6 { frames := 3, cells := 0, slots := 0, locals := 77 } Λ G) (hR : RtV c_Ma_pairEqualSubtrees G Q) : ∀ (n : Nat) (v0 : Nat) (v1 : Nat) (v3 : Int) (S : QMem), qob Λ 1 v0 → qob Λ 4 v1 → w_Ma_pairEqualSubtrees_24 Λ Q n v0 v1 v3 S → G 24 [(0, .ref v0), (1, .ref v1), (3, vI v3)] [] S := by
  have hΛ := hG.lay
  intro n
  induction n with
  | zero => intro v0 v1 v3 S o_v0 o_v1 h; exact h.elim
  | succ n ih =>
    intro v0 v1 v3 S o_v0 o_v1 h
    rw [w_Ma_pairEqualSubtrees_24] at h
    refine pw_iload_n (pc := 24) hG d_Ma_pairEqualSubtrees_24 rfl ?_
    refine pw_aload_n (pc := 25) hG d_Ma_pairEqualSubtrees_25 rfl ?_
    refine g4_2 (pc := 26) hG m_139 d_Ma_pairEqualSubtrees_26 o_v1 ?_
    obtain ⟨hrx29, hry29, ha29, hb29⟩ := h
    refine pw_icmp_lt (tgt := 70) (pc := 29) hG d_Ma_pairEqualSubtrees_29 (by decide) hrx29 hry29 (fun hc29 => ?_) (fun hc29 => ?_)
    · replace h := ha29 hc29
      exact hR 70 _ _ d_Ma_pairEqualSubtrees_70 h
    · replace h := hb29 hc29
      refine pw_iconst (pc := 32) hG d_Ma_pairEqualSubtrees_32 ?_
      refine pw_ist (pc := 33) hG d_Ma_pairEqualSubtrees_33 (by decide) rfl ?_
      refine pw_iconst (pc := 35) hG d_Ma_pairEqualSubtrees_35 ?_
      refine pw_ist (pc := 36) hG d_Ma_pairEqualSubtrees_36 (by decide) rfl ?_
      obtain ⟨n36, h⟩ := h
      exact pw_sub hG [0, 1, 3, 4, 5] rfl (b_Ma_pairEqualSubtrees_38 hG hR ih n36 v0 v1 v3 1 0 S o_v0 o_v1 h)
theorem b_Ma_pairEqualSubtrees_0 {Λ : QLay} {G : Nat → List (Nat × Value) → List Value → QMem → Prop} {Q : QMem → Prop} (hG : QAct c_Ma_pairEqualSubtrees "TreeDiffer$Matching" 6 { frames := 3, cells := 0, slots := 0, locals := 77 } Λ G) (hR : RtV c_Ma_pairEqualSubtrees G Q) (v0 : Nat) (v1 : Nat) (S : QMem) (o0 : qob Λ 1 v0) (o1 : qob Λ 4 v1) (h : w_Ma_pairEqualSubtrees Λ v0 v1 S Q) : G 0 [(0, .ref v0), (1, .ref v1)] [] S := by
  have hΛ := hG.lay
  unfold w_Ma_pairEqualSubtrees at h
  refine pw_aload_n (pc := 0) hG d_Ma_pairEqualSubtrees_0 rfl ?_
  refine pw_getP (pc := 1) hG o1 0 (Or.inl rfl) m_132 d_Ma_pairEqualSubtrees_1 (fun t1 et1 ot1 => ?_)
  replace h := h t1 et1
  refine g7_8 (pc := 4) hG m_71 d_Ma_pairEqualSubtrees_4 ot1 ?_
  refine pw_iconst (pc := 7) hG d_Ma_pairEqualSubtrees_7 ?_
  refine pw_aI (pc := 8) hG (q_arr hΛ ot1 rfl (by decide)) (by decide) d_Ma_pairEqualSubtrees_8 ?_
  refine pw_aload_n (pc := 9) hG d_Ma_pairEqualSubtrees_9 rfl ?_
  refine pw_getP (pc := 10) hG o1 1 (Or.inr rfl) m_136 d_Ma_pairEqualSubtrees_10 (fun t10 et10 ot10 => ?_)
  replace h := h t10 et10
  refine g7_8 (pc := 13) hG m_71 d_Ma_pairEqualSubtrees_13 ot10 ?_
  refine pw_iconst (pc := 16) hG d_Ma_pairEqualSubtrees_16 ?_
  refine pw_aI (pc := 17) hG (q_arr hΛ ot10 rfl (by decide)) (by decide) d_Ma_pairEqualSubtrees_17 ?_
  obtain ⟨hrx18, hry18, h⟩ := h
  refine pw_min (pc := 18) hG m_519 d_Ma_pairEqualSubtrees_18 hrx18 hry18 (by decide) (Nat.le_of_ble_eq_true rfl) ?_
  refine pw_istore_n (pc := 21) hG d_Ma_pairEqualSubtrees_21 (by decide) (fun x21 ex21 => ⟨_, rfl, ?_⟩)
  replace h := h x21 ex21
  refine pw_iload_n (pc := 22) hG d_Ma_pairEqualSubtrees_22 rfl ?_
  refine pw_ist_n (pc := 23) hG d_Ma_pairEqualSubtrees_23 (by decide) rfl ?_
  obtain ⟨n23, h⟩ := h
  exact pw_sub hG [0, 1, 3] rfl (b_Ma_pairEqualSubtrees_24 hG hR n23 v0 v1 x21 S o0 o1 h)
theorem ct_Ma_pairEqualSubtrees (l : Launch) (Δ : QDl) {Λ : QLay} (hΛ : LayOk Λ) {v0 : Nat} {v1 : Nat} {S : QMem} {Q : QMem → Prop} (o0 : qob Λ 1 v0) (o1 : qob Λ 4 v1) (h : w_Ma_pairEqualSubtrees Λ v0 v1 S Q) : QCt l y_Ma_pairEqualSubtrees c_Ma_pairEqualSubtrees 6 none 3 77 Δ Λ [.ref v0, .ref v1] S (qV Q) :=
  QCt.mk (own := "TreeDiffer$Matching") hΛ (by decide) rfl rfl (Nat.le_of_ble_eq_true rfl) (fun G hG ri rz rv rj ra => b_Ma_pairEqualSubtrees_0 hG (fun pc lv S d hq => rv pc lv S rfl d ⟨rfl, hq⟩) v0 v1 S o0 o1 h)
theorem k_Se_haveSameLabel : QVf y_Se_haveSameLabel c_Se_haveSameLabel 3 (some .boolean) "TreeDiffer$Setup" 2 := ⟨m_551, m_552, m_4, m_553, by decide +kernel⟩
theorem b_Se_haveSameLabel_0 {Λ : QLay} {G : Nat → List (Nat × Value) → List Value → QMem → Prop} {Q : Int → QMem → Prop} (hG : QAct c_Se_haveSameLabel "TreeDiffer$Setup" 3 { frames := 0, cells := 0, slots := 0, locals := 0 } Λ G) (hR : RtZ c_Se_haveSameLabel G Q) (v0 : Nat) (v1 : Int) (v2 : Int) (S : QMem) (o0 : qob Λ 4 v0) (h : w_Se_haveSameLabel Λ v0 v1 v2 S Q) : G 0 [(0, .ref v0), (1, vI v1), (2, vI v2)] [] S := by
  have hΛ := hG.lay
  unfold w_Se_haveSameLabel at h
  refine pw_aload_n (pc := 0) hG d_Se_haveSameLabel_0 rfl ?_
  refine pw_getP (pc := 1) hG o0 0 (Or.inl rfl) m_128 d_Se_haveSameLabel_1 (fun t1 et1 ot1 => ?_)
  replace h := h t1 et1
  refine g7_1 (pc := 4) hG m_42 d_Se_haveSameLabel_4 ot1 ?_
  refine pw_iload_n (pc := 7) hG d_Se_haveSameLabel_7 rfl ?_
  obtain ⟨hi8, h⟩ := h
  refine pw_aI (pc := 8) hG (q_arr hΛ ot1 rfl (by decide)) hi8 d_Se_haveSameLabel_8 ?_
  refine pw_aload_n (pc := 9) hG d_Se_haveSameLabel_9 rfl ?_
  refine pw_getP (pc := 10) hG o0 1 (Or.inr rfl) m_133 d_Se_haveSameLabel_10 (fun t10 et10 ot10 => ?_)
  replace h := h t10 et10
  refine g7_1 (pc := 13) hG m_42 d_Se_haveSameLabel_13 ot10 ?_
  refine pw_iload_n (pc := 16) hG d_Se_haveSameLabel_16 rfl ?_
  obtain ⟨hi17, h⟩ := h
  refine pw_aI (pc := 17) hG (q_arr hΛ ot10 rfl (by decide)) hi17 d_Se_haveSameLabel_17 ?_
  obtain ⟨hrx18, hry18, ha18, hb18⟩ := h
  refine pw_icmp_ne (tgt := 25) (pc := 18) hG d_Se_haveSameLabel_18 (by decide) hrx18 hry18 (fun hc18 => ?_) (fun hc18 => ?_)
  · replace h := ha18 hc18
    refine pw_iconst (pc := 25) hG d_Se_haveSameLabel_25 ?_
    exact hR 26 _ _ _ d_Se_haveSameLabel_26 (Or.inl rfl) h
  · replace h := hb18 hc18
    refine pw_iconst (pc := 21) hG d_Se_haveSameLabel_21 ?_
    refine pw_goto (tgt := 26) (pc := 22) hG d_Se_haveSameLabel_22 (by decide) ?_
    exact hR 26 _ _ _ d_Se_haveSameLabel_26 (Or.inr rfl) h
theorem ct_Se_haveSameLabel (l : Launch) (Δ : QDl) {Λ : QLay} (hΛ : LayOk Λ) {v0 : Nat} {v1 : Int} {v2 : Int} {S : QMem} {Q : Int → QMem → Prop} (o0 : qob Λ 4 v0) (h : w_Se_haveSameLabel Λ v0 v1 v2 S Q) : QCt l y_Se_haveSameLabel c_Se_haveSameLabel 3 (some .boolean) 0 0 Δ Λ [.ref v0, vI v1, vI v2] S (qI Q) :=
  QCt.mk (own := "TreeDiffer$Setup") hΛ (by decide) rfl rfl (Nat.le_of_ble_eq_true rfl) (fun G hG ri rz rv rj ra => b_Se_haveSameLabel_0 hG (fun pc lv x S d hb hq => rz pc lv x S rfl d hb ⟨x, rfl, hq⟩) v0 v1 v2 S o0 h)
theorem k_Ma_commonBelow : QVf y_Ma_commonBelow c_Ma_commonBelow 8 (some .int) "TreeDiffer$Matching" 3 := ⟨m_555, m_556, m_5, m_557, by decide +kernel⟩
theorem b_Ma_commonBelow_28 {Λ : QLay} {G : Nat → List (Nat × Value) → List Value → QMem → Prop} {Q : Int → QMem → Prop} (hG : QAct c_Ma_commonBelow "TreeDiffer$Matching" 8 { frames := 1, cells := 0, slots := 0, locals := 21 } Λ G) (hR : RtI c_Ma_commonBelow G Q) : ∀ (n : Nat) (v0 : Nat) (v3 : Int) (v4 : Int) (v5 : Int) (v6 : Int) (v7 : Int) (S : QMem), qob Λ 1 v0 → w_Ma_commonBelow_28 Λ Q n v0 v3 v4 v5 v6 v7 S → G 28 [(0, .ref v0), (3, vI v3), (4, vI v4), (5, vI v5), (6, vI v6), (7, vI v7)] [] S := by
  have hΛ := hG.lay
  intro n
  induction n with
  | zero => intro v0 v3 v4 v5 v6 v7 S o_v0 h; exact h.elim
  | succ n ih =>
    intro v0 v3 v4 v5 v6 v7 S o_v0 h
    rw [w_Ma_commonBelow_28] at h
    refine pw_iload (pc := 28) hG d_Ma_commonBelow_28 rfl ?_
    refine pw_iload (pc := 30) hG d_Ma_commonBelow_30 rfl ?_
    obtain ⟨hrx32, hry32, ha32, hb32⟩ := h
    refine pw_icmp_ge (tgt := 67) (pc := 32) hG d_Ma_commonBelow_32 (by decide) hrx32 hry32 (fun hc32 => ?_) (fun hc32 => ?_)
    · replace h := ha32 hc32
      refine pw_iload (pc := 67) hG d_Ma_commonBelow_67 rfl ?_
      exact hR 69 _ _ _ d_Ma_commonBelow_69 h
    · replace h := hb32 hc32
      refine pw_aload_n (pc := 35) hG d_Ma_commonBelow_35 rfl ?_
      refine g1_1 (pc := 36) hG m_162 d_Ma_commonBelow_36 o_v0 ?_
      refine pw_iload (pc := 39) hG d_Ma_commonBelow_39 rfl ?_
      obtain ⟨hi41, h⟩ := h
      refine pw_aI (pc := 41) hG (q_arr hΛ o_v0 rfl (by decide)) hi41 d_Ma_commonBelow_41 ?_
      refine pw_iload_n (pc := 42) hG d_Ma_commonBelow_42 rfl ?_
      obtain ⟨hrx43, hry43, ha43, hb43⟩ := h
      refine pw_icmp_le (tgt := 61) (pc := 43) hG d_Ma_commonBelow_43 (by decide) hrx43 hry43 (fun hc43 => ?_) (fun hc43 => ?_)
      · replace h := ha43 hc43
        refine pw_iinc0 (pc := 61) hG d_Ma_commonBelow_61 rfl (by decide) rfl ?_
        refine pw_goto (tgt := 28) (pc := 64) hG d_Ma_commonBelow_64 (by decide) ?_
        exact pw_sub hG [0, 3, 4, 5, 6, 7] rfl (ih v0 v3 v4 v5 v6 (v7 + 1) S o_v0 h)
      · replace h := hb43 hc43
        refine pw_aload_n (pc := 46) hG d_Ma_commonBelow_46 rfl ?_
        refine g1_1 (pc := 47) hG m_162 d_Ma_commonBelow_47 o_v0 ?_
        refine pw_iload (pc := 50) hG d_Ma_commonBelow_50 rfl ?_
        obtain ⟨hi52, h⟩ := h
        refine pw_aI (pc := 52) hG (q_arr hΛ o_v0 rfl (by decide)) hi52 d_Ma_commonBelow_52 ?_
        refine pw_iload (pc := 53) hG d_Ma_commonBelow_53 rfl ?_
        obtain ⟨hrx55, hry55, ha55, hb55⟩ := h
        refine pw_icmp_ge (tgt := 61) (pc := 55) hG d_Ma_commonBelow_55 (by decide) hrx55 hry55 (fun hc55 => ?_) (fun hc55 => ?_)
        · replace h := ha55 hc55
          refine pw_iinc0 (pc := 61) hG d_Ma_commonBelow_61 rfl (by decide) rfl ?_
          refine pw_goto (tgt := 28) (pc := 64) hG d_Ma_commonBelow_64 (by decide) ?_
          exact pw_sub hG [0, 3, 4, 5, 6, 7] rfl (ih v0 v3 v4 v5 v6 (v7 + 1) S o_v0 h)
        · replace h := hb55 hc55
          refine pw_iinc0 (pc := 58) hG d_Ma_commonBelow_58 rfl (by decide) rfl ?_
          refine pw_iinc0 (pc := 61) hG d_Ma_commonBelow_61 rfl (by decide) rfl ?_
          refine pw_goto (tgt := 28) (pc := 64) hG d_Ma_commonBelow_64 (by decide) ?_
          exact pw_sub hG [0, 3, 4, 5, 6, 7] rfl (ih v0 v3 (v4 + 1) v5 v6 (v7 + 1) S o_v0 h)
theorem b_Ma_commonBelow_0 {Λ : QLay} {G : Nat → List (Nat × Value) → List Value → QMem → Prop} {Q : Int → QMem → Prop} (hG : QAct c_Ma_commonBelow "TreeDiffer$Matching" 8 { frames := 1, cells := 0, slots := 0, locals := 21 } Λ G) (hR : RtI c_Ma_commonBelow G Q) (v0 : Nat) (v1 : Nat) (v2 : Int) (v3 : Int) (S : QMem) (o0 : qob Λ 1 v0) (o1 : qob Λ 4 v1) (h : w_Ma_commonBelow Λ v0 v1 v2 v3 S Q) : G 0 [(0, .ref v0), (1, .ref v1), (2, vI v2), (3, vI v3)] [] S := by
  have hΛ := hG.lay
  unfold w_Ma_commonBelow at h
  refine pw_iconst (pc := 0) hG d_Ma_commonBelow_0 ?_
  refine pw_ist (pc := 1) hG d_Ma_commonBelow_1 (by decide) rfl ?_
  refine pw_aload_n (pc := 3) hG d_Ma_commonBelow_3 rfl ?_
  refine pw_getP (pc := 4) hG o1 0 (Or.inl rfl) m_132 d_Ma_commonBelow_4 (fun t4 et4 ot4 => ?_)
  replace h := h t4 et4
  refine pw_iload_n (pc := 7) hG d_Ma_commonBelow_7 rfl ?_
  refine pw_calli (pc := 8) hG (fun l Δ => ct_Tr_endOf l Δ hΛ ot4 h) ot4 rfl (by decide) m_558 k_Tr_endOf rfl ⟨by decide, by decide⟩ (Nat.le_of_ble_eq_true rfl) d_Ma_commonBelow_8 rfl (fun r8 S8 h => ?_)
  refine pw_ist (pc := 11) hG d_Ma_commonBelow_11 (by decide) rfl ?_
  refine pw_aload_n (pc := 13) hG d_Ma_commonBelow_13 rfl ?_
  refine pw_getP (pc := 14) hG o1 1 (Or.inr rfl) m_136 d_Ma_commonBelow_14 (fun t14 et14 ot14 => ?_)
  replace h := h t14 et14
  refine pw_iload_n (pc := 17) hG d_Ma_commonBelow_17 rfl ?_
  refine pw_calli (pc := 18) hG (fun l Δ => ct_Tr_endOf l Δ hΛ ot14 h) ot14 rfl (by decide) m_558 k_Tr_endOf rfl ⟨by decide, by decide⟩ (Nat.le_of_ble_eq_true rfl) d_Ma_commonBelow_18 rfl (fun r18 S18 h => ?_)
  refine pw_ist (pc := 21) hG d_Ma_commonBelow_21 (by decide) rfl ?_
  refine pw_iload_n (pc := 23) hG d_Ma_commonBelow_23 rfl ?_
  refine pw_iconst (pc := 24) hG d_Ma_commonBelow_24 ?_
  refine pw_iadd (pc := 25) hG d_Ma_commonBelow_25 ?_
  refine pw_istore (pc := 26) hG d_Ma_commonBelow_26 (by decide) (fun x26 ex26 => ⟨_, rfl, ?_⟩)
  replace h := h x26 ex26
  obtain ⟨n26, h⟩ := h
  exact pw_sub hG [0, 3, 4, 5, 6, 7] rfl (b_Ma_commonBelow_28 hG hR n26 v0 v3 0 r8 r18 x26 S18 o0 h)
theorem ct_Ma_commonBelow (l : Launch) (Δ : QDl) {Λ : QLay} (hΛ : LayOk Λ) {v0 : Nat} {v1 : Nat} {v2 : Int} {v3 : Int} {S : QMem} {Q : Int → QMem → Prop} (o0 : qob Λ 1 v0) (o1 : qob Λ 4 v1) (h : w_Ma_commonBelow Λ v0 v1 v2 v3 S Q) : QCt l y_Ma_commonBelow c_Ma_commonBelow 8 (some .int) 1 21 Δ Λ [.ref v0, .ref v1, vI v2, vI v3] S (qI Q) :=
  QCt.mk (own := "TreeDiffer$Matching") hΛ (by decide) rfl rfl (Nat.le_of_ble_eq_true rfl) (fun G hG ri rz rv rj ra => b_Ma_commonBelow_0 hG (fun pc lv x S d hq => ri pc lv x S rfl d ⟨x, rfl, hq⟩) v0 v1 v2 v3 S o0 o1 h)
theorem k_Ma_mostAlike : QVf y_Ma_mostAlike c_Ma_mostAlike 9 (some .int) "TreeDiffer$Matching" 2 := ⟨m_548, m_p16, m_5, m_549, by decide +kernel⟩
theorem b_Ma_mostAlike_11 {Λ : QLay} {G : Nat → List (Nat × Value) → List Value → QMem → Prop} {Q : Int → QMem → Prop} (hG : QAct c_Ma_mostAlike "TreeDiffer$Matching" 9 { frames := 2, cells := 0, slots := 0, locals := 48 } Λ G) (hR : RtI c_Ma_mostAlike G Q) : ∀ (n : Nat) (v0 : Nat) (v1 : Nat) (v2 : Int) (v3 : Int) (v4 : Int) (v5 : Int) (v6 : Int) (S : QMem), qob Λ 1 v0 → qob Λ 4 v1 → w_Ma_mostAlike_11 Λ Q n v0 v1 v2 v3 v4 v5 v6 S → G 11 [(0, .ref v0), (1, .ref v1), (2, vI v2), (3, vI v3), (4, vI v4), (5, vI v5), (6, vI v6)] [] S := by
  have hΛ := hG.lay
  intro n
  induction n with
  | zero => intro v0 v1 v2 v3 v4 v5 v6 S o_v0 o_v1 h; exact h.elim
  | succ n ih =>
    intro v0 v1 v2 v3 v4 v5 v6 S o_v0 o_v1 h
    rw [w_Ma_mostAlike_11] at h
    refine pw_iload (pc := 11) hG d_Ma_mostAlike_11 rfl ?_
    refine pw_aload_n (pc := 13) hG d_Ma_mostAlike_13 rfl ?_
    refine pw_getP (pc := 14) hG o_v1 1 (Or.inr rfl) m_136 d_Ma_mostAlike_14 (fun t14 et14 ot14 => ?_)
    replace h := h t14 et14
    refine g7_0 (pc := 17) hG m_38 d_Ma_mostAlike_17 ot14 ?_
    obtain ⟨hrx20, hry20, ha20, hb20⟩ := h
    refine pw_icmp_ge (tgt := 109) (pc := 20) hG d_Ma_mostAlike_20 (by decide) hrx20 hry20 (fun hc20 => ?_) (fun hc20 => ?_)
    · replace h := ha20 hc20
      refine pw_iload_n (pc := 109) hG d_Ma_mostAlike_109 rfl ?_
      exact hR 110 _ _ _ d_Ma_mostAlike_110 h
    · replace h := hb20 hc20
      refine pw_aload_n (pc := 23) hG d_Ma_mostAlike_23 rfl ?_
      refine g1_2 (pc := 24) hG m_165 d_Ma_mostAlike_24 o_v0 ?_
      refine pw_iload (pc := 27) hG d_Ma_mostAlike_27 rfl ?_
      obtain ⟨hi29, h⟩ := h
      refine pw_aI (pc := 29) hG (q_arr hΛ o_v0 rfl (by decide)) hi29 d_Ma_mostAlike_29 ?_
      refine pw_iconst (pc := 30) hG d_Ma_mostAlike_30 ?_
      obtain ⟨hrx31, ha31, hb31⟩ := h
      refine pw_icmp_ne (tgt := 103) (pc := 31) hG d_Ma_mostAlike_31 (by decide) hrx31 (q_lit rfl) (fun hc31 => ?_) (fun hc31 => ?_)
      · replace h := ha31 hc31
        refine pw_iinc0 (pc := 103) hG d_Ma_mostAlike_103 rfl (by decide) rfl ?_
        refine pw_goto (tgt := 11) (pc := 106) hG d_Ma_mostAlike_106 (by decide) ?_
        exact pw_sub hG [0, 1, 2, 3, 4, 5, 6] rfl (ih v0 v1 v2 v3 v4 v5 (v6 + 1) S o_v0 o_v1 h)
      · replace h := hb31 hc31
        refine pw_aload_n (pc := 34) hG d_Ma_mostAlike_34 rfl ?_
        refine pw_iload_n (pc := 35) hG d_Ma_mostAlike_35 rfl ?_
        refine pw_iload (pc := 36) hG d_Ma_mostAlike_36 rfl ?_
        refine pw_calli (pc := 38) hG (fun l Δ => ct_Se_haveSameLabel l Δ hΛ o_v1 h) o_v1 rfl (by decide) m_550 k_Se_haveSameLabel rfl ⟨by decide, by decide⟩ (Nat.le_of_ble_eq_true rfl) d_Ma_mostAlike_38 rfl (fun r38 S38 h => ?_)
        obtain ⟨hrx41, ha41, hb41⟩ := h
        refine pw_if_ne (tgt := 47) (pc := 41) hG d_Ma_mostAlike_41 (by decide) hrx41 (fun hc41 => ?_) (fun hc41 => ?_)
        · replace h := ha41 hc41
          refine pw_aload_n (pc := 47) hG d_Ma_mostAlike_47 rfl ?_
          refine pw_aload_n (pc := 48) hG d_Ma_mostAlike_48 rfl ?_
          refine pw_iload_n (pc := 49) hG d_Ma_mostAlike_49 rfl ?_
          refine pw_iload (pc := 50) hG d_Ma_mostAlike_50 rfl ?_
          refine pw_calli (pc := 52) hG (fun l Δ => ct_Ma_commonBelow l Δ hΛ o_v0 o_v1 h) o_v0 rfl (by decide) m_554 k_Ma_commonBelow rfl ⟨by decide, by decide⟩ (Nat.le_of_ble_eq_true rfl) d_Ma_mostAlike_52 rfl (fun r52 S52 h => ?_)
          refine pw_ist (pc := 55) hG d_Ma_mostAlike_55 (by decide) rfl ?_
          refine pw_aload_n (pc := 57) hG d_Ma_mostAlike_57 rfl ?_
          refine pw_getP (pc := 58) hG o_v1 0 (Or.inl rfl) m_132 d_Ma_mostAlike_58 (fun t58 et58 ot58 => ?_)
          replace h := h t58 et58
          refine g7_7 (pc := 61) hG m_66 d_Ma_mostAlike_61 ot58 ?_
          refine pw_iload_n (pc := 64) hG d_Ma_mostAlike_64 rfl ?_
          obtain ⟨hi65, h⟩ := h
          refine pw_aI (pc := 65) hG (q_arr hΛ ot58 rfl (by decide)) hi65 d_Ma_mostAlike_65 ?_
          refine pw_aload_n (pc := 66) hG d_Ma_mostAlike_66 rfl ?_
          refine pw_getP (pc := 67) hG o_v1 1 (Or.inr rfl) m_136 d_Ma_mostAlike_67 (fun t67 et67 ot67 => ?_)
          replace h := h t67 et67
          refine g7_7 (pc := 70) hG m_66 d_Ma_mostAlike_70 ot67 ?_
          refine pw_iload (pc := 73) hG d_Ma_mostAlike_73 rfl ?_
          obtain ⟨hi75, h⟩ := h
          refine pw_aI (pc := 75) hG (q_arr hΛ ot67 rfl (by decide)) hi75 d_Ma_mostAlike_75 ?_
          refine pw_iadd (pc := 76) hG d_Ma_mostAlike_76 ?_
          refine pw_istore (pc := 77) hG d_Ma_mostAlike_77 (by decide) (fun x77 ex77 => ⟨_, rfl, ?_⟩)
          replace h := h x77 ex77
          refine pw_iload (pc := 79) hG d_Ma_mostAlike_79 rfl ?_
          refine pw_iload (pc := 81) hG d_Ma_mostAlike_81 rfl ?_
          refine pw_imul (pc := 83) hG d_Ma_mostAlike_83 ?_
          refine pw_iload (pc := 84) hG d_Ma_mostAlike_84 rfl ?_
          refine pw_iload (pc := 86) hG d_Ma_mostAlike_86 rfl ?_
          refine pw_imul (pc := 88) hG d_Ma_mostAlike_88 ?_
          obtain ⟨hrx89, hry89, ha89, hb89⟩ := h
          refine pw_icmp_le (tgt := 103) (pc := 89) hG d_Ma_mostAlike_89 (by decide) hrx89 hry89 (fun hc89 => ?_) (fun hc89 => ?_)
          · replace h := ha89 hc89
            refine pw_iinc0 (pc := 103) hG d_Ma_mostAlike_103 rfl (by decide) rfl ?_
            refine pw_goto (tgt := 11) (pc := 106) hG d_Ma_mostAlike_106 (by decide) ?_
            exact pw_sub hG [0, 1, 2, 3, 4, 5, 6] rfl (ih v0 v1 v2 v3 v4 v5 (v6 + 1) S52 o_v0 o_v1 h)
          · replace h := hb89 hc89
            refine pw_iload (pc := 92) hG d_Ma_mostAlike_92 rfl ?_
            refine pw_ist_n (pc := 94) hG d_Ma_mostAlike_94 (by decide) rfl ?_
            refine pw_iload (pc := 95) hG d_Ma_mostAlike_95 rfl ?_
            refine pw_ist (pc := 97) hG d_Ma_mostAlike_97 (by decide) rfl ?_
            refine pw_iload (pc := 99) hG d_Ma_mostAlike_99 rfl ?_
            refine pw_ist (pc := 101) hG d_Ma_mostAlike_101 (by decide) rfl ?_
            refine pw_iinc0 (pc := 103) hG d_Ma_mostAlike_103 rfl (by decide) rfl ?_
            refine pw_goto (tgt := 11) (pc := 106) hG d_Ma_mostAlike_106 (by decide) ?_
            exact pw_sub hG [0, 1, 2, 3, 4, 5, 6] rfl (ih v0 v1 v2 v6 r52 x77 (v6 + 1) S52 o_v0 o_v1 h)
        · replace h := hb41 hc41
          refine pw_goto (tgt := 103) (pc := 44) hG d_Ma_mostAlike_44 (by decide) ?_
          refine pw_iinc0 (pc := 103) hG d_Ma_mostAlike_103 rfl (by decide) rfl ?_
          refine pw_goto (tgt := 11) (pc := 106) hG d_Ma_mostAlike_106 (by decide) ?_
          exact pw_sub hG [0, 1, 2, 3, 4, 5, 6] rfl (ih v0 v1 v2 v3 v4 v5 (v6 + 1) S38 o_v0 o_v1 h)
theorem b_Ma_mostAlike_0 {Λ : QLay} {G : Nat → List (Nat × Value) → List Value → QMem → Prop} {Q : Int → QMem → Prop} (hG : QAct c_Ma_mostAlike "TreeDiffer$Matching" 9 { frames := 2, cells := 0, slots := 0, locals := 48 } Λ G) (hR : RtI c_Ma_mostAlike G Q) (v0 : Nat) (v1 : Nat) (v2 : Int) (S : QMem) (o0 : qob Λ 1 v0) (o1 : qob Λ 4 v1) (h : w_Ma_mostAlike Λ v0 v1 v2 S Q) : G 0 [(0, .ref v0), (1, .ref v1), (2, vI v2)] [] S := by
  have hΛ := hG.lay
  unfold w_Ma_mostAlike at h
  refine pw_iconst (pc := 0) hG d_Ma_mostAlike_0 ?_
  refine pw_ist_n (pc := 1) hG d_Ma_mostAlike_1 (by decide) rfl ?_
  refine pw_iconst (pc := 2) hG d_Ma_mostAlike_2 ?_
  refine pw_ist (pc := 3) hG d_Ma_mostAlike_3 (by decide) rfl ?_
  refine pw_iconst (pc := 5) hG d_Ma_mostAlike_5 ?_
  refine pw_ist (pc := 6) hG d_Ma_mostAlike_6 (by decide) rfl ?_
  refine pw_iconst (pc := 8) hG d_Ma_mostAlike_8 ?_
  refine pw_ist (pc := 9) hG d_Ma_mostAlike_9 (by decide) rfl ?_
  obtain ⟨n9, h⟩ := h
  exact pw_sub hG [0, 1, 2, 3, 4, 5, 6] rfl (b_Ma_mostAlike_11 hG hR n9 v0 v1 v2 (-1) 0 1 0 S o0 o1 h)
theorem ct_Ma_mostAlike (l : Launch) (Δ : QDl) {Λ : QLay} (hΛ : LayOk Λ) {v0 : Nat} {v1 : Nat} {v2 : Int} {S : QMem} {Q : Int → QMem → Prop} (o0 : qob Λ 1 v0) (o1 : qob Λ 4 v1) (h : w_Ma_mostAlike Λ v0 v1 v2 S Q) : QCt l y_Ma_mostAlike c_Ma_mostAlike 9 (some .int) 2 48 Δ Λ [.ref v0, .ref v1, vI v2] S (qI Q) :=
  QCt.mk (own := "TreeDiffer$Matching") hΛ (by decide) rfl rfl (Nat.le_of_ble_eq_true rfl) (fun G hG ri rz rv rj ra => b_Ma_mostAlike_0 hG (fun pc lv x S d hq => ri pc lv x S rfl d ⟨x, rfl, hq⟩) v0 v1 v2 S o0 o1 h)
theorem k_Ma_pairByDescendants : QVf y_Ma_pairByDescendants c_Ma_pairByDescendants 7 none "TreeDiffer$Matching" 1 := ⟨m_544, m_p15, m_5, m_545, by decide +kernel⟩
theorem b_Ma_pairByDescendants_7 {Λ : QLay} {G : Nat → List (Nat × Value) → List Value → QMem → Prop} {Q : QMem → Prop} (hG : QAct c_Ma_pairByDescendants "TreeDiffer$Matching" 7 { frames := 3, cells := 0, slots := 0, locals := 76 } Λ G) (hR : RtV c_Ma_pairByDescendants G Q) : ∀ (n : Nat) (v0 : Nat) (v1 : Nat) (v2 : Nat) (v3 : Int) (S : QMem), qob Λ 1 v0 → qob Λ 4 v1 → qob Λ 7 v2 → w_Ma_pairByDescendants_7 Λ Q n v0 v1 v2 v3 S → G 7 [(0, .ref v0), (1, .ref v1), (2, .ref v2), (3, vI v3)] [] S := by
  have hΛ := hG.lay
  intro n
  induction n with
  | zero => intro v0 v1 v2 v3 S o_v0 o_v1 o_v2 h; exact h.elim
  | succ n ih =>
    intro v0 v1 v2 v3 S o_v0 o_v1 o_v2 h
    rw [w_Ma_pairByDescendants_7] at h
    refine pw_iload_n (pc := 7) hG d_Ma_pairByDescendants_7 rfl ?_
    refine pw_aload_n (pc := 8) hG d_Ma_pairByDescendants_8 rfl ?_
    refine g7_0 (pc := 9) hG m_38 d_Ma_pairByDescendants_9 o_v2 ?_
    obtain ⟨hrx12, hry12, ha12, hb12⟩ := h
    refine pw_icmp_ge (tgt := 120) (pc := 12) hG d_Ma_pairByDescendants_12 (by decide) hrx12 hry12 (fun hc12 => ?_) (fun hc12 => ?_)
    · replace h := ha12 hc12
      exact hR 120 _ _ d_Ma_pairByDescendants_120 h
    · replace h := hb12 hc12
      refine pw_aload_n (pc := 15) hG d_Ma_pairByDescendants_15 rfl ?_
      refine g7_9 (pc := 16) hG m_74 d_Ma_pairByDescendants_16 o_v2 ?_
      refine pw_iload_n (pc := 19) hG d_Ma_pairByDescendants_19 rfl ?_
      obtain ⟨hi20, h⟩ := h
      refine pw_aI (pc := 20) hG (q_arr hΛ o_v2 rfl (by decide)) hi20 d_Ma_pairByDescendants_20 ?_
      refine pw_istore (pc := 21) hG d_Ma_pairByDescendants_21 (by decide) (fun x21 ex21 => ⟨_, rfl, ?_⟩)
      replace h := h x21 ex21
      refine pw_aload_n (pc := 23) hG d_Ma_pairByDescendants_23 rfl ?_
      refine g1_1 (pc := 24) hG m_162 d_Ma_pairByDescendants_24 o_v0 ?_
      refine pw_iload (pc := 27) hG d_Ma_pairByDescendants_27 rfl ?_
      obtain ⟨hi29, h⟩ := h
      refine pw_aI (pc := 29) hG (q_arr hΛ o_v0 rfl (by decide)) hi29 d_Ma_pairByDescendants_29 ?_
      refine pw_iconst (pc := 30) hG d_Ma_pairByDescendants_30 ?_
      obtain ⟨hrx31, ha31, hb31⟩ := h
      refine pw_icmp_ne (tgt := 114) (pc := 31) hG d_Ma_pairByDescendants_31 (by decide) hrx31 (q_lit rfl) (fun hc31 => ?_) (fun hc31 => ?_)
      · replace h := ha31 hc31
        refine pw_iinc0 (pc := 114) hG d_Ma_pairByDescendants_114 rfl (by decide) rfl ?_
        refine pw_goto (tgt := 7) (pc := 117) hG d_Ma_pairByDescendants_117 (by decide) ?_
        exact pw_sub hG [0, 1, 2, 3] rfl (ih v0 v1 v2 (v3 + 1) S o_v0 o_v1 o_v2 h)
      · replace h := hb31 hc31
        refine pw_aload_n (pc := 34) hG d_Ma_pairByDescendants_34 rfl ?_
        refine g7_7 (pc := 35) hG m_66 d_Ma_pairByDescendants_35 o_v2 ?_
        refine pw_iload (pc := 38) hG d_Ma_pairByDescendants_38 rfl ?_
        obtain ⟨hi40, h⟩ := h
        refine pw_aI (pc := 40) hG (q_arr hΛ o_v2 rfl (by decide)) hi40 d_Ma_pairByDescendants_40 ?_
        obtain ⟨hrx41, ha41, hb41⟩ := h
        refine pw_if_ne (tgt := 47) (pc := 41) hG d_Ma_pairByDescendants_41 (by decide) hrx41 (fun hc41 => ?_) (fun hc41 => ?_)
        · replace h := ha41 hc41
          refine pw_aload_n (pc := 47) hG d_Ma_pairByDescendants_47 rfl ?_
          refine pw_aload_n (pc := 48) hG d_Ma_pairByDescendants_48 rfl ?_
          refine pw_iload (pc := 49) hG d_Ma_pairByDescendants_49 rfl ?_
          refine pw_calli (pc := 51) hG (fun l Δ => ct_Ma_mostAlike l Δ hΛ o_v0 o_v1 h) o_v0 rfl (by decide) m_546 k_Ma_mostAlike rfl ⟨by decide, by decide⟩ (Nat.le_of_ble_eq_true rfl) d_Ma_pairByDescendants_51 rfl (fun r51 S51 h => ?_)
          refine pw_ist (pc := 54) hG d_Ma_pairByDescendants_54 (by decide) rfl ?_
          refine pw_iload (pc := 56) hG d_Ma_pairByDescendants_56 rfl ?_
          refine pw_iconst (pc := 58) hG d_Ma_pairByDescendants_58 ?_
          obtain ⟨hrx59, ha59, hb59⟩ := h
          refine pw_icmp_eq (tgt := 114) (pc := 59) hG d_Ma_pairByDescendants_59 (by decide) hrx59 (q_lit rfl) (fun hc59 => ?_) (fun hc59 => ?_)
          · replace h := ha59 hc59
            refine pw_iinc0 (pc := 114) hG d_Ma_pairByDescendants_114 rfl (by decide) rfl ?_
            refine pw_goto (tgt := 7) (pc := 117) hG d_Ma_pairByDescendants_117 (by decide) ?_
            exact pw_sub hG [0, 1, 2, 3] rfl (ih v0 v1 v2 (v3 + 1) S51 o_v0 o_v1 o_v2 h)
          · replace h := hb59 hc59
            refine pw_aload_n (pc := 62) hG d_Ma_pairByDescendants_62 rfl ?_
            refine g7_7 (pc := 63) hG m_66 d_Ma_pairByDescendants_63 o_v2 ?_
            refine pw_iload (pc := 66) hG d_Ma_pairByDescendants_66 rfl ?_
            obtain ⟨hi68, h⟩ := h
            refine pw_aI (pc := 68) hG (q_arr hΛ o_v2 rfl (by decide)) hi68 d_Ma_pairByDescendants_68 ?_
            refine pw_aload_n (pc := 69) hG d_Ma_pairByDescendants_69 rfl ?_
            refine pw_getP (pc := 70) hG o_v1 1 (Or.inr rfl) m_136 d_Ma_pairByDescendants_70 (fun t70 et70 ot70 => ?_)
            replace h := h t70 et70
            refine g7_7 (pc := 73) hG m_66 d_Ma_pairByDescendants_73 ot70 ?_
            refine pw_iload (pc := 76) hG d_Ma_pairByDescendants_76 rfl ?_
            obtain ⟨hi78, h⟩ := h
            refine pw_aI (pc := 78) hG (q_arr hΛ ot70 rfl (by decide)) hi78 d_Ma_pairByDescendants_78 ?_
            refine pw_iadd (pc := 79) hG d_Ma_pairByDescendants_79 ?_
            refine pw_istore (pc := 80) hG d_Ma_pairByDescendants_80 (by decide) (fun x80 ex80 => ⟨_, rfl, ?_⟩)
            replace h := h x80 ex80
            refine pw_sipush (pc := 82) hG d_Ma_pairByDescendants_82 (by decide) ?_
            refine pw_aload_n (pc := 85) hG d_Ma_pairByDescendants_85 rfl ?_
            refine pw_aload_n (pc := 86) hG d_Ma_pairByDescendants_86 rfl ?_
            refine pw_iload (pc := 87) hG d_Ma_pairByDescendants_87 rfl ?_
            refine pw_iload (pc := 89) hG d_Ma_pairByDescendants_89 rfl ?_
            refine pw_calli (pc := 91) hG (fun l Δ => ct_Ma_commonBelow l Δ hΛ o_v0 o_v1 h) o_v0 rfl (by decide) m_554 k_Ma_commonBelow rfl ⟨by decide, by decide⟩ (Nat.le_of_ble_eq_true rfl) d_Ma_pairByDescendants_91 rfl (fun r91 S91 h => ?_)
            refine pw_imul (pc := 94) hG d_Ma_pairByDescendants_94 ?_
            refine pw_aload_n (pc := 95) hG d_Ma_pairByDescendants_95 rfl ?_
            refine g4_3 (pc := 96) hG m_142 d_Ma_pairByDescendants_96 o_v1 ?_
            refine pw_iload (pc := 99) hG d_Ma_pairByDescendants_99 rfl ?_
            refine pw_imul (pc := 101) hG d_Ma_pairByDescendants_101 ?_
            obtain ⟨hrx102, hry102, ha102, hb102⟩ := h
            refine pw_icmp_lt (tgt := 114) (pc := 102) hG d_Ma_pairByDescendants_102 (by decide) hrx102 hry102 (fun hc102 => ?_) (fun hc102 => ?_)
            · replace h := ha102 hc102
              refine pw_iinc0 (pc := 114) hG d_Ma_pairByDescendants_114 rfl (by decide) rfl ?_
              refine pw_goto (tgt := 7) (pc := 117) hG d_Ma_pairByDescendants_117 (by decide) ?_
              exact pw_sub hG [0, 1, 2, 3] rfl (ih v0 v1 v2 (v3 + 1) S91 o_v0 o_v1 o_v2 h)
            · replace h := hb102 hc102
              refine pw_aload_n (pc := 105) hG d_Ma_pairByDescendants_105 rfl ?_
              refine pw_iload (pc := 106) hG d_Ma_pairByDescendants_106 rfl ?_
              refine pw_iload (pc := 108) hG d_Ma_pairByDescendants_108 rfl ?_
              refine pw_iconst (pc := 110) hG d_Ma_pairByDescendants_110 ?_
              refine pw_callv (pc := 111) hG (fun l Δ => ct_Ma_pair l Δ hΛ o_v0 h) o_v0 rfl (by decide) m_538 k_Ma_pair rfl ⟨by decide, by decide⟩ (Nat.le_of_ble_eq_true rfl) d_Ma_pairByDescendants_111 rfl (fun S111 h => ?_)
              refine pw_iinc0 (pc := 114) hG d_Ma_pairByDescendants_114 rfl (by decide) rfl ?_
              refine pw_goto (tgt := 7) (pc := 117) hG d_Ma_pairByDescendants_117 (by decide) ?_
              exact pw_sub hG [0, 1, 2, 3] rfl (ih v0 v1 v2 (v3 + 1) S111 o_v0 o_v1 o_v2 h)
        · replace h := hb41 hc41
          refine pw_goto (tgt := 114) (pc := 44) hG d_Ma_pairByDescendants_44 (by decide) ?_
          refine pw_iinc0 (pc := 114) hG d_Ma_pairByDescendants_114 rfl (by decide) rfl ?_
          refine pw_goto (tgt := 7) (pc := 117) hG d_Ma_pairByDescendants_117 (by decide) ?_
          exact pw_sub hG [0, 1, 2, 3] rfl (ih v0 v1 v2 (v3 + 1) S o_v0 o_v1 o_v2 h)
theorem b_Ma_pairByDescendants_0 {Λ : QLay} {G : Nat → List (Nat × Value) → List Value → QMem → Prop} {Q : QMem → Prop} (hG : QAct c_Ma_pairByDescendants "TreeDiffer$Matching" 7 { frames := 3, cells := 0, slots := 0, locals := 76 } Λ G) (hR : RtV c_Ma_pairByDescendants G Q) (v0 : Nat) (v1 : Nat) (S : QMem) (o0 : qob Λ 1 v0) (o1 : qob Λ 4 v1) (h : w_Ma_pairByDescendants Λ v0 v1 S Q) : G 0 [(0, .ref v0), (1, .ref v1)] [] S := by
  have hΛ := hG.lay
  unfold w_Ma_pairByDescendants at h
  refine pw_aload_n (pc := 0) hG d_Ma_pairByDescendants_0 rfl ?_
  refine pw_getP (pc := 1) hG o1 0 (Or.inl rfl) m_132 d_Ma_pairByDescendants_1 (fun t1 et1 ot1 => ?_)
  replace h := h t1 et1
  refine pw_astore_n (pc := 4) hG d_Ma_pairByDescendants_4 (by decide) rfl ?_
  refine pw_iconst (pc := 5) hG d_Ma_pairByDescendants_5 ?_
  refine pw_ist_n (pc := 6) hG d_Ma_pairByDescendants_6 (by decide) rfl ?_
  obtain ⟨n6, h⟩ := h
  exact pw_sub hG [0, 1, 2, 3] rfl (b_Ma_pairByDescendants_7 hG hR n6 v0 v1 t1 0 S o0 o1 ot1 h)
theorem ct_Ma_pairByDescendants (l : Launch) (Δ : QDl) {Λ : QLay} (hΛ : LayOk Λ) {v0 : Nat} {v1 : Nat} {S : QMem} {Q : QMem → Prop} (o0 : qob Λ 1 v0) (o1 : qob Λ 4 v1) (h : w_Ma_pairByDescendants Λ v0 v1 S Q) : QCt l y_Ma_pairByDescendants c_Ma_pairByDescendants 7 none 3 76 Δ Λ [.ref v0, .ref v1] S (qV Q) :=
  QCt.mk (own := "TreeDiffer$Matching") hΛ (by decide) rfl rfl (Nat.le_of_ble_eq_true rfl) (fun G hG ri rz rv rj ra => b_Ma_pairByDescendants_0 hG (fun pc lv S d hq => rv pc lv S rfl d ⟨rfl, hq⟩) v0 v1 S o0 o1 h)
