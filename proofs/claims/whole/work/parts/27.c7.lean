theorem k_Mo_parentOf : QVf y_Mo_parentOf c_Mo_parentOf 2 (some .int) "TreeDifferModel" 1 := ⟨m_1107, m_p67, m_11, m_1108, by decide +kernel⟩
theorem b_Mo_parentOf_0 {Λ : QLay} {G : Nat → List (Nat × Value) → List Value → QMem → Prop} {Q : Int → QMem → Prop} (hG : QAct c_Mo_parentOf "TreeDifferModel" 2 { frames := 1, cells := 0, slots := 0, locals := 21 } Λ G) (hR : RtI c_Mo_parentOf G Q) (v0 : Nat) (v1 : Int) (S : QMem) (o0 : qob Λ 10 v0) (h : w_Mo_parentOf Λ v0 v1 S Q) : G 0 [(0, .ref v0), (1, vI v1)] [] S := by
  have hΛ := hG.lay
  unfold w_Mo_parentOf at h
  refine pw_iload_n (pc := 0) hG d_Mo_parentOf_0 rfl ?_
  obtain ⟨hrx1, ha1, hb1⟩ := h
  refine pw_if_ne (tgt := 9) (pc := 1) hG d_Mo_parentOf_1 (by decide) hrx1 (fun hc1 => ?_) (fun hc1 => ?_)
  · replace h := ha1 hc1
    refine pw_aload_n (pc := 9) hG d_Mo_parentOf_9 rfl ?_
    refine g10_3 (pc := 10) hG m_805 d_Mo_parentOf_10 o0 ?_
    refine pw_iconst (pc := 13) hG d_Mo_parentOf_13 ?_
    refine pw_iload_n (pc := 14) hG d_Mo_parentOf_14 rfl ?_
    refine pw_scalli (pc := 15) hG (fun l Δ => ct_Mo_at l Δ hΛ  h) m_791 k_Mo_at rfl ⟨by decide, by decide⟩ (Nat.le_of_ble_eq_true rfl) d_Mo_parentOf_15 rfl (fun r15 S15 h => ?_)
    obtain ⟨hi18, h⟩ := h
    refine pw_aI (pc := 18) hG (q_arr hΛ o0 rfl (by decide)) hi18 d_Mo_parentOf_18 ?_
    exact hR 19 _ _ _ d_Mo_parentOf_19 h
  · replace h := hb1 hc1
    refine pw_bipush (pc := 4) hG d_Mo_parentOf_4 (by decide) ?_
    refine pw_goto (tgt := 19) (pc := 6) hG d_Mo_parentOf_6 (by decide) ?_
    exact hR 19 _ _ _ d_Mo_parentOf_19 h
theorem ct_Mo_parentOf (l : Launch) (Δ : QDl) {Λ : QLay} (hΛ : LayOk Λ) {v0 : Nat} {v1 : Int} {S : QMem} {Q : Int → QMem → Prop} (o0 : qob Λ 10 v0) (h : w_Mo_parentOf Λ v0 v1 S Q) : QCt l y_Mo_parentOf c_Mo_parentOf 2 (some .int) 1 21 Δ Λ [.ref v0, vI v1] S (qI Q) :=
  QCt.mk (own := "TreeDifferModel") hΛ (by decide) rfl rfl (Nat.le_of_ble_eq_true rfl) (fun G hG ri rz rv rj ra => b_Mo_parentOf_0 hG (fun pc lv x S d hq => ri pc lv x S rfl d ⟨x, rfl, hq⟩) v0 v1 S o0 h)
theorem k_Mo_placeIn : QVf y_Mo_placeIn c_Mo_placeIn 4 (some .int) "TreeDifferModel" 1 := ⟨m_1111, m_p68, m_11, m_1112, by decide +kernel⟩
theorem b_Mo_placeIn_9 {Λ : QLay} {G : Nat → List (Nat × Value) → List Value → QMem → Prop} {Q : Int → QMem → Prop} (hG : QAct c_Mo_placeIn "TreeDifferModel" 4 { frames := 0, cells := 0, slots := 0, locals := 0 } Λ G) (hR : RtI c_Mo_placeIn G Q) : ∀ (n : Nat) (v0 : Nat) (v1 : Int) (v2 : Int) (v3 : Int) (S : QMem), qob Λ 10 v0 → w_Mo_placeIn_9 Λ Q n v0 v1 v2 v3 S → G 9 [(0, .ref v0), (1, vI v1), (2, vI v2), (3, vI v3)] [] S := by
  have hΛ := hG.lay
  intro n
  induction n with
  | zero => intro v0 v1 v2 v3 S o_v0 h; exact h.elim
  | succ n ih =>
    intro v0 v1 v2 v3 S o_v0 h
    rw [w_Mo_placeIn_9] at h
    refine pw_aload_n (pc := 9) hG d_Mo_placeIn_9 rfl ?_
    refine g10_28 (pc := 10) hG m_830 d_Mo_placeIn_10 o_v0 ?_
    refine pw_bipush (pc := 13) hG d_Mo_placeIn_13 (by decide) ?_
    refine pw_iload_n (pc := 15) hG d_Mo_placeIn_15 rfl ?_
    refine pw_imul (pc := 16) hG d_Mo_placeIn_16 ?_
    refine pw_iload_n (pc := 17) hG d_Mo_placeIn_17 rfl ?_
    refine pw_iadd (pc := 18) hG d_Mo_placeIn_18 ?_
    obtain ⟨hi19, h⟩ := h
    refine pw_aI (pc := 19) hG (q_arr hΛ o_v0 rfl (by decide)) hi19 d_Mo_placeIn_19 ?_
    refine pw_iload_n (pc := 20) hG d_Mo_placeIn_20 rfl ?_
    obtain ⟨hrx21, hry21, ha21, hb21⟩ := h
    refine pw_icmp_eq (tgt := 30) (pc := 21) hG d_Mo_placeIn_21 (by decide) hrx21 hry21 (fun hc21 => ?_) (fun hc21 => ?_)
    · replace h := ha21 hc21
      refine pw_iload_n (pc := 30) hG d_Mo_placeIn_30 rfl ?_
      exact hR 31 _ _ _ d_Mo_placeIn_31 h
    · replace h := hb21 hc21
      refine pw_iinc0 (pc := 24) hG d_Mo_placeIn_24 rfl (by decide) rfl ?_
      refine pw_goto (tgt := 9) (pc := 27) hG d_Mo_placeIn_27 (by decide) ?_
      exact pw_sub hG [0, 1, 2, 3] rfl (ih v0 v1 v2 (v3 + 1) S o_v0 h)
theorem b_Mo_placeIn_0 {Λ : QLay} {G : Nat → List (Nat × Value) → List Value → QMem → Prop} {Q : Int → QMem → Prop} (hG : QAct c_Mo_placeIn "TreeDifferModel" 4 { frames := 0, cells := 0, slots := 0, locals := 0 } Λ G) (hR : RtI c_Mo_placeIn G Q) (v0 : Nat) (v1 : Int) (S : QMem) (o0 : qob Λ 10 v0) (h : w_Mo_placeIn Λ v0 v1 S Q) : G 0 [(0, .ref v0), (1, vI v1)] [] S := by
  have hΛ := hG.lay
  unfold w_Mo_placeIn at h
  refine pw_aload_n (pc := 0) hG d_Mo_placeIn_0 rfl ?_
  refine g10_25 (pc := 1) hG m_827 d_Mo_placeIn_1 o0 ?_
  refine pw_iload_n (pc := 4) hG d_Mo_placeIn_4 rfl ?_
  obtain ⟨hi5, h⟩ := h
  refine pw_aI (pc := 5) hG (q_arr hΛ o0 rfl (by decide)) hi5 d_Mo_placeIn_5 ?_
  refine pw_istore_n (pc := 6) hG d_Mo_placeIn_6 (by decide) (fun x6 ex6 => ⟨_, rfl, ?_⟩)
  replace h := h x6 ex6
  refine pw_iconst (pc := 7) hG d_Mo_placeIn_7 ?_
  refine pw_ist_n (pc := 8) hG d_Mo_placeIn_8 (by decide) rfl ?_
  obtain ⟨n8, h⟩ := h
  exact pw_sub hG [0, 1, 2, 3] rfl (b_Mo_placeIn_9 hG hR n8 v0 v1 x6 0 S o0 h)
theorem ct_Mo_placeIn (l : Launch) (Δ : QDl) {Λ : QLay} (hΛ : LayOk Λ) {v0 : Nat} {v1 : Int} {S : QMem} {Q : Int → QMem → Prop} (o0 : qob Λ 10 v0) (h : w_Mo_placeIn Λ v0 v1 S Q) : QCt l y_Mo_placeIn c_Mo_placeIn 4 (some .int) 0 0 Δ Λ [.ref v0, vI v1] S (qI Q) :=
  QCt.mk (own := "TreeDifferModel") hΛ (by decide) rfl rfl (Nat.le_of_ble_eq_true rfl) (fun G hG ri rz rv rj ra => b_Mo_placeIn_0 hG (fun pc lv x S d hq => ri pc lv x S rfl d ⟨x, rfl, hq⟩) v0 v1 S o0 h)
theorem k_Mo_findRow : QVf y_Mo_findRow c_Mo_findRow 5 none "TreeDifferModel" 1 := ⟨m_1103, m_p66, m_11, m_1104, by decide +kernel⟩
theorem b_Mo_findRow_164 {Λ : QLay} {G : Nat → List (Nat × Value) → List Value → QMem → Prop} {Q : QMem → Prop} (hG : QAct c_Mo_findRow "TreeDifferModel" 5 { frames := 2, cells := 0, slots := 0, locals := 42 } Λ G) (hR : RtV c_Mo_findRow G Q) {K88 : Nat → Int → QMem → Prop} {K103 : Nat → Int → Int → QMem → Prop} (hK88 : ∀ (v0 : Nat) (v2 : Int) (S : QMem), qob Λ 10 v0 → K88 v0 v2 S → G 88 [(0, .ref v0), (2, vI v2)] [] S) (hK103 : ∀ (v0 : Nat) (v2 : Int) (v3 : Int) (S : QMem), qob Λ 10 v0 → K103 v0 v2 v3 S → G 103 [(0, .ref v0), (2, vI v2), (3, vI v3)] [] S) (v0 : Nat) (v2 : Int) (v3 : Int) (s0 : Int) (S : QMem) (o_v0 : qob Λ 10 v0) (h : w_Mo_findRow_164 Λ K88 K103 Q v0 v2 v3 s0 S) : G 164 [(0, .ref v0), (2, vI v2), (3, vI v3)] [vI s0] S := by
  have hΛ := hG.lay
  unfold w_Mo_findRow_164 at h
  refine pw_ist (pc := 164) hG d_Mo_findRow_164 (by decide) rfl ?_
  refine pw_aload_n (pc := 166) hG d_Mo_findRow_166 rfl ?_
  refine g10_35 (pc := 167) hG m_837 d_Mo_findRow_167 o_v0 ?_
  refine pw_iload_n (pc := 170) hG d_Mo_findRow_170 rfl ?_
  refine pw_iload (pc := 171) hG d_Mo_findRow_171 rfl ?_
  obtain ⟨hrx173, ha173, hb173⟩ := h
  refine pw_if_eq (tgt := 187) (pc := 173) hG d_Mo_findRow_173 (by decide) hrx173 (fun hc173 => ?_) (fun hc173 => ?_)
  · replace h := ha173 hc173
    refine pw_aload_n (pc := 187) hG d_Mo_findRow_187 rfl ?_
    refine g10_35 (pc := 188) hG m_837 d_Mo_findRow_188 o_v0 ?_
    refine pw_iload_n (pc := 191) hG d_Mo_findRow_191 rfl ?_
    obtain ⟨hi192, h⟩ := h
    refine pw_aI (pc := 192) hG (q_arr hΛ o_v0 rfl (by decide)) hi192 d_Mo_findRow_192 ?_
    obtain ⟨hi193, h⟩ := h
    refine pw_sI (pc := 193) hG (q_arr hΛ o_v0 rfl (by decide)) hi193 d_Mo_findRow_193 (fun S193 eS193 => ?_)
    replace h := h S193 eS193
    refine pw_iinc0 (pc := 194) hG d_Mo_findRow_194 rfl (by decide) rfl ?_
    refine pw_goto (tgt := 103) (pc := 197) hG d_Mo_findRow_197 (by decide) ?_
    exact pw_sub hG [0, 2, 3] rfl (hK103 v0 v2 (v3 + 1) S193 o_v0 h)
  · replace h := hb173 hc173
    refine pw_aload_n (pc := 176) hG d_Mo_findRow_176 rfl ?_
    refine g10_35 (pc := 177) hG m_837 d_Mo_findRow_177 o_v0 ?_
    refine pw_iload_n (pc := 180) hG d_Mo_findRow_180 rfl ?_
    obtain ⟨hi181, h⟩ := h
    refine pw_aI (pc := 181) hG (q_arr hΛ o_v0 rfl (by decide)) hi181 d_Mo_findRow_181 ?_
    refine pw_iconst (pc := 182) hG d_Mo_findRow_182 ?_
    refine pw_iadd (pc := 183) hG d_Mo_findRow_183 ?_
    refine pw_goto (tgt := 193) (pc := 184) hG d_Mo_findRow_184 (by decide) ?_
    obtain ⟨hi193, h⟩ := h
    refine pw_sI (pc := 193) hG (q_arr hΛ o_v0 rfl (by decide)) hi193 d_Mo_findRow_193 (fun S193 eS193 => ?_)
    replace h := h S193 eS193
    refine pw_iinc0 (pc := 194) hG d_Mo_findRow_194 rfl (by decide) rfl ?_
    refine pw_goto (tgt := 103) (pc := 197) hG d_Mo_findRow_197 (by decide) ?_
    exact pw_sub hG [0, 2, 3] rfl (hK103 v0 v2 (v3 + 1) S193 o_v0 h)
theorem b_Mo_findRow_163 {Λ : QLay} {G : Nat → List (Nat × Value) → List Value → QMem → Prop} {Q : QMem → Prop} (hG : QAct c_Mo_findRow "TreeDifferModel" 5 { frames := 2, cells := 0, slots := 0, locals := 42 } Λ G) (hR : RtV c_Mo_findRow G Q) {K88 : Nat → Int → QMem → Prop} {K103 : Nat → Int → Int → QMem → Prop} (hK88 : ∀ (v0 : Nat) (v2 : Int) (S : QMem), qob Λ 10 v0 → K88 v0 v2 S → G 88 [(0, .ref v0), (2, vI v2)] [] S) (hK103 : ∀ (v0 : Nat) (v2 : Int) (v3 : Int) (S : QMem), qob Λ 10 v0 → K103 v0 v2 v3 S → G 103 [(0, .ref v0), (2, vI v2), (3, vI v3)] [] S) (v0 : Nat) (v2 : Int) (v3 : Int) (S : QMem) (o_v0 : qob Λ 10 v0) (h : w_Mo_findRow_163 Λ K88 K103 Q v0 v2 v3 S) : G 163 [(0, .ref v0), (2, vI v2), (3, vI v3)] [] S := by
  have hΛ := hG.lay
  unfold w_Mo_findRow_163 at h
  refine pw_iconst (pc := 163) hG d_Mo_findRow_163 ?_
  exact pw_sub hG [0, 2, 3] rfl (b_Mo_findRow_164 hG hR hK88 hK103 v0 v2 v3 0 S o_v0 h)
theorem b_Mo_findRow_103 {Λ : QLay} {G : Nat → List (Nat × Value) → List Value → QMem → Prop} {Q : QMem → Prop} (hG : QAct c_Mo_findRow "TreeDifferModel" 5 { frames := 2, cells := 0, slots := 0, locals := 42 } Λ G) (hR : RtV c_Mo_findRow G Q) {K88 : Nat → Int → QMem → Prop} (hK88 : ∀ (v0 : Nat) (v2 : Int) (S : QMem), qob Λ 10 v0 → K88 v0 v2 S → G 88 [(0, .ref v0), (2, vI v2)] [] S) : ∀ (n : Nat) (v0 : Nat) (v2 : Int) (v3 : Int) (S : QMem), qob Λ 10 v0 → w_Mo_findRow_103 Λ K88 Q n v0 v2 v3 S → G 103 [(0, .ref v0), (2, vI v2), (3, vI v3)] [] S := by
  have hΛ := hG.lay
  intro n
  induction n with
  | zero => intro v0 v2 v3 S o_v0 h; exact h.elim
  | succ n ih =>
    intro v0 v2 v3 S o_v0 h
    rw [w_Mo_findRow_103] at h
    refine pw_iload_n (pc := 103) hG d_Mo_findRow_103 rfl ?_
    refine pw_aload_n (pc := 104) hG d_Mo_findRow_104 rfl ?_
    refine g10_36 (pc := 105) hG m_838 d_Mo_findRow_105 o_v0 ?_
    obtain ⟨hrx108, hry108, ha108, hb108⟩ := h
    refine pw_icmp_ge (tgt := 200) (pc := 108) hG d_Mo_findRow_108 (by decide) hrx108 hry108 (fun hc108 => ?_) (fun hc108 => ?_)
    · replace h := ha108 hc108
      refine pw_iinc0 (pc := 200) hG d_Mo_findRow_200 rfl (by decide) rfl ?_
      refine pw_goto (tgt := 88) (pc := 203) hG d_Mo_findRow_203 (by decide) ?_
      exact pw_sub hG [0, 2] rfl (hK88 v0 (v2 + (-1)) S o_v0 h)
    · replace h := hb108 hc108
      refine pw_aload_n (pc := 111) hG d_Mo_findRow_111 rfl ?_
      refine pw_aload_n (pc := 112) hG d_Mo_findRow_112 rfl ?_
      refine g10_32 (pc := 113) hG m_834 d_Mo_findRow_113 o_v0 ?_
      refine pw_aload_n (pc := 116) hG d_Mo_findRow_116 rfl ?_
      refine g10_34 (pc := 117) hG m_836 d_Mo_findRow_117 o_v0 ?_
      refine pw_iload_n (pc := 120) hG d_Mo_findRow_120 rfl ?_
      obtain ⟨hi121, h⟩ := h
      refine pw_aI (pc := 121) hG (q_arr hΛ o_v0 rfl (by decide)) hi121 d_Mo_findRow_121 ?_
      obtain ⟨hi122, h⟩ := h
      refine pw_aI (pc := 122) hG (q_arr hΛ o_v0 rfl (by decide)) hi122 d_Mo_findRow_122 ?_
      refine pw_calli (pc := 123) hG (fun l Δ => ct_Mo_placeIn l Δ hΛ o_v0 h) o_v0 rfl (by decide) m_1109 k_Mo_placeIn rfl ⟨by decide, by decide⟩ (Nat.le_of_ble_eq_true rfl) d_Mo_findRow_123 rfl (fun r123 S123 h => ?_)
      refine pw_aload_n (pc := 126) hG d_Mo_findRow_126 rfl ?_
      refine pw_aload_n (pc := 127) hG d_Mo_findRow_127 rfl ?_
      refine g10_32 (pc := 128) hG m_834 d_Mo_findRow_128 o_v0 ?_
      refine pw_aload_n (pc := 131) hG d_Mo_findRow_131 rfl ?_
      refine g10_34 (pc := 132) hG m_836 d_Mo_findRow_132 o_v0 ?_
      refine pw_iload_n (pc := 135) hG d_Mo_findRow_135 rfl ?_
      obtain ⟨hi136, h⟩ := h
      refine pw_aI (pc := 136) hG (q_arr hΛ o_v0 rfl (by decide)) hi136 d_Mo_findRow_136 ?_
      obtain ⟨hi137, h⟩ := h
      refine pw_aI (pc := 137) hG (q_arr hΛ o_v0 rfl (by decide)) hi137 d_Mo_findRow_137 ?_
      refine pw_calli (pc := 138) hG (fun l Δ => ct_Mo_placeIn l Δ hΛ o_v0 h) o_v0 rfl (by decide) m_1109 k_Mo_placeIn rfl ⟨by decide, by decide⟩ (Nat.le_of_ble_eq_true rfl) d_Mo_findRow_138 rfl (fun r138 S138 h => ?_)
      obtain ⟨hrx141, hry141, ha141, hb141⟩ := h
      refine pw_icmp_le (tgt := 163) (pc := 141) hG d_Mo_findRow_141 (by decide) hrx141 hry141 (fun hc141 => ?_) (fun hc141 => ?_)
      · replace h := ha141 hc141
        exact pw_sub hG [0, 2, 3] rfl (b_Mo_findRow_163 hG hR hK88 ih v0 v2 v3 S138 o_v0 h)
      · replace h := hb141 hc141
        refine pw_aload_n (pc := 144) hG d_Mo_findRow_144 rfl ?_
        refine g10_35 (pc := 145) hG m_837 d_Mo_findRow_145 o_v0 ?_
        refine pw_iload_n (pc := 148) hG d_Mo_findRow_148 rfl ?_
        obtain ⟨hi149, h⟩ := h
        refine pw_aI (pc := 149) hG (q_arr hΛ o_v0 rfl (by decide)) hi149 d_Mo_findRow_149 ?_
        refine pw_aload_n (pc := 150) hG d_Mo_findRow_150 rfl ?_
        refine g10_35 (pc := 151) hG m_837 d_Mo_findRow_151 o_v0 ?_
        refine pw_iload_n (pc := 154) hG d_Mo_findRow_154 rfl ?_
        obtain ⟨hi155, h⟩ := h
        refine pw_aI (pc := 155) hG (q_arr hΛ o_v0 rfl (by decide)) hi155 d_Mo_findRow_155 ?_
        obtain ⟨hrx156, hry156, ha156, hb156⟩ := h
        refine pw_icmp_lt (tgt := 163) (pc := 156) hG d_Mo_findRow_156 (by decide) hrx156 hry156 (fun hc156 => ?_) (fun hc156 => ?_)
        · replace h := ha156 hc156
          exact pw_sub hG [0, 2, 3] rfl (b_Mo_findRow_163 hG hR hK88 ih v0 v2 v3 S138 o_v0 h)
        · replace h := hb156 hc156
          refine pw_iconst (pc := 159) hG d_Mo_findRow_159 ?_
          refine pw_goto (tgt := 164) (pc := 160) hG d_Mo_findRow_160 (by decide) ?_
          exact pw_sub hG [0, 2, 3] rfl (b_Mo_findRow_164 hG hR hK88 ih v0 v2 v3 1 S138 o_v0 h)
theorem b_Mo_findRow_88 {Λ : QLay} {G : Nat → List (Nat × Value) → List Value → QMem → Prop} {Q : QMem → Prop} (hG : QAct c_Mo_findRow "TreeDifferModel" 5 { frames := 2, cells := 0, slots := 0, locals := 42 } Λ G) (hR : RtV c_Mo_findRow G Q) : ∀ (n : Nat) (v0 : Nat) (v2 : Int) (S : QMem), qob Λ 10 v0 → w_Mo_findRow_88 Λ Q n v0 v2 S → G 88 [(0, .ref v0), (2, vI v2)] [] S := by
  have hΛ := hG.lay
  intro n
  induction n with
  | zero => intro v0 v2 S o_v0 h; exact h.elim
  | succ n ih =>
    intro v0 v2 S o_v0 h
    rw [w_Mo_findRow_88] at h
    refine pw_iload_n (pc := 88) hG d_Mo_findRow_88 rfl ?_
    obtain ⟨hrx89, ha89, hb89⟩ := h
    refine pw_if_lt (tgt := 206) (pc := 89) hG d_Mo_findRow_89 (by decide) hrx89 (fun hc89 => ?_) (fun hc89 => ?_)
    · replace h := ha89 hc89
      exact hR 206 _ _ d_Mo_findRow_206 h
    · replace h := hb89 hc89
      refine pw_aload_n (pc := 92) hG d_Mo_findRow_92 rfl ?_
      refine g10_35 (pc := 93) hG m_837 d_Mo_findRow_93 o_v0 ?_
      refine pw_iload_n (pc := 96) hG d_Mo_findRow_96 rfl ?_
      refine pw_iconst (pc := 97) hG d_Mo_findRow_97 ?_
      obtain ⟨hi98, h⟩ := h
      refine pw_sI (pc := 98) hG (q_arr hΛ o_v0 rfl (by decide)) hi98 d_Mo_findRow_98 (fun S98 eS98 => ?_)
      replace h := h S98 eS98
      refine pw_iload_n (pc := 99) hG d_Mo_findRow_99 rfl ?_
      refine pw_iconst (pc := 100) hG d_Mo_findRow_100 ?_
      refine pw_iadd (pc := 101) hG d_Mo_findRow_101 ?_
      refine pw_istore_n (pc := 102) hG d_Mo_findRow_102 (by decide) (fun x102 ex102 => ⟨_, rfl, ?_⟩)
      replace h := h x102 ex102
      obtain ⟨n102, h⟩ := h
      exact pw_sub hG [0, 2, 3] rfl (b_Mo_findRow_103 hG hR ih n102 v0 v2 x102 S98 o_v0 h)
theorem b_Mo_findRow_7 {Λ : QLay} {G : Nat → List (Nat × Value) → List Value → QMem → Prop} {Q : QMem → Prop} (hG : QAct c_Mo_findRow "TreeDifferModel" 5 { frames := 2, cells := 0, slots := 0, locals := 42 } Λ G) (hR : RtV c_Mo_findRow G Q) : ∀ (n : Nat) (v0 : Nat) (v1 : Int) (v2 : Int) (S : QMem), qob Λ 10 v0 → w_Mo_findRow_7 Λ Q n v0 v1 v2 S → G 7 [(0, .ref v0), (1, vI v1), (2, vI v2)] [] S := by
  have hΛ := hG.lay
  intro n
  induction n with
  | zero => intro v0 v1 v2 S o_v0 h; exact h.elim
  | succ n ih =>
    intro v0 v1 v2 S o_v0 h
    rw [w_Mo_findRow_7] at h
    refine pw_iload_n (pc := 7) hG d_Mo_findRow_7 rfl ?_
    refine pw_aload_n (pc := 8) hG d_Mo_findRow_8 rfl ?_
    refine g10_0 (pc := 9) hG m_802 d_Mo_findRow_9 o_v0 ?_
    refine pw_iconst (pc := 12) hG d_Mo_findRow_12 ?_
    refine pw_aI (pc := 13) hG (q_arr hΛ o_v0 rfl (by decide)) (by decide) d_Mo_findRow_13 ?_
    obtain ⟨hrx14, hry14, ha14, hb14⟩ := h
    refine pw_icmp_ge (tgt := 81) (pc := 14) hG d_Mo_findRow_14 (by decide) hrx14 hry14 (fun hc14 => ?_) (fun hc14 => ?_)
    · replace h := ha14 hc14
      refine pw_aload_n (pc := 81) hG d_Mo_findRow_81 rfl ?_
      refine g10_36 (pc := 82) hG m_838 d_Mo_findRow_82 o_v0 ?_
      refine pw_iconst (pc := 85) hG d_Mo_findRow_85 ?_
      refine pw_isub (pc := 86) hG d_Mo_findRow_86 ?_
      refine pw_istore_n (pc := 87) hG d_Mo_findRow_87 (by decide) (fun x87 ex87 => ⟨_, rfl, ?_⟩)
      replace h := h x87 ex87
      obtain ⟨n87, h⟩ := h
      exact pw_sub hG [0, 2] rfl (b_Mo_findRow_88 hG hR n87 v0 x87 S o_v0 h)
    · replace h := hb14 hc14
      refine pw_aload_n (pc := 17) hG d_Mo_findRow_17 rfl ?_
      refine pw_iload_n (pc := 18) hG d_Mo_findRow_18 rfl ?_
      refine pw_calli (pc := 19) hG (fun l Δ => ct_Mo_parentOf l Δ hΛ o_v0 h) o_v0 rfl (by decide) m_1105 k_Mo_parentOf rfl ⟨by decide, by decide⟩ (Nat.le_of_ble_eq_true rfl) d_Mo_findRow_19 rfl (fun r19 S19 h => ?_)
      refine pw_iload_n (pc := 22) hG d_Mo_findRow_22 rfl ?_
      obtain ⟨hrx23, hry23, ha23, hb23⟩ := h
      refine pw_icmp_ne (tgt := 75) (pc := 23) hG d_Mo_findRow_23 (by decide) hrx23 hry23 (fun hc23 => ?_) (fun hc23 => ?_)
      · replace h := ha23 hc23
        refine pw_iinc0 (pc := 75) hG d_Mo_findRow_75 rfl (by decide) rfl ?_
        refine pw_goto (tgt := 7) (pc := 78) hG d_Mo_findRow_78 (by decide) ?_
        exact pw_sub hG [0, 1, 2] rfl (ih v0 v1 (v2 + 1) S19 o_v0 h)
      · replace h := hb23 hc23
        refine pw_aload_n (pc := 26) hG d_Mo_findRow_26 rfl ?_
        refine g10_32 (pc := 27) hG m_834 d_Mo_findRow_27 o_v0 ?_
        refine pw_iload_n (pc := 30) hG d_Mo_findRow_30 rfl ?_
        obtain ⟨hi31, h⟩ := h
        refine pw_aI (pc := 31) hG (q_arr hΛ o_v0 rfl (by decide)) hi31 d_Mo_findRow_31 ?_
        obtain ⟨hrx32, ha32, hb32⟩ := h
        refine pw_if_lt (tgt := 75) (pc := 32) hG d_Mo_findRow_32 (by decide) hrx32 (fun hc32 => ?_) (fun hc32 => ?_)
        · replace h := ha32 hc32
          refine pw_iinc0 (pc := 75) hG d_Mo_findRow_75 rfl (by decide) rfl ?_
          refine pw_goto (tgt := 7) (pc := 78) hG d_Mo_findRow_78 (by decide) ?_
          exact pw_sub hG [0, 1, 2] rfl (ih v0 v1 (v2 + 1) S19 o_v0 h)
        · replace h := hb32 hc32
          refine pw_aload_n (pc := 35) hG d_Mo_findRow_35 rfl ?_
          refine g10_25 (pc := 36) hG m_827 d_Mo_findRow_36 o_v0 ?_
          refine pw_aload_n (pc := 39) hG d_Mo_findRow_39 rfl ?_
          refine g10_32 (pc := 40) hG m_834 d_Mo_findRow_40 o_v0 ?_
          refine pw_iload_n (pc := 43) hG d_Mo_findRow_43 rfl ?_
          obtain ⟨hi44, h⟩ := h
          refine pw_aI (pc := 44) hG (q_arr hΛ o_v0 rfl (by decide)) hi44 d_Mo_findRow_44 ?_
          obtain ⟨hi45, h⟩ := h
          refine pw_aI (pc := 45) hG (q_arr hΛ o_v0 rfl (by decide)) hi45 d_Mo_findRow_45 ?_
          refine pw_aload_n (pc := 46) hG d_Mo_findRow_46 rfl ?_
          refine g10_32 (pc := 47) hG m_834 d_Mo_findRow_47 o_v0 ?_
          refine pw_iload_n (pc := 50) hG d_Mo_findRow_50 rfl ?_
          obtain ⟨hi51, h⟩ := h
          refine pw_aI (pc := 51) hG (q_arr hΛ o_v0 rfl (by decide)) hi51 d_Mo_findRow_51 ?_
          obtain ⟨hrx52, hry52, ha52, hb52⟩ := h
          refine pw_icmp_ne (tgt := 75) (pc := 52) hG d_Mo_findRow_52 (by decide) hrx52 hry52 (fun hc52 => ?_) (fun hc52 => ?_)
          · replace h := ha52 hc52
            refine pw_iinc0 (pc := 75) hG d_Mo_findRow_75 rfl (by decide) rfl ?_
            refine pw_goto (tgt := 7) (pc := 78) hG d_Mo_findRow_78 (by decide) ?_
            exact pw_sub hG [0, 1, 2] rfl (ih v0 v1 (v2 + 1) S19 o_v0 h)
          · replace h := hb52 hc52
            refine pw_aload_n (pc := 55) hG d_Mo_findRow_55 rfl ?_
            refine g10_34 (pc := 56) hG m_836 d_Mo_findRow_56 o_v0 ?_
            refine pw_aload_n (pc := 59) hG d_Mo_findRow_59 rfl ?_
            refine g10_36 (pc := 60) hG m_838 d_Mo_findRow_60 o_v0 ?_
            refine pw_iload_n (pc := 63) hG d_Mo_findRow_63 rfl ?_
            obtain ⟨hi64, h⟩ := h
            refine pw_sI (pc := 64) hG (q_arr hΛ o_v0 rfl (by decide)) hi64 d_Mo_findRow_64 (fun S64 eS64 => ?_)
            replace h := h S64 eS64
            refine pw_aload_n (pc := 65) hG d_Mo_findRow_65 rfl ?_
            refine pw_dup (pc := 66) hG d_Mo_findRow_66 rfl ?_
            refine g10_36 (pc := 67) hG m_838 d_Mo_findRow_67 o_v0 ?_
            refine pw_iconst (pc := 70) hG d_Mo_findRow_70 ?_
            refine pw_iadd (pc := 71) hG d_Mo_findRow_71 ?_
            refine p10_36 (pc := 72) hG m_838 d_Mo_findRow_72 o_v0 (fun S72 eS72 => ?_)
            replace h := h S72 eS72
            refine pw_iinc0 (pc := 75) hG d_Mo_findRow_75 rfl (by decide) rfl ?_
            refine pw_goto (tgt := 7) (pc := 78) hG d_Mo_findRow_78 (by decide) ?_
            exact pw_sub hG [0, 1, 2] rfl (ih v0 v1 (v2 + 1) S72 o_v0 h)
theorem b_Mo_findRow_0 {Λ : QLay} {G : Nat → List (Nat × Value) → List Value → QMem → Prop} {Q : QMem → Prop} (hG : QAct c_Mo_findRow "TreeDifferModel" 5 { frames := 2, cells := 0, slots := 0, locals := 42 } Λ G) (hR : RtV c_Mo_findRow G Q) (v0 : Nat) (v1 : Int) (S : QMem) (o0 : qob Λ 10 v0) (h : w_Mo_findRow Λ v0 v1 S Q) : G 0 [(0, .ref v0), (1, vI v1)] [] S := by
  have hΛ := hG.lay
  unfold w_Mo_findRow at h
  refine pw_aload_n (pc := 0) hG d_Mo_findRow_0 rfl ?_
  refine pw_iconst (pc := 1) hG d_Mo_findRow_1 ?_
  refine p10_36 (pc := 2) hG m_838 d_Mo_findRow_2 o0 (fun S2 eS2 => ?_)
  replace h := h S2 eS2
  refine pw_iconst (pc := 5) hG d_Mo_findRow_5 ?_
  refine pw_ist_n (pc := 6) hG d_Mo_findRow_6 (by decide) rfl ?_
  obtain ⟨n6, h⟩ := h
  exact pw_sub hG [0, 1, 2] rfl (b_Mo_findRow_7 hG hR n6 v0 v1 0 S2 o0 h)
theorem ct_Mo_findRow (l : Launch) (Δ : QDl) {Λ : QLay} (hΛ : LayOk Λ) {v0 : Nat} {v1 : Int} {S : QMem} {Q : QMem → Prop} (o0 : qob Λ 10 v0) (h : w_Mo_findRow Λ v0 v1 S Q) : QCt l y_Mo_findRow c_Mo_findRow 5 none 2 42 Δ Λ [.ref v0, vI v1] S (qV Q) :=
  QCt.mk (own := "TreeDifferModel") hΛ (by decide) rfl rfl (Nat.le_of_ble_eq_true rfl) (fun G hG ri rz rv rj ra => b_Mo_findRow_0 hG (fun pc lv S d hq => rv pc lv S rfl d ⟨rfl, hq⟩) v0 v1 S o0 h)
theorem k_Mo_takesOut : QVf y_Mo_takesOut c_Mo_takesOut 4 none "TreeDifferModel" 1 := ⟨m_1119, m_p70, m_11, m_1120, by decide +kernel⟩
theorem b_Mo_takesOut_23 {Λ : QLay} {G : Nat → List (Nat × Value) → List Value → QMem → Prop} {Q : QMem → Prop} (hG : QAct c_Mo_takesOut "TreeDifferModel" 4 { frames := 1, cells := 0, slots := 0, locals := 23 } Λ G) (hR : RtV c_Mo_takesOut G Q) : ∀ (n : Nat) (v0 : Nat) (v1 : Int) (v2 : Int) (v3 : Int) (S : QMem), qob Λ 10 v0 → w_Mo_takesOut_23 Λ Q n v0 v1 v2 v3 S → G 23 [(0, .ref v0), (1, vI v1), (2, vI v2), (3, vI v3)] [] S := by
  have hΛ := hG.lay
  intro n
  induction n with
  | zero => intro v0 v1 v2 v3 S o_v0 h; exact h.elim
  | succ n ih =>
    intro v0 v1 v2 v3 S o_v0 h
    rw [w_Mo_takesOut_23] at h
    refine pw_iload_n (pc := 23) hG d_Mo_takesOut_23 rfl ?_
    refine pw_aload_n (pc := 24) hG d_Mo_takesOut_24 rfl ?_
    refine g10_29 (pc := 25) hG m_831 d_Mo_takesOut_25 o_v0 ?_
    refine pw_iload_n (pc := 28) hG d_Mo_takesOut_28 rfl ?_
    obtain ⟨hi29, h⟩ := h
    refine pw_aI (pc := 29) hG (q_arr hΛ o_v0 rfl (by decide)) hi29 d_Mo_takesOut_29 ?_
    obtain ⟨hrx30, hry30, ha30, hb30⟩ := h
    refine pw_icmp_ge (tgt := 63) (pc := 30) hG d_Mo_takesOut_30 (by decide) hrx30 hry30 (fun hc30 => ?_) (fun hc30 => ?_)
    · replace h := ha30 hc30
      refine pw_aload_n (pc := 63) hG d_Mo_takesOut_63 rfl ?_
      refine g10_25 (pc := 64) hG m_827 d_Mo_takesOut_64 o_v0 ?_
      refine pw_iload_n (pc := 67) hG d_Mo_takesOut_67 rfl ?_
      refine pw_bipush (pc := 68) hG d_Mo_takesOut_68 (by decide) ?_
      obtain ⟨hi70, h⟩ := h
      refine pw_sI (pc := 70) hG (q_arr hΛ o_v0 rfl (by decide)) hi70 d_Mo_takesOut_70 (fun S70 eS70 => ?_)
      replace h := h S70 eS70
      exact hR 71 _ _ d_Mo_takesOut_71 h
    · replace h := hb30 hc30
      refine pw_aload_n (pc := 33) hG d_Mo_takesOut_33 rfl ?_
      refine g10_28 (pc := 34) hG m_830 d_Mo_takesOut_34 o_v0 ?_
      refine pw_bipush (pc := 37) hG d_Mo_takesOut_37 (by decide) ?_
      refine pw_iload_n (pc := 39) hG d_Mo_takesOut_39 rfl ?_
      refine pw_imul (pc := 40) hG d_Mo_takesOut_40 ?_
      refine pw_iload_n (pc := 41) hG d_Mo_takesOut_41 rfl ?_
      refine pw_iadd (pc := 42) hG d_Mo_takesOut_42 ?_
      refine pw_aload_n (pc := 43) hG d_Mo_takesOut_43 rfl ?_
      refine g10_28 (pc := 44) hG m_830 d_Mo_takesOut_44 o_v0 ?_
      refine pw_bipush (pc := 47) hG d_Mo_takesOut_47 (by decide) ?_
      refine pw_iload_n (pc := 49) hG d_Mo_takesOut_49 rfl ?_
      refine pw_imul (pc := 50) hG d_Mo_takesOut_50 ?_
      refine pw_iload_n (pc := 51) hG d_Mo_takesOut_51 rfl ?_
      refine pw_iadd (pc := 52) hG d_Mo_takesOut_52 ?_
      refine pw_iconst (pc := 53) hG d_Mo_takesOut_53 ?_
      refine pw_iadd (pc := 54) hG d_Mo_takesOut_54 ?_
      obtain ⟨hi55, h⟩ := h
      refine pw_aI (pc := 55) hG (q_arr hΛ o_v0 rfl (by decide)) hi55 d_Mo_takesOut_55 ?_
      obtain ⟨hi56, h⟩ := h
      refine pw_sI (pc := 56) hG (q_arr hΛ o_v0 rfl (by decide)) hi56 d_Mo_takesOut_56 (fun S56 eS56 => ?_)
      replace h := h S56 eS56
      refine pw_iinc0 (pc := 57) hG d_Mo_takesOut_57 rfl (by decide) rfl ?_
      refine pw_goto (tgt := 23) (pc := 60) hG d_Mo_takesOut_60 (by decide) ?_
      exact pw_sub hG [0, 1, 2, 3] rfl (ih v0 v1 v2 (v3 + 1) S56 o_v0 h)
theorem b_Mo_takesOut_0 {Λ : QLay} {G : Nat → List (Nat × Value) → List Value → QMem → Prop} {Q : QMem → Prop} (hG : QAct c_Mo_takesOut "TreeDifferModel" 4 { frames := 1, cells := 0, slots := 0, locals := 23 } Λ G) (hR : RtV c_Mo_takesOut G Q) (v0 : Nat) (v1 : Int) (S : QMem) (o0 : qob Λ 10 v0) (h : w_Mo_takesOut Λ v0 v1 S Q) : G 0 [(0, .ref v0), (1, vI v1)] [] S := by
  have hΛ := hG.lay
  unfold w_Mo_takesOut at h
  refine pw_aload_n (pc := 0) hG d_Mo_takesOut_0 rfl ?_
  refine g10_25 (pc := 1) hG m_827 d_Mo_takesOut_1 o0 ?_
  refine pw_iload_n (pc := 4) hG d_Mo_takesOut_4 rfl ?_
  obtain ⟨hi5, h⟩ := h
  refine pw_aI (pc := 5) hG (q_arr hΛ o0 rfl (by decide)) hi5 d_Mo_takesOut_5 ?_
  refine pw_istore_n (pc := 6) hG d_Mo_takesOut_6 (by decide) (fun x6 ex6 => ⟨_, rfl, ?_⟩)
  replace h := h x6 ex6
  refine pw_aload_n (pc := 7) hG d_Mo_takesOut_7 rfl ?_
  refine g10_29 (pc := 8) hG m_831 d_Mo_takesOut_8 o0 ?_
  refine pw_iload_n (pc := 11) hG d_Mo_takesOut_11 rfl ?_
  refine pw_dup2 (pc := 12) hG d_Mo_takesOut_12 rfl rfl ?_
  obtain ⟨hi13, h⟩ := h
  refine pw_aI (pc := 13) hG (q_arr hΛ o0 rfl (by decide)) hi13 d_Mo_takesOut_13 ?_
  refine pw_iconst (pc := 14) hG d_Mo_takesOut_14 ?_
  refine pw_isub (pc := 15) hG d_Mo_takesOut_15 ?_
  obtain ⟨hi16, h⟩ := h
  refine pw_sI (pc := 16) hG (q_arr hΛ o0 rfl (by decide)) hi16 d_Mo_takesOut_16 (fun S16 eS16 => ?_)
  replace h := h S16 eS16
  refine pw_aload_n (pc := 17) hG d_Mo_takesOut_17 rfl ?_
  refine pw_iload_n (pc := 18) hG d_Mo_takesOut_18 rfl ?_
  refine pw_calli (pc := 19) hG (fun l Δ => ct_Mo_placeIn l Δ hΛ o0 h) o0 rfl (by decide) m_1109 k_Mo_placeIn rfl ⟨by decide, by decide⟩ (Nat.le_of_ble_eq_true rfl) d_Mo_takesOut_19 rfl (fun r19 S19 h => ?_)
  refine pw_ist_n (pc := 22) hG d_Mo_takesOut_22 (by decide) rfl ?_
  obtain ⟨n22, h⟩ := h
  exact pw_sub hG [0, 1, 2, 3] rfl (b_Mo_takesOut_23 hG hR n22 v0 v1 x6 r19 S19 o0 h)
theorem ct_Mo_takesOut (l : Launch) (Δ : QDl) {Λ : QLay} (hΛ : LayOk Λ) {v0 : Nat} {v1 : Int} {S : QMem} {Q : QMem → Prop} (o0 : qob Λ 10 v0) (h : w_Mo_takesOut Λ v0 v1 S Q) : QCt l y_Mo_takesOut c_Mo_takesOut 4 none 1 23 Δ Λ [.ref v0, vI v1] S (qV Q) :=
  QCt.mk (own := "TreeDifferModel") hΛ (by decide) rfl rfl (Nat.le_of_ble_eq_true rfl) (fun G hG ri rz rv rj ra => b_Mo_takesOut_0 hG (fun pc lv S d hq => rv pc lv S rfl d ⟨rfl, hq⟩) v0 v1 S o0 h)
theorem k_Mo_placeFor : QVf y_Mo_placeFor c_Mo_placeFor 4 (some .int) "TreeDifferModel" 1 := ⟨m_1123, m_p71, m_11, m_1124, by decide +kernel⟩
theorem b_Mo_placeFor_4 {Λ : QLay} {G : Nat → List (Nat × Value) → List Value → QMem → Prop} {Q : Int → QMem → Prop} (hG : QAct c_Mo_placeFor "TreeDifferModel" 4 { frames := 2, cells := 0, slots := 0, locals := 42 } Λ G) (hR : RtI c_Mo_placeFor G Q) : ∀ (n : Nat) (v0 : Nat) (v1 : Int) (v2 : Int) (v3 : Int) (S : QMem), qob Λ 10 v0 → w_Mo_placeFor_4 Λ Q n v0 v1 v2 v3 S → G 4 [(0, .ref v0), (1, vI v1), (2, vI v2), (3, vI v3)] [] S := by
  have hΛ := hG.lay
  intro n
  induction n with
  | zero => intro v0 v1 v2 v3 S o_v0 h; exact h.elim
  | succ n ih =>
    intro v0 v1 v2 v3 S o_v0 h
    rw [w_Mo_placeFor_4] at h
    refine pw_iload_n (pc := 4) hG d_Mo_placeFor_4 rfl ?_
    refine pw_iload_n (pc := 5) hG d_Mo_placeFor_5 rfl ?_
    obtain ⟨hrx6, hry6, ha6, hb6⟩ := h
    refine pw_icmp_ge (tgt := 43) (pc := 6) hG d_Mo_placeFor_6 (by decide) hrx6 hry6 (fun hc6 => ?_) (fun hc6 => ?_)
    · replace h := ha6 hc6
      refine pw_iload_n (pc := 43) hG d_Mo_placeFor_43 rfl ?_
      obtain ⟨hrx44, ha44, hb44⟩ := h
      refine pw_if_ge (tgt := 51) (pc := 44) hG d_Mo_placeFor_44 (by decide) hrx44 (fun hc44 => ?_) (fun hc44 => ?_)
      · replace h := ha44 hc44
        refine pw_iconst (pc := 51) hG d_Mo_placeFor_51 ?_
        refine pw_aload_n (pc := 52) hG d_Mo_placeFor_52 rfl ?_
        refine pw_aload_n (pc := 53) hG d_Mo_placeFor_53 rfl ?_
        refine g10_32 (pc := 54) hG m_834 d_Mo_placeFor_54 o_v0 ?_
        refine pw_iload_n (pc := 57) hG d_Mo_placeFor_57 rfl ?_
        obtain ⟨hi58, h⟩ := h
        refine pw_aI (pc := 58) hG (q_arr hΛ o_v0 rfl (by decide)) hi58 d_Mo_placeFor_58 ?_
        refine pw_calli (pc := 59) hG (fun l Δ => ct_Mo_placeIn l Δ hΛ o_v0 h) o_v0 rfl (by decide) m_1109 k_Mo_placeIn rfl ⟨by decide, by decide⟩ (Nat.le_of_ble_eq_true rfl) d_Mo_placeFor_59 rfl (fun r59 S59 h => ?_)
        refine pw_iadd (pc := 62) hG d_Mo_placeFor_62 ?_
        exact hR 63 _ _ _ d_Mo_placeFor_63 h
      · replace h := hb44 hc44
        refine pw_iconst (pc := 47) hG d_Mo_placeFor_47 ?_
        refine pw_goto (tgt := 63) (pc := 48) hG d_Mo_placeFor_48 (by decide) ?_
        exact hR 63 _ _ _ d_Mo_placeFor_63 h
    · replace h := hb6 hc6
      refine pw_aload_n (pc := 9) hG d_Mo_placeFor_9 rfl ?_
      refine pw_iload_n (pc := 10) hG d_Mo_placeFor_10 rfl ?_
      refine pw_calli (pc := 11) hG (fun l Δ => ct_Mo_parentOf l Δ hΛ o_v0 h) o_v0 rfl (by decide) m_1105 k_Mo_parentOf rfl ⟨by decide, by decide⟩ (Nat.le_of_ble_eq_true rfl) d_Mo_placeFor_11 rfl (fun r11 S11 h => ?_)
      refine pw_aload_n (pc := 14) hG d_Mo_placeFor_14 rfl ?_
      refine pw_iload_n (pc := 15) hG d_Mo_placeFor_15 rfl ?_
      refine pw_calli (pc := 16) hG (fun l Δ => ct_Mo_parentOf l Δ hΛ o_v0 h) o_v0 rfl (by decide) m_1105 k_Mo_parentOf rfl ⟨by decide, by decide⟩ (Nat.le_of_ble_eq_true rfl) d_Mo_placeFor_16 rfl (fun r16 S16 h => ?_)
      obtain ⟨hrx19, hry19, ha19, hb19⟩ := h
      refine pw_icmp_ne (tgt := 35) (pc := 19) hG d_Mo_placeFor_19 (by decide) hrx19 hry19 (fun hc19 => ?_) (fun hc19 => ?_)
      · replace h := ha19 hc19
        refine pw_iload_n (pc := 35) hG d_Mo_placeFor_35 rfl ?_
        refine pw_ist_n (pc := 36) hG d_Mo_placeFor_36 (by decide) rfl ?_
        refine pw_iinc0 (pc := 37) hG d_Mo_placeFor_37 rfl (by decide) rfl ?_
        refine pw_goto (tgt := 4) (pc := 40) hG d_Mo_placeFor_40 (by decide) ?_
        exact pw_sub hG [0, 1, 2, 3] rfl (ih v0 v1 v2 (v3 + 1) S16 o_v0 h)
      · replace h := hb19 hc19
        refine pw_aload_n (pc := 22) hG d_Mo_placeFor_22 rfl ?_
        refine g10_33 (pc := 23) hG m_835 d_Mo_placeFor_23 o_v0 ?_
        refine pw_iload_n (pc := 26) hG d_Mo_placeFor_26 rfl ?_
        obtain ⟨hi27, h⟩ := h
        refine pw_aZ (pc := 27) hG (q_arr hΛ o_v0 rfl (by decide)) hi27 d_Mo_placeFor_27 ?_
        obtain ⟨hrx28, ha28, hb28⟩ := h
        refine pw_if_eq (tgt := 35) (pc := 28) hG d_Mo_placeFor_28 (by decide) hrx28 (fun hc28 => ?_) (fun hc28 => ?_)
        · replace h := ha28 hc28
          refine pw_iload_n (pc := 35) hG d_Mo_placeFor_35 rfl ?_
          refine pw_ist_n (pc := 36) hG d_Mo_placeFor_36 (by decide) rfl ?_
          refine pw_iinc0 (pc := 37) hG d_Mo_placeFor_37 rfl (by decide) rfl ?_
          refine pw_goto (tgt := 4) (pc := 40) hG d_Mo_placeFor_40 (by decide) ?_
          exact pw_sub hG [0, 1, 2, 3] rfl (ih v0 v1 v2 (v3 + 1) S16 o_v0 h)
        · replace h := hb28 hc28
          refine pw_iload_n (pc := 31) hG d_Mo_placeFor_31 rfl ?_
          refine pw_goto (tgt := 36) (pc := 32) hG d_Mo_placeFor_32 (by decide) ?_
          refine pw_ist_n (pc := 36) hG d_Mo_placeFor_36 (by decide) rfl ?_
          refine pw_iinc0 (pc := 37) hG d_Mo_placeFor_37 rfl (by decide) rfl ?_
          refine pw_goto (tgt := 4) (pc := 40) hG d_Mo_placeFor_40 (by decide) ?_
          exact pw_sub hG [0, 1, 2, 3] rfl (ih v0 v1 v3 (v3 + 1) S16 o_v0 h)
theorem b_Mo_placeFor_0 {Λ : QLay} {G : Nat → List (Nat × Value) → List Value → QMem → Prop} {Q : Int → QMem → Prop} (hG : QAct c_Mo_placeFor "TreeDifferModel" 4 { frames := 2, cells := 0, slots := 0, locals := 42 } Λ G) (hR : RtI c_Mo_placeFor G Q) (v0 : Nat) (v1 : Int) (S : QMem) (o0 : qob Λ 10 v0) (h : w_Mo_placeFor Λ v0 v1 S Q) : G 0 [(0, .ref v0), (1, vI v1)] [] S := by
  have hΛ := hG.lay
  unfold w_Mo_placeFor at h
  refine pw_iconst (pc := 0) hG d_Mo_placeFor_0 ?_
  refine pw_ist_n (pc := 1) hG d_Mo_placeFor_1 (by decide) rfl ?_
  refine pw_iconst (pc := 2) hG d_Mo_placeFor_2 ?_
  refine pw_ist_n (pc := 3) hG d_Mo_placeFor_3 (by decide) rfl ?_
  obtain ⟨n3, h⟩ := h
  exact pw_sub hG [0, 1, 2, 3] rfl (b_Mo_placeFor_4 hG hR n3 v0 v1 (-1) 0 S o0 h)
theorem ct_Mo_placeFor (l : Launch) (Δ : QDl) {Λ : QLay} (hΛ : LayOk Λ) {v0 : Nat} {v1 : Int} {S : QMem} {Q : Int → QMem → Prop} (o0 : qob Λ 10 v0) (h : w_Mo_placeFor Λ v0 v1 S Q) : QCt l y_Mo_placeFor c_Mo_placeFor 4 (some .int) 2 42 Δ Λ [.ref v0, vI v1] S (qI Q) :=
  QCt.mk (own := "TreeDifferModel") hΛ (by decide) rfl rfl (Nat.le_of_ble_eq_true rfl) (fun G hG ri rz rv rj ra => b_Mo_placeFor_0 hG (fun pc lv x S d hq => ri pc lv x S rfl d ⟨x, rfl, hq⟩) v0 v1 S o0 h)
theorem k_Mo_number : QSf y_Mo_number c_Mo_number 1 (some .int) "TreeDifferModel" 1 := ⟨m_1126, m_11, m_1127, by decide +kernel⟩
theorem b_Mo_number_0 {Λ : QLay} {G : Nat → List (Nat × Value) → List Value → QMem → Prop} {Q : Int → QMem → Prop} (hG : QAct c_Mo_number "TreeDifferModel" 1 { frames := 0, cells := 0, slots := 0, locals := 0 } Λ G) (hR : RtI c_Mo_number G Q) (v0 : Int) (S : QMem) (h : w_Mo_number Λ v0 S Q) : G 0 [(0, vI v0)] [] S := by
  have hΛ := hG.lay
  unfold w_Mo_number at h
  refine pw_iload_n (pc := 0) hG d_Mo_number_0 rfl ?_
  refine pw_bipush (pc := 1) hG d_Mo_number_1 (by decide) ?_
  obtain ⟨hrx3, ha3, hb3⟩ := h
  refine pw_icmp_ne (tgt := 10) (pc := 3) hG d_Mo_number_3 (by decide) hrx3 (q_lit rfl) (fun hc3 => ?_) (fun hc3 => ?_)
  · replace h := ha3 hc3
    refine pw_iload_n (pc := 10) hG d_Mo_number_10 rfl ?_
    refine pw_bipush (pc := 11) hG d_Mo_number_11 (by decide) ?_
    obtain ⟨hrx13, ha13, hb13⟩ := h
    refine pw_icmp_ge (tgt := 20) (pc := 13) hG d_Mo_number_13 (by decide) hrx13 (q_lit rfl) (fun hc13 => ?_) (fun hc13 => ?_)
    · replace h := ha13 hc13
      refine pw_bipush (pc := 20) hG d_Mo_number_20 (by decide) ?_
      refine pw_iload_n (pc := 22) hG d_Mo_number_22 rfl ?_
      refine pw_iadd (pc := 23) hG d_Mo_number_23 ?_
      exact hR 24 _ _ _ d_Mo_number_24 h
    · replace h := hb13 hc13
      refine pw_iload_n (pc := 16) hG d_Mo_number_16 rfl ?_
      refine pw_goto (tgt := 24) (pc := 17) hG d_Mo_number_17 (by decide) ?_
      exact hR 24 _ _ _ d_Mo_number_24 h
  · replace h := hb3 hc3
    refine pw_iconst (pc := 6) hG d_Mo_number_6 ?_
    refine pw_goto (tgt := 24) (pc := 7) hG d_Mo_number_7 (by decide) ?_
    exact hR 24 _ _ _ d_Mo_number_24 h
theorem ct_Mo_number (l : Launch) (Δ : QDl) {Λ : QLay} (hΛ : LayOk Λ) {v0 : Int} {S : QMem} {Q : Int → QMem → Prop} (h : w_Mo_number Λ v0 S Q) : QCt l y_Mo_number c_Mo_number 1 (some .int) 0 0 Δ Λ [vI v0] S (qI Q) :=
  QCt.mk (own := "TreeDifferModel") hΛ (by decide) rfl rfl (Nat.le_of_ble_eq_true rfl) (fun G hG ri rz rv rj ra => b_Mo_number_0 hG (fun pc lv x S d hq => ri pc lv x S rfl d ⟨x, rfl, hq⟩) v0 S  h)
theorem k_Mo_notes : QVf y_Mo_notes c_Mo_notes 8 none "TreeDifferModel" 6 := ⟨m_1130, m_p72, m_11, m_1131, by decide +kernel⟩
theorem b_Mo_notes_0 {Λ : QLay} {G : Nat → List (Nat × Value) → List Value → QMem → Prop} {Q : QMem → Prop} (hG : QAct c_Mo_notes "TreeDifferModel" 8 { frames := 1, cells := 0, slots := 0, locals := 20 } Λ G) (hR : RtV c_Mo_notes G Q) (v0 : Nat) (v1 : Int) (v2 : Int) (v3 : Int) (v4 : Int) (v5 : Int) (v6 : Int) (S : QMem) (o0 : qob Λ 10 v0) (h : w_Mo_notes Λ v0 v1 v2 v3 v4 v5 v6 S Q) : G 0 [(0, .ref v0), (1, vI v1), (2, vI v2), (3, vI v3), (4, vI v4), (5, vI v5), (6, vI v6)] [] S := by
  have hΛ := hG.lay
  unfold w_Mo_notes at h
  refine pw_bipush (pc := 0) hG d_Mo_notes_0 (by decide) ?_
  refine pw_aload_n (pc := 2) hG d_Mo_notes_2 rfl ?_
  refine g10_31 (pc := 3) hG m_833 d_Mo_notes_3 o0 ?_
  refine pw_imul (pc := 6) hG d_Mo_notes_6 ?_
  refine pw_istore (pc := 7) hG d_Mo_notes_7 (by decide) (fun x7 ex7 => ⟨_, rfl, ?_⟩)
  replace h := h x7 ex7
  refine pw_aload_n (pc := 9) hG d_Mo_notes_9 rfl ?_
  refine g10_30 (pc := 10) hG m_832 d_Mo_notes_10 o0 ?_
  refine pw_iload (pc := 13) hG d_Mo_notes_13 rfl ?_
  refine pw_iload_n (pc := 15) hG d_Mo_notes_15 rfl ?_
  obtain ⟨hi16, h⟩ := h
  refine pw_sI (pc := 16) hG (q_arr hΛ o0 rfl (by decide)) hi16 d_Mo_notes_16 (fun S16 eS16 => ?_)
  replace h := h S16 eS16
  refine pw_aload_n (pc := 17) hG d_Mo_notes_17 rfl ?_
  refine g10_30 (pc := 18) hG m_832 d_Mo_notes_18 o0 ?_
  refine pw_iload (pc := 21) hG d_Mo_notes_21 rfl ?_
  refine pw_iconst (pc := 23) hG d_Mo_notes_23 ?_
  refine pw_iadd (pc := 24) hG d_Mo_notes_24 ?_
  refine pw_iload_n (pc := 25) hG d_Mo_notes_25 rfl ?_
  refine pw_scalli (pc := 26) hG (fun l Δ => ct_Mo_number l Δ hΛ  h) m_1125 k_Mo_number rfl ⟨by decide, by decide⟩ (Nat.le_of_ble_eq_true rfl) d_Mo_notes_26 rfl (fun r26 S26 h => ?_)
  obtain ⟨hi29, h⟩ := h
  refine pw_sI (pc := 29) hG (q_arr hΛ o0 rfl (by decide)) hi29 d_Mo_notes_29 (fun S29 eS29 => ?_)
  replace h := h S29 eS29
  refine pw_aload_n (pc := 30) hG d_Mo_notes_30 rfl ?_
  refine g10_30 (pc := 31) hG m_832 d_Mo_notes_31 o0 ?_
  refine pw_iload (pc := 34) hG d_Mo_notes_34 rfl ?_
  refine pw_iconst (pc := 36) hG d_Mo_notes_36 ?_
  refine pw_iadd (pc := 37) hG d_Mo_notes_37 ?_
  refine pw_iload_n (pc := 38) hG d_Mo_notes_38 rfl ?_
  obtain ⟨hi39, h⟩ := h
  refine pw_sI (pc := 39) hG (q_arr hΛ o0 rfl (by decide)) hi39 d_Mo_notes_39 (fun S39 eS39 => ?_)
  replace h := h S39 eS39
  refine pw_aload_n (pc := 40) hG d_Mo_notes_40 rfl ?_
  refine g10_30 (pc := 41) hG m_832 d_Mo_notes_41 o0 ?_
  refine pw_iload (pc := 44) hG d_Mo_notes_44 rfl ?_
  refine pw_iconst (pc := 46) hG d_Mo_notes_46 ?_
  refine pw_iadd (pc := 47) hG d_Mo_notes_47 ?_
  refine pw_iload (pc := 48) hG d_Mo_notes_48 rfl ?_
  obtain ⟨hi50, h⟩ := h
  refine pw_sI (pc := 50) hG (q_arr hΛ o0 rfl (by decide)) hi50 d_Mo_notes_50 (fun S50 eS50 => ?_)
  replace h := h S50 eS50
  refine pw_aload_n (pc := 51) hG d_Mo_notes_51 rfl ?_
  refine g10_30 (pc := 52) hG m_832 d_Mo_notes_52 o0 ?_
  refine pw_iload (pc := 55) hG d_Mo_notes_55 rfl ?_
  refine pw_iconst (pc := 57) hG d_Mo_notes_57 ?_
  refine pw_iadd (pc := 58) hG d_Mo_notes_58 ?_
  refine pw_iload (pc := 59) hG d_Mo_notes_59 rfl ?_
  obtain ⟨hi61, h⟩ := h
  refine pw_sI (pc := 61) hG (q_arr hΛ o0 rfl (by decide)) hi61 d_Mo_notes_61 (fun S61 eS61 => ?_)
  replace h := h S61 eS61
  refine pw_aload_n (pc := 62) hG d_Mo_notes_62 rfl ?_
  refine g10_30 (pc := 63) hG m_832 d_Mo_notes_63 o0 ?_
  refine pw_iload (pc := 66) hG d_Mo_notes_66 rfl ?_
  refine pw_iconst (pc := 68) hG d_Mo_notes_68 ?_
  refine pw_iadd (pc := 69) hG d_Mo_notes_69 ?_
  refine pw_iload (pc := 70) hG d_Mo_notes_70 rfl ?_
  obtain ⟨hi72, h⟩ := h
  refine pw_sI (pc := 72) hG (q_arr hΛ o0 rfl (by decide)) hi72 d_Mo_notes_72 (fun S72 eS72 => ?_)
  replace h := h S72 eS72
  refine pw_aload_n (pc := 73) hG d_Mo_notes_73 rfl ?_
  refine pw_dup (pc := 74) hG d_Mo_notes_74 rfl ?_
  refine g10_31 (pc := 75) hG m_833 d_Mo_notes_75 o0 ?_
  refine pw_iconst (pc := 78) hG d_Mo_notes_78 ?_
  refine pw_iadd (pc := 79) hG d_Mo_notes_79 ?_
  refine p10_31 (pc := 80) hG m_833 d_Mo_notes_80 o0 (fun S80 eS80 => ?_)
  replace h := h S80 eS80
  exact hR 83 _ _ d_Mo_notes_83 h
theorem ct_Mo_notes (l : Launch) (Δ : QDl) {Λ : QLay} (hΛ : LayOk Λ) {v0 : Nat} {v1 : Int} {v2 : Int} {v3 : Int} {v4 : Int} {v5 : Int} {v6 : Int} {S : QMem} {Q : QMem → Prop} (o0 : qob Λ 10 v0) (h : w_Mo_notes Λ v0 v1 v2 v3 v4 v5 v6 S Q) : QCt l y_Mo_notes c_Mo_notes 8 none 1 20 Δ Λ [.ref v0, vI v1, vI v2, vI v3, vI v4, vI v5, vI v6] S (qV Q) :=
  QCt.mk (own := "TreeDifferModel") hΛ (by decide) rfl rfl (Nat.le_of_ble_eq_true rfl) (fun G hG ri rz rv rj ra => b_Mo_notes_0 hG (fun pc lv S d hq => rv pc lv S rfl d ⟨rfl, hq⟩) v0 v1 v2 v3 v4 v5 v6 S o0 h)
theorem k_Mo_moves : QVf y_Mo_moves c_Mo_moves 5 none "TreeDifferModel" 1 := ⟨m_1115, m_p69, m_11, m_1116, by decide +kernel⟩
theorem b_Mo_moves_0 {Λ : QLay} {G : Nat → List (Nat × Value) → List Value → QMem → Prop} {Q : QMem → Prop} (hG : QAct c_Mo_moves "TreeDifferModel" 5 { frames := 3, cells := 0, slots := 0, locals := 65 } Λ G) (hR : RtV c_Mo_moves G Q) (v0 : Nat) (v1 : Int) (S : QMem) (o0 : qob Λ 10 v0) (h : w_Mo_moves Λ v0 v1 S Q) : G 0 [(0, .ref v0), (1, vI v1)] [] S := by
  have hΛ := hG.lay
  unfold w_Mo_moves at h
  refine pw_aload_n (pc := 0) hG d_Mo_moves_0 rfl ?_
  refine g10_32 (pc := 1) hG m_834 d_Mo_moves_1 o0 ?_
  refine pw_iload_n (pc := 4) hG d_Mo_moves_4 rfl ?_
  obtain ⟨hi5, h⟩ := h
  refine pw_aI (pc := 5) hG (q_arr hΛ o0 rfl (by decide)) hi5 d_Mo_moves_5 ?_
  refine pw_istore_n (pc := 6) hG d_Mo_moves_6 (by decide) (fun x6 ex6 => ⟨_, rfl, ?_⟩)
  replace h := h x6 ex6
  refine pw_aload_n (pc := 7) hG d_Mo_moves_7 rfl ?_
  refine g10_32 (pc := 8) hG m_834 d_Mo_moves_8 o0 ?_
  refine pw_aload_n (pc := 11) hG d_Mo_moves_11 rfl ?_
  refine pw_iload_n (pc := 12) hG d_Mo_moves_12 rfl ?_
  refine pw_calli (pc := 13) hG (fun l Δ => ct_Mo_parentOf l Δ hΛ o0 h) o0 rfl (by decide) m_1105 k_Mo_parentOf rfl ⟨by decide, by decide⟩ (Nat.le_of_ble_eq_true rfl) d_Mo_moves_13 rfl (fun r13 S13 h => ?_)
  obtain ⟨hi16, h⟩ := h
  refine pw_aI (pc := 16) hG (q_arr hΛ o0 rfl (by decide)) hi16 d_Mo_moves_16 ?_
  refine pw_istore_n (pc := 17) hG d_Mo_moves_17 (by decide) (fun x17 ex17 => ⟨_, rfl, ?_⟩)
  replace h := h x17 ex17
  refine pw_aload_n (pc := 18) hG d_Mo_moves_18 rfl ?_
  refine pw_iload_n (pc := 19) hG d_Mo_moves_19 rfl ?_
  refine pw_callv (pc := 20) hG (fun l Δ => ct_Mo_takesOut l Δ hΛ o0 h) o0 rfl (by decide) m_1117 k_Mo_takesOut rfl ⟨by decide, by decide⟩ (Nat.le_of_ble_eq_true rfl) d_Mo_moves_20 rfl (fun S20 h => ?_)
  refine pw_aload_n (pc := 23) hG d_Mo_moves_23 rfl ?_
  refine pw_iload_n (pc := 24) hG d_Mo_moves_24 rfl ?_
  refine pw_calli (pc := 25) hG (fun l Δ => ct_Mo_placeFor l Δ hΛ o0 h) o0 rfl (by decide) m_1121 k_Mo_placeFor rfl ⟨by decide, by decide⟩ (Nat.le_of_ble_eq_true rfl) d_Mo_moves_25 rfl (fun r25 S25 h => ?_)
  refine pw_ist (pc := 28) hG d_Mo_moves_28 (by decide) rfl ?_
  refine pw_aload_n (pc := 30) hG d_Mo_moves_30 rfl ?_
  refine pw_iload_n (pc := 31) hG d_Mo_moves_31 rfl ?_
  refine pw_iload_n (pc := 32) hG d_Mo_moves_32 rfl ?_
  refine pw_iload (pc := 33) hG d_Mo_moves_33 rfl ?_
  refine pw_callv (pc := 35) hG (fun l Δ => ct_Mo_putsIn l Δ hΛ o0 h) o0 rfl (by decide) m_1093 k_Mo_putsIn rfl ⟨by decide, by decide⟩ (Nat.le_of_ble_eq_true rfl) d_Mo_moves_35 rfl (fun S35 h => ?_)
  refine pw_aload_n (pc := 38) hG d_Mo_moves_38 rfl ?_
  refine g10_33 (pc := 39) hG m_835 d_Mo_moves_39 o0 ?_
  refine pw_iload_n (pc := 42) hG d_Mo_moves_42 rfl ?_
  refine pw_iconst (pc := 43) hG d_Mo_moves_43 ?_
  obtain ⟨hi44, h⟩ := h
  refine pw_sZ (pc := 44) hG (q_arr hΛ o0 rfl (by decide)) hi44 (Or.inr rfl) d_Mo_moves_44 (fun S44 eS44 => ?_)
  replace h := h S44 eS44
  refine pw_aload_n (pc := 45) hG d_Mo_moves_45 rfl ?_
  refine pw_iconst (pc := 46) hG d_Mo_moves_46 ?_
  refine pw_iload_n (pc := 47) hG d_Mo_moves_47 rfl ?_
  refine pw_iload_n (pc := 48) hG d_Mo_moves_48 rfl ?_
  refine pw_scalli (pc := 49) hG (fun l Δ => ct_Mo_number l Δ hΛ  h) m_1125 k_Mo_number rfl ⟨by decide, by decide⟩ (Nat.le_of_ble_eq_true rfl) d_Mo_moves_49 rfl (fun r49 S49 h => ?_)
  refine pw_iload (pc := 52) hG d_Mo_moves_52 rfl ?_
  refine pw_bipush (pc := 54) hG d_Mo_moves_54 (by decide) ?_
  refine pw_bipush (pc := 56) hG d_Mo_moves_56 (by decide) ?_
  refine pw_callv (pc := 58) hG (fun l Δ => ct_Mo_notes l Δ hΛ o0 h) o0 rfl (by decide) m_1128 k_Mo_notes rfl ⟨by decide, by decide⟩ (Nat.le_of_ble_eq_true rfl) d_Mo_moves_58 rfl (fun S58 h => ?_)
  exact hR 61 _ _ d_Mo_moves_61 h
theorem ct_Mo_moves (l : Launch) (Δ : QDl) {Λ : QLay} (hΛ : LayOk Λ) {v0 : Nat} {v1 : Int} {S : QMem} {Q : QMem → Prop} (o0 : qob Λ 10 v0) (h : w_Mo_moves Λ v0 v1 S Q) : QCt l y_Mo_moves c_Mo_moves 5 none 3 65 Δ Λ [.ref v0, vI v1] S (qV Q) :=
  QCt.mk (own := "TreeDifferModel") hΛ (by decide) rfl rfl (Nat.le_of_ble_eq_true rfl) (fun G hG ri rz rv rj ra => b_Mo_moves_0 hG (fun pc lv S d hq => rv pc lv S rfl d ⟨rfl, hq⟩) v0 v1 S o0 h)
theorem k_Mo_orders : QVf y_Mo_orders c_Mo_orders 6 none "TreeDifferModel" 1 := ⟨m_1099, m_p65, m_11, m_1100, by decide +kernel⟩
theorem b_Mo_orders_129 {Λ : QLay} {G : Nat → List (Nat × Value) → List Value → QMem → Prop} {Q : QMem → Prop} (hG : QAct c_Mo_orders "TreeDifferModel" 6 { frames := 4, cells := 0, slots := 0, locals := 89 } Λ G) (hR : RtV c_Mo_orders G Q) : ∀ (n : Nat) (v0 : Nat) (v4 : Int) (S : QMem), qob Λ 10 v0 → w_Mo_orders_129 Λ Q n v0 v4 S → G 129 [(0, .ref v0), (4, vI v4)] [] S := by
  have hΛ := hG.lay
  intro n
  induction n with
  | zero => intro v0 v4 S o_v0 h; exact h.elim
  | succ n ih =>
    intro v0 v4 S o_v0 h
    rw [w_Mo_orders_129] at h
    refine pw_iload (pc := 129) hG d_Mo_orders_129 rfl ?_
    refine pw_aload_n (pc := 131) hG d_Mo_orders_131 rfl ?_
    refine g10_36 (pc := 132) hG m_838 d_Mo_orders_132 o_v0 ?_
    obtain ⟨hrx135, hry135, ha135, hb135⟩ := h
    refine pw_icmp_ge (tgt := 165) (pc := 135) hG d_Mo_orders_135 (by decide) hrx135 hry135 (fun hc135 => ?_) (fun hc135 => ?_)
    · replace h := ha135 hc135
      exact hR 165 _ _ d_Mo_orders_165 h
    · replace h := hb135 hc135
      refine pw_aload_n (pc := 138) hG d_Mo_orders_138 rfl ?_
      refine g10_35 (pc := 139) hG m_837 d_Mo_orders_139 o_v0 ?_
      refine pw_iload (pc := 142) hG d_Mo_orders_142 rfl ?_
      obtain ⟨hi144, h⟩ := h
      refine pw_aI (pc := 144) hG (q_arr hΛ o_v0 rfl (by decide)) hi144 d_Mo_orders_144 ?_
      obtain ⟨hrx145, ha145, hb145⟩ := h
      refine pw_if_le (tgt := 159) (pc := 145) hG d_Mo_orders_145 (by decide) hrx145 (fun hc145 => ?_) (fun hc145 => ?_)
      · replace h := ha145 hc145
        refine pw_iinc0 (pc := 159) hG d_Mo_orders_159 rfl (by decide) rfl ?_
        refine pw_goto (tgt := 129) (pc := 162) hG d_Mo_orders_162 (by decide) ?_
        exact pw_sub hG [0, 4] rfl (ih v0 (v4 + 1) S o_v0 h)
      · replace h := hb145 hc145
        refine pw_aload_n (pc := 148) hG d_Mo_orders_148 rfl ?_
        refine pw_aload_n (pc := 149) hG d_Mo_orders_149 rfl ?_
        refine g10_34 (pc := 150) hG m_836 d_Mo_orders_150 o_v0 ?_
        refine pw_iload (pc := 153) hG d_Mo_orders_153 rfl ?_
        obtain ⟨hi155, h⟩ := h
        refine pw_aI (pc := 155) hG (q_arr hΛ o_v0 rfl (by decide)) hi155 d_Mo_orders_155 ?_
        refine pw_callv (pc := 156) hG (fun l Δ => ct_Mo_moves l Δ hΛ o_v0 h) o_v0 rfl (by decide) m_1113 k_Mo_moves rfl ⟨by decide, by decide⟩ (Nat.le_of_ble_eq_true rfl) d_Mo_orders_156 rfl (fun S156 h => ?_)
        refine pw_iinc0 (pc := 159) hG d_Mo_orders_159 rfl (by decide) rfl ?_
        refine pw_goto (tgt := 129) (pc := 162) hG d_Mo_orders_162 (by decide) ?_
        exact pw_sub hG [0, 4] rfl (ih v0 (v4 + 1) S156 o_v0 h)
theorem b_Mo_orders_49 {Λ : QLay} {G : Nat → List (Nat × Value) → List Value → QMem → Prop} {Q : QMem → Prop} (hG : QAct c_Mo_orders "TreeDifferModel" 6 { frames := 4, cells := 0, slots := 0, locals := 89 } Λ G) (hR : RtV c_Mo_orders G Q) : ∀ (n : Nat) (v0 : Nat) (v2 : Int) (v3 : Int) (v4 : Int) (S : QMem), qob Λ 10 v0 → w_Mo_orders_49 Λ Q n v0 v2 v3 v4 S → G 49 [(0, .ref v0), (2, vI v2), (3, vI v3), (4, vI v4)] [] S := by
  have hΛ := hG.lay
  intro n
  induction n with
  | zero => intro v0 v2 v3 v4 S o_v0 h; exact h.elim
  | succ n ih =>
    intro v0 v2 v3 v4 S o_v0 h
    rw [w_Mo_orders_49] at h
    refine pw_iload (pc := 49) hG d_Mo_orders_49 rfl ?_
    refine pw_aload_n (pc := 51) hG d_Mo_orders_51 rfl ?_
    refine g10_36 (pc := 52) hG m_838 d_Mo_orders_52 o_v0 ?_
    obtain ⟨hrx55, hry55, ha55, hb55⟩ := h
    refine pw_icmp_ge (tgt := 126) (pc := 55) hG d_Mo_orders_55 (by decide) hrx55 hry55 (fun hc55 => ?_) (fun hc55 => ?_)
    · replace h := ha55 hc55
      refine pw_iconst (pc := 126) hG d_Mo_orders_126 ?_
      refine pw_ist (pc := 127) hG d_Mo_orders_127 (by decide) rfl ?_
      obtain ⟨n127, h⟩ := h
      exact pw_sub hG [0, 4] rfl (b_Mo_orders_129 hG hR n127 v0 0 S o_v0 h)
    · replace h := hb55 hc55
      refine pw_aload_n (pc := 58) hG d_Mo_orders_58 rfl ?_
      refine pw_aload_n (pc := 59) hG d_Mo_orders_59 rfl ?_
      refine g10_32 (pc := 60) hG m_834 d_Mo_orders_60 o_v0 ?_
      refine pw_aload_n (pc := 63) hG d_Mo_orders_63 rfl ?_
      refine g10_34 (pc := 64) hG m_836 d_Mo_orders_64 o_v0 ?_
      refine pw_iload (pc := 67) hG d_Mo_orders_67 rfl ?_
      obtain ⟨hi69, h⟩ := h
      refine pw_aI (pc := 69) hG (q_arr hΛ o_v0 rfl (by decide)) hi69 d_Mo_orders_69 ?_
      obtain ⟨hi70, h⟩ := h
      refine pw_aI (pc := 70) hG (q_arr hΛ o_v0 rfl (by decide)) hi70 d_Mo_orders_70 ?_
      refine pw_calli (pc := 71) hG (fun l Δ => ct_Mo_placeIn l Δ hΛ o_v0 h) o_v0 rfl (by decide) m_1109 k_Mo_placeIn rfl ⟨by decide, by decide⟩ (Nat.le_of_ble_eq_true rfl) d_Mo_orders_71 rfl (fun r71 S71 h => ?_)
      refine pw_ist (pc := 74) hG d_Mo_orders_74 (by decide) rfl ?_
      refine pw_aload_n (pc := 76) hG d_Mo_orders_76 rfl ?_
      refine g10_35 (pc := 77) hG m_837 d_Mo_orders_77 o_v0 ?_
      refine pw_iload (pc := 80) hG d_Mo_orders_80 rfl ?_
      obtain ⟨hi82, h⟩ := h
      refine pw_aI (pc := 82) hG (q_arr hΛ o_v0 rfl (by decide)) hi82 d_Mo_orders_82 ?_
      refine pw_iload_n (pc := 83) hG d_Mo_orders_83 rfl ?_
      obtain ⟨hrx84, hry84, ha84, hb84⟩ := h
      refine pw_icmp_ne (tgt := 120) (pc := 84) hG d_Mo_orders_84 (by decide) hrx84 hry84 (fun hc84 => ?_) (fun hc84 => ?_)
      · replace h := ha84 hc84
        refine pw_iinc0 (pc := 120) hG d_Mo_orders_120 rfl (by decide) rfl ?_
        refine pw_goto (tgt := 49) (pc := 123) hG d_Mo_orders_123 (by decide) ?_
        exact pw_sub hG [0, 2, 3, 4] rfl (ih v0 v2 v3 (v4 + 1) S71 o_v0 h)
      · replace h := hb84 hc84
        refine pw_iload (pc := 87) hG d_Mo_orders_87 rfl ?_
        refine pw_iload_n (pc := 89) hG d_Mo_orders_89 rfl ?_
        obtain ⟨hrx90, hry90, ha90, hb90⟩ := h
        refine pw_icmp_le (tgt := 120) (pc := 90) hG d_Mo_orders_90 (by decide) hrx90 hry90 (fun hc90 => ?_) (fun hc90 => ?_)
        · replace h := ha90 hc90
          refine pw_iinc0 (pc := 120) hG d_Mo_orders_120 rfl (by decide) rfl ?_
          refine pw_goto (tgt := 49) (pc := 123) hG d_Mo_orders_123 (by decide) ?_
          exact pw_sub hG [0, 2, 3, 4] rfl (ih v0 v2 v3 (v4 + 1) S71 o_v0 h)
        · replace h := hb90 hc90
          refine pw_aload_n (pc := 93) hG d_Mo_orders_93 rfl ?_
          refine g10_33 (pc := 94) hG m_835 d_Mo_orders_94 o_v0 ?_
          refine pw_aload_n (pc := 97) hG d_Mo_orders_97 rfl ?_
          refine g10_34 (pc := 98) hG m_836 d_Mo_orders_98 o_v0 ?_
          refine pw_iload (pc := 101) hG d_Mo_orders_101 rfl ?_
          obtain ⟨hi103, h⟩ := h
          refine pw_aI (pc := 103) hG (q_arr hΛ o_v0 rfl (by decide)) hi103 d_Mo_orders_103 ?_
          refine pw_iconst (pc := 104) hG d_Mo_orders_104 ?_
          obtain ⟨hi105, h⟩ := h
          refine pw_sZ (pc := 105) hG (q_arr hΛ o_v0 rfl (by decide)) hi105 (Or.inr rfl) d_Mo_orders_105 (fun S105 eS105 => ?_)
          replace h := h S105 eS105
          refine pw_iload (pc := 106) hG d_Mo_orders_106 rfl ?_
          refine pw_ist_n (pc := 108) hG d_Mo_orders_108 (by decide) rfl ?_
          refine pw_iinc0 (pc := 109) hG d_Mo_orders_109 rfl (by decide) rfl ?_
          refine pw_aload_n (pc := 112) hG d_Mo_orders_112 rfl ?_
          refine g10_35 (pc := 113) hG m_837 d_Mo_orders_113 o_v0 ?_
          refine pw_iload (pc := 116) hG d_Mo_orders_116 rfl ?_
          refine pw_iconst (pc := 118) hG d_Mo_orders_118 ?_
          obtain ⟨hi119, h⟩ := h
          refine pw_sI (pc := 119) hG (q_arr hΛ o_v0 rfl (by decide)) hi119 d_Mo_orders_119 (fun S119 eS119 => ?_)
          replace h := h S119 eS119
          refine pw_iinc0 (pc := 120) hG d_Mo_orders_120 rfl (by decide) rfl ?_
          refine pw_goto (tgt := 49) (pc := 123) hG d_Mo_orders_123 (by decide) ?_
          exact pw_sub hG [0, 2, 3, 4] rfl (ih v0 (v2 + (-1)) r71 (v4 + 1) S119 o_v0 h)
theorem b_Mo_orders_9 {Λ : QLay} {G : Nat → List (Nat × Value) → List Value → QMem → Prop} {Q : QMem → Prop} (hG : QAct c_Mo_orders "TreeDifferModel" 6 { frames := 4, cells := 0, slots := 0, locals := 89 } Λ G) (hR : RtV c_Mo_orders G Q) : ∀ (n : Nat) (v0 : Nat) (v2 : Int) (v3 : Int) (S : QMem), qob Λ 10 v0 → w_Mo_orders_9 Λ Q n v0 v2 v3 S → G 9 [(0, .ref v0), (2, vI v2), (3, vI v3)] [] S := by
  have hΛ := hG.lay
  intro n
  induction n with
  | zero => intro v0 v2 v3 S o_v0 h; exact h.elim
  | succ n ih =>
    intro v0 v2 v3 S o_v0 h
    rw [w_Mo_orders_9] at h
    refine pw_iload_n (pc := 9) hG d_Mo_orders_9 rfl ?_
    refine pw_aload_n (pc := 10) hG d_Mo_orders_10 rfl ?_
    refine g10_36 (pc := 11) hG m_838 d_Mo_orders_11 o_v0 ?_
    obtain ⟨hrx14, hry14, ha14, hb14⟩ := h
    refine pw_icmp_ge (tgt := 44) (pc := 14) hG d_Mo_orders_14 (by decide) hrx14 hry14 (fun hc14 => ?_) (fun hc14 => ?_)
    · replace h := ha14 hc14
      refine pw_iconst (pc := 44) hG d_Mo_orders_44 ?_
      refine pw_ist_n (pc := 45) hG d_Mo_orders_45 (by decide) rfl ?_
      refine pw_iconst (pc := 46) hG d_Mo_orders_46 ?_
      refine pw_ist (pc := 47) hG d_Mo_orders_47 (by decide) rfl ?_
      obtain ⟨n47, h⟩ := h
      exact pw_sub hG [0, 2, 3, 4] rfl (b_Mo_orders_49 hG hR n47 v0 v2 (-1) 0 S o_v0 h)
    · replace h := hb14 hc14
      refine pw_aload_n (pc := 17) hG d_Mo_orders_17 rfl ?_
      refine g10_35 (pc := 18) hG m_837 d_Mo_orders_18 o_v0 ?_
      refine pw_iload_n (pc := 21) hG d_Mo_orders_21 rfl ?_
      obtain ⟨hi22, h⟩ := h
      refine pw_aI (pc := 22) hG (q_arr hΛ o_v0 rfl (by decide)) hi22 d_Mo_orders_22 ?_
      refine pw_iload_n (pc := 23) hG d_Mo_orders_23 rfl ?_
      obtain ⟨hrx24, hry24, ha24, hb24⟩ := h
      refine pw_icmp_le (tgt := 36) (pc := 24) hG d_Mo_orders_24 (by decide) hrx24 hry24 (fun hc24 => ?_) (fun hc24 => ?_)
      · replace h := ha24 hc24
        refine pw_iload_n (pc := 36) hG d_Mo_orders_36 rfl ?_
        refine pw_ist_n (pc := 37) hG d_Mo_orders_37 (by decide) rfl ?_
        refine pw_iinc0 (pc := 38) hG d_Mo_orders_38 rfl (by decide) rfl ?_
        refine pw_goto (tgt := 9) (pc := 41) hG d_Mo_orders_41 (by decide) ?_
        exact pw_sub hG [0, 2, 3] rfl (ih v0 v2 (v3 + 1) S o_v0 h)
      · replace h := hb24 hc24
        refine pw_aload_n (pc := 27) hG d_Mo_orders_27 rfl ?_
        refine g10_35 (pc := 28) hG m_837 d_Mo_orders_28 o_v0 ?_
        refine pw_iload_n (pc := 31) hG d_Mo_orders_31 rfl ?_
        obtain ⟨hi32, h⟩ := h
        refine pw_aI (pc := 32) hG (q_arr hΛ o_v0 rfl (by decide)) hi32 d_Mo_orders_32 ?_
        refine pw_goto (tgt := 37) (pc := 33) hG d_Mo_orders_33 (by decide) ?_
        refine pw_istore_n (pc := 37) hG d_Mo_orders_37 (by decide) (fun x37 ex37 => ⟨_, rfl, ?_⟩)
        replace h := h x37 ex37
        refine pw_iinc0 (pc := 38) hG d_Mo_orders_38 rfl (by decide) rfl ?_
        refine pw_goto (tgt := 9) (pc := 41) hG d_Mo_orders_41 (by decide) ?_
        exact pw_sub hG [0, 2, 3] rfl (ih v0 x37 (v3 + 1) S o_v0 h)
theorem b_Mo_orders_0 {Λ : QLay} {G : Nat → List (Nat × Value) → List Value → QMem → Prop} {Q : QMem → Prop} (hG : QAct c_Mo_orders "TreeDifferModel" 6 { frames := 4, cells := 0, slots := 0, locals := 89 } Λ G) (hR : RtV c_Mo_orders G Q) (v0 : Nat) (v1 : Int) (S : QMem) (o0 : qob Λ 10 v0) (h : w_Mo_orders Λ v0 v1 S Q) : G 0 [(0, .ref v0), (1, vI v1)] [] S := by
  have hΛ := hG.lay
  unfold w_Mo_orders at h
  refine pw_aload_n (pc := 0) hG d_Mo_orders_0 rfl ?_
  refine pw_iload_n (pc := 1) hG d_Mo_orders_1 rfl ?_
  refine pw_callv (pc := 2) hG (fun l Δ => ct_Mo_findRow l Δ hΛ o0 h) o0 rfl (by decide) m_1101 k_Mo_findRow rfl ⟨by decide, by decide⟩ (Nat.le_of_ble_eq_true rfl) d_Mo_orders_2 rfl (fun S2 h => ?_)
  refine pw_iconst (pc := 5) hG d_Mo_orders_5 ?_
  refine pw_ist_n (pc := 6) hG d_Mo_orders_6 (by decide) rfl ?_
  refine pw_iconst (pc := 7) hG d_Mo_orders_7 ?_
  refine pw_ist_n (pc := 8) hG d_Mo_orders_8 (by decide) rfl ?_
  obtain ⟨n8, h⟩ := h
  exact pw_sub hG [0, 2, 3] rfl (b_Mo_orders_9 hG hR n8 v0 0 0 S2 o0 h)
theorem ct_Mo_orders (l : Launch) (Δ : QDl) {Λ : QLay} (hΛ : LayOk Λ) {v0 : Nat} {v1 : Int} {S : QMem} {Q : QMem → Prop} (o0 : qob Λ 10 v0) (h : w_Mo_orders Λ v0 v1 S Q) : QCt l y_Mo_orders c_Mo_orders 6 none 4 89 Δ Λ [.ref v0, vI v1] S (qV Q) :=
  QCt.mk (own := "TreeDifferModel") hΛ (by decide) rfl rfl (Nat.le_of_ble_eq_true rfl) (fun G hG ri rz rv rj ra => b_Mo_orders_0 hG (fun pc lv S d hq => rv pc lv S rfl d ⟨rfl, hq⟩) v0 v1 S o0 h)
theorem k_Mo_level : QVf y_Mo_level c_Mo_level 4 (some .int) "TreeDifferModel" 1 := ⟨m_1134, m_p73, m_11, m_1135, by decide +kernel⟩
theorem b_Mo_level_4 {Λ : QLay} {G : Nat → List (Nat × Value) → List Value → QMem → Prop} {Q : Int → QMem → Prop} (hG : QAct c_Mo_level "TreeDifferModel" 4 { frames := 1, cells := 0, slots := 0, locals := 21 } Λ G) (hR : RtI c_Mo_level G Q) : ∀ (n : Nat) (v0 : Nat) (v2 : Int) (v3 : Int) (S : QMem), qob Λ 10 v0 → w_Mo_level_4 Λ Q n v0 v2 v3 S → G 4 [(0, .ref v0), (2, vI v2), (3, vI v3)] [] S := by
  have hΛ := hG.lay
  intro n
  induction n with
  | zero => intro v0 v2 v3 S o_v0 h; exact h.elim
  | succ n ih =>
    intro v0 v2 v3 S o_v0 h
    rw [w_Mo_level_4] at h
    refine pw_iload_n (pc := 4) hG d_Mo_level_4 rfl ?_
    obtain ⟨hrx5, ha5, hb5⟩ := h
    refine pw_if_le (tgt := 25) (pc := 5) hG d_Mo_level_5 (by decide) hrx5 (fun hc5 => ?_) (fun hc5 => ?_)
    · replace h := ha5 hc5
      refine pw_iload_n (pc := 25) hG d_Mo_level_25 rfl ?_
      exact hR 26 _ _ _ d_Mo_level_26 h
    · replace h := hb5 hc5
      refine pw_iinc0 (pc := 8) hG d_Mo_level_8 rfl (by decide) rfl ?_
      refine pw_aload_n (pc := 11) hG d_Mo_level_11 rfl ?_
      refine g10_3 (pc := 12) hG m_805 d_Mo_level_12 o_v0 ?_
      refine pw_iconst (pc := 15) hG d_Mo_level_15 ?_
      refine pw_iload_n (pc := 16) hG d_Mo_level_16 rfl ?_
      refine pw_scalli (pc := 17) hG (fun l Δ => ct_Mo_at l Δ hΛ  h) m_791 k_Mo_at rfl ⟨by decide, by decide⟩ (Nat.le_of_ble_eq_true rfl) d_Mo_level_17 rfl (fun r17 S17 h => ?_)
      obtain ⟨hi20, h⟩ := h
      refine pw_aI (pc := 20) hG (q_arr hΛ o_v0 rfl (by decide)) hi20 d_Mo_level_20 ?_
      refine pw_istore_n (pc := 21) hG d_Mo_level_21 (by decide) (fun x21 ex21 => ⟨_, rfl, ?_⟩)
      replace h := h x21 ex21
      refine pw_goto (tgt := 4) (pc := 22) hG d_Mo_level_22 (by decide) ?_
      exact pw_sub hG [0, 2, 3] rfl (ih v0 (v2 + 1) x21 S17 o_v0 h)
theorem b_Mo_level_0 {Λ : QLay} {G : Nat → List (Nat × Value) → List Value → QMem → Prop} {Q : Int → QMem → Prop} (hG : QAct c_Mo_level "TreeDifferModel" 4 { frames := 1, cells := 0, slots := 0, locals := 21 } Λ G) (hR : RtI c_Mo_level G Q) (v0 : Nat) (v1 : Int) (S : QMem) (o0 : qob Λ 10 v0) (h : w_Mo_level Λ v0 v1 S Q) : G 0 [(0, .ref v0), (1, vI v1)] [] S := by
  have hΛ := hG.lay
  unfold w_Mo_level at h
  refine pw_iconst (pc := 0) hG d_Mo_level_0 ?_
  refine pw_ist_n (pc := 1) hG d_Mo_level_1 (by decide) rfl ?_
  refine pw_iload_n (pc := 2) hG d_Mo_level_2 rfl ?_
  refine pw_ist_n (pc := 3) hG d_Mo_level_3 (by decide) rfl ?_
  obtain ⟨n3, h⟩ := h
  exact pw_sub hG [0, 2, 3] rfl (b_Mo_level_4 hG hR n3 v0 0 v1 S o0 h)
theorem ct_Mo_level (l : Launch) (Δ : QDl) {Λ : QLay} (hΛ : LayOk Λ) {v0 : Nat} {v1 : Int} {S : QMem} {Q : Int → QMem → Prop} (o0 : qob Λ 10 v0) (h : w_Mo_level Λ v0 v1 S Q) : QCt l y_Mo_level c_Mo_level 4 (some .int) 1 21 Δ Λ [.ref v0, vI v1] S (qI Q) :=
  QCt.mk (own := "TreeDifferModel") hΛ (by decide) rfl rfl (Nat.le_of_ble_eq_true rfl) (fun G hG ri rz rv rj ra => b_Mo_level_0 hG (fun pc lv x S d hq => ri pc lv x S rfl d ⟨x, rfl, hq⟩) v0 v1 S o0 h)
theorem k_Mo_goesThrough : QVf y_Mo_goesThrough c_Mo_goesThrough 5 none "TreeDifferModel" 1 := ⟨m_1138, m_p74, m_11, m_1139, by decide +kernel⟩
theorem b_Mo_goesThrough_183 {Λ : QLay} {G : Nat → List (Nat × Value) → List Value → QMem → Prop} {Q : QMem → Prop} (hG : QAct c_Mo_goesThrough "TreeDifferModel" 5 { frames := 5, cells := 0, slots := 0, locals := 114 } Λ G) (hR : RtV c_Mo_goesThrough G Q) (v0 : Nat) (v1 : Int) (S : QMem) (o_v0 : qob Λ 10 v0) (h : w_Mo_goesThrough_183 Λ Q v0 v1 S) : G 183 [(0, .ref v0), (1, vI v1)] [] S := by
  have hΛ := hG.lay
  unfold w_Mo_goesThrough_183 at h
  refine pw_aload_n (pc := 183) hG d_Mo_goesThrough_183 rfl ?_
  refine pw_iload_n (pc := 184) hG d_Mo_goesThrough_184 rfl ?_
  refine pw_callv (pc := 185) hG (fun l Δ => ct_Mo_orders l Δ hΛ o_v0 h) o_v0 rfl (by decide) m_1097 k_Mo_orders rfl ⟨by decide, by decide⟩ (Nat.le_of_ble_eq_true rfl) d_Mo_goesThrough_185 rfl (fun S185 h => ?_)
  exact hR 188 _ _ d_Mo_goesThrough_188 h
theorem b_Mo_goesThrough_168 {Λ : QLay} {G : Nat → List (Nat × Value) → List Value → QMem → Prop} {Q : QMem → Prop} (hG : QAct c_Mo_goesThrough "TreeDifferModel" 5 { frames := 5, cells := 0, slots := 0, locals := 114 } Λ G) (hR : RtV c_Mo_goesThrough G Q) (v0 : Nat) (v1 : Int) (v2 : Int) (v3 : Int) (S : QMem) (o_v0 : qob Λ 10 v0) (h : w_Mo_goesThrough_168 Λ Q v0 v1 v2 v3 S) : G 168 [(0, .ref v0), (1, vI v1), (2, vI v2), (3, vI v3)] [] S := by
  have hΛ := hG.lay
  unfold w_Mo_goesThrough_168 at h
  refine pw_aload_n (pc := 168) hG d_Mo_goesThrough_168 rfl ?_
  refine g10_25 (pc := 169) hG m_827 d_Mo_goesThrough_169 o_v0 ?_
  refine pw_iload_n (pc := 172) hG d_Mo_goesThrough_172 rfl ?_
  obtain ⟨hi173, h⟩ := h
  refine pw_aI (pc := 173) hG (q_arr hΛ o_v0 rfl (by decide)) hi173 d_Mo_goesThrough_173 ?_
  refine pw_iload_n (pc := 174) hG d_Mo_goesThrough_174 rfl ?_
  obtain ⟨hrx175, hry175, ha175, hb175⟩ := h
  refine pw_icmp_eq (tgt := 183) (pc := 175) hG d_Mo_goesThrough_175 (by decide) hrx175 hry175 (fun hc175 => ?_) (fun hc175 => ?_)
  · replace h := ha175 hc175
    exact pw_sub hG [0, 1] rfl (b_Mo_goesThrough_183 hG hR v0 v1 S o_v0 h)
  · replace h := hb175 hc175
    refine pw_aload_n (pc := 178) hG d_Mo_goesThrough_178 rfl ?_
    refine pw_iload_n (pc := 179) hG d_Mo_goesThrough_179 rfl ?_
    refine pw_callv (pc := 180) hG (fun l Δ => ct_Mo_moves l Δ hΛ o_v0 h) o_v0 rfl (by decide) m_1113 k_Mo_moves rfl ⟨by decide, by decide⟩ (Nat.le_of_ble_eq_true rfl) d_Mo_goesThrough_180 rfl (fun S180 h => ?_)
    exact pw_sub hG [0, 1] rfl (b_Mo_goesThrough_183 hG hR v0 v1 S180 o_v0 h)
theorem b_Mo_goesThrough_0 {Λ : QLay} {G : Nat → List (Nat × Value) → List Value → QMem → Prop} {Q : QMem → Prop} (hG : QAct c_Mo_goesThrough "TreeDifferModel" 5 { frames := 5, cells := 0, slots := 0, locals := 114 } Λ G) (hR : RtV c_Mo_goesThrough G Q) (v0 : Nat) (v1 : Int) (S : QMem) (o0 : qob Λ 10 v0) (h : w_Mo_goesThrough Λ v0 v1 S Q) : G 0 [(0, .ref v0), (1, vI v1)] [] S := by
  have hΛ := hG.lay
  unfold w_Mo_goesThrough at h
  refine pw_aload_n (pc := 0) hG d_Mo_goesThrough_0 rfl ?_
  refine g10_32 (pc := 1) hG m_834 d_Mo_goesThrough_1 o0 ?_
  refine pw_aload_n (pc := 4) hG d_Mo_goesThrough_4 rfl ?_
  refine pw_iload_n (pc := 5) hG d_Mo_goesThrough_5 rfl ?_
  refine pw_calli (pc := 6) hG (fun l Δ => ct_Mo_parentOf l Δ hΛ o0 h) o0 rfl (by decide) m_1105 k_Mo_parentOf rfl ⟨by decide, by decide⟩ (Nat.le_of_ble_eq_true rfl) d_Mo_goesThrough_6 rfl (fun r6 S6 h => ?_)
  obtain ⟨hi9, h⟩ := h
  refine pw_aI (pc := 9) hG (q_arr hΛ o0 rfl (by decide)) hi9 d_Mo_goesThrough_9 ?_
  refine pw_istore_n (pc := 10) hG d_Mo_goesThrough_10 (by decide) (fun x10 ex10 => ⟨_, rfl, ?_⟩)
  replace h := h x10 ex10
  refine pw_aload_n (pc := 11) hG d_Mo_goesThrough_11 rfl ?_
  refine g10_32 (pc := 12) hG m_834 d_Mo_goesThrough_12 o0 ?_
  refine pw_iload_n (pc := 15) hG d_Mo_goesThrough_15 rfl ?_
  obtain ⟨hi16, h⟩ := h
  refine pw_aI (pc := 16) hG (q_arr hΛ o0 rfl (by decide)) hi16 d_Mo_goesThrough_16 ?_
  refine pw_istore_n (pc := 17) hG d_Mo_goesThrough_17 (by decide) (fun x17 ex17 => ⟨_, rfl, ?_⟩)
  replace h := h x17 ex17
  refine pw_iload_n (pc := 18) hG d_Mo_goesThrough_18 rfl ?_
  obtain ⟨hrx19, ha19, hb19⟩ := h
  refine pw_if_ge (tgt := 115) (pc := 19) hG d_Mo_goesThrough_19 (by decide) hrx19 (fun hc19 => ?_) (fun hc19 => ?_)
  · replace h := ha19 hc19
    refine pw_aload_n (pc := 115) hG d_Mo_goesThrough_115 rfl ?_
    refine g10_27 (pc := 116) hG m_829 d_Mo_goesThrough_116 o0 ?_
    refine pw_iload_n (pc := 119) hG d_Mo_goesThrough_119 rfl ?_
    obtain ⟨hi120, h⟩ := h
    refine pw_aI (pc := 120) hG (q_arr hΛ o0 rfl (by decide)) hi120 d_Mo_goesThrough_120 ?_
    refine pw_aload_n (pc := 121) hG d_Mo_goesThrough_121 rfl ?_
    refine g10_2 (pc := 122) hG m_804 d_Mo_goesThrough_122 o0 ?_
    refine pw_iconst (pc := 125) hG d_Mo_goesThrough_125 ?_
    refine pw_iload_n (pc := 126) hG d_Mo_goesThrough_126 rfl ?_
    refine pw_scalli (pc := 127) hG (fun l Δ => ct_Mo_at l Δ hΛ  h) m_791 k_Mo_at rfl ⟨by decide, by decide⟩ (Nat.le_of_ble_eq_true rfl) d_Mo_goesThrough_127 rfl (fun r127 S127 h => ?_)
    obtain ⟨hi130, h⟩ := h
    refine pw_aI (pc := 130) hG (q_arr hΛ o0 rfl (by decide)) hi130 d_Mo_goesThrough_130 ?_
    obtain ⟨hrx131, hry131, ha131, hb131⟩ := h
    refine pw_icmp_eq (tgt := 168) (pc := 131) hG d_Mo_goesThrough_131 (by decide) hrx131 hry131 (fun hc131 => ?_) (fun hc131 => ?_)
    · replace h := ha131 hc131
      exact pw_sub hG [0, 1, 2, 3] rfl (b_Mo_goesThrough_168 hG hR v0 v1 x10 x17 S127 o0 h)
    · replace h := hb131 hc131
      refine pw_aload_n (pc := 134) hG d_Mo_goesThrough_134 rfl ?_
      refine g10_27 (pc := 135) hG m_829 d_Mo_goesThrough_135 o0 ?_
      refine pw_iload_n (pc := 138) hG d_Mo_goesThrough_138 rfl ?_
      refine pw_aload_n (pc := 139) hG d_Mo_goesThrough_139 rfl ?_
      refine g10_2 (pc := 140) hG m_804 d_Mo_goesThrough_140 o0 ?_
      refine pw_iconst (pc := 143) hG d_Mo_goesThrough_143 ?_
      refine pw_iload_n (pc := 144) hG d_Mo_goesThrough_144 rfl ?_
      refine pw_scalli (pc := 145) hG (fun l Δ => ct_Mo_at l Δ hΛ  h) m_791 k_Mo_at rfl ⟨by decide, by decide⟩ (Nat.le_of_ble_eq_true rfl) d_Mo_goesThrough_145 rfl (fun r145 S145 h => ?_)
      obtain ⟨hi148, h⟩ := h
      refine pw_aI (pc := 148) hG (q_arr hΛ o0 rfl (by decide)) hi148 d_Mo_goesThrough_148 ?_
      obtain ⟨hi149, h⟩ := h
      refine pw_sI (pc := 149) hG (q_arr hΛ o0 rfl (by decide)) hi149 d_Mo_goesThrough_149 (fun S149 eS149 => ?_)
      replace h := h S149 eS149
      refine pw_aload_n (pc := 150) hG d_Mo_goesThrough_150 rfl ?_
      refine pw_iconst (pc := 151) hG d_Mo_goesThrough_151 ?_
      refine pw_iload_n (pc := 152) hG d_Mo_goesThrough_152 rfl ?_
      refine pw_bipush (pc := 153) hG d_Mo_goesThrough_153 (by decide) ?_
      refine pw_bipush (pc := 155) hG d_Mo_goesThrough_155 (by decide) ?_
      refine pw_bipush (pc := 157) hG d_Mo_goesThrough_157 (by decide) ?_
      refine pw_aload_n (pc := 159) hG d_Mo_goesThrough_159 rfl ?_
      refine g10_27 (pc := 160) hG m_829 d_Mo_goesThrough_160 o0 ?_
      refine pw_iload_n (pc := 163) hG d_Mo_goesThrough_163 rfl ?_
      obtain ⟨hi164, h⟩ := h
      refine pw_aI (pc := 164) hG (q_arr hΛ o0 rfl (by decide)) hi164 d_Mo_goesThrough_164 ?_
      refine pw_callv (pc := 165) hG (fun l Δ => ct_Mo_notes l Δ hΛ o0 h) o0 rfl (by decide) m_1128 k_Mo_notes rfl ⟨by decide, by decide⟩ (Nat.le_of_ble_eq_true rfl) d_Mo_goesThrough_165 rfl (fun S165 h => ?_)
      exact pw_sub hG [0, 1, 2, 3] rfl (b_Mo_goesThrough_168 hG hR v0 v1 x10 x17 S165 o0 h)
  · replace h := hb19 hc19
    refine pw_bipush (pc := 22) hG d_Mo_goesThrough_22 (by decide) ?_
    refine pw_iload_n (pc := 24) hG d_Mo_goesThrough_24 rfl ?_
    refine pw_iadd (pc := 25) hG d_Mo_goesThrough_25 ?_
    refine pw_istore_n (pc := 26) hG d_Mo_goesThrough_26 (by decide) (fun x26 ex26 => ⟨_, rfl, ?_⟩)
    replace h := h x26 ex26
    refine pw_aload_n (pc := 27) hG d_Mo_goesThrough_27 rfl ?_
    refine pw_iload_n (pc := 28) hG d_Mo_goesThrough_28 rfl ?_
    refine pw_calli (pc := 29) hG (fun l Δ => ct_Mo_placeFor l Δ hΛ o0 h) o0 rfl (by decide) m_1121 k_Mo_placeFor rfl ⟨by decide, by decide⟩ (Nat.le_of_ble_eq_true rfl) d_Mo_goesThrough_29 rfl (fun r29 S29 h => ?_)
    refine pw_ist (pc := 32) hG d_Mo_goesThrough_32 (by decide) rfl ?_
    refine pw_aload_n (pc := 34) hG d_Mo_goesThrough_34 rfl ?_
    refine g10_26 (pc := 35) hG m_828 d_Mo_goesThrough_35 o0 ?_
    refine pw_iload_n (pc := 38) hG d_Mo_goesThrough_38 rfl ?_
    refine pw_aload_n (pc := 39) hG d_Mo_goesThrough_39 rfl ?_
    refine g10_1 (pc := 40) hG m_803 d_Mo_goesThrough_40 o0 ?_
    refine pw_iconst (pc := 43) hG d_Mo_goesThrough_43 ?_
    refine pw_iload_n (pc := 44) hG d_Mo_goesThrough_44 rfl ?_
    refine pw_scalli (pc := 45) hG (fun l Δ => ct_Mo_at l Δ hΛ  h) m_791 k_Mo_at rfl ⟨by decide, by decide⟩ (Nat.le_of_ble_eq_true rfl) d_Mo_goesThrough_45 rfl (fun r45 S45 h => ?_)
    obtain ⟨hi48, h⟩ := h
    refine pw_aI (pc := 48) hG (q_arr hΛ o0 rfl (by decide)) hi48 d_Mo_goesThrough_48 ?_
    obtain ⟨hi49, h⟩ := h
    refine pw_sI (pc := 49) hG (q_arr hΛ o0 rfl (by decide)) hi49 d_Mo_goesThrough_49 (fun S49 eS49 => ?_)
    replace h := h S49 eS49
    refine pw_aload_n (pc := 50) hG d_Mo_goesThrough_50 rfl ?_
    refine g10_27 (pc := 51) hG m_829 d_Mo_goesThrough_51 o0 ?_
    refine pw_iload_n (pc := 54) hG d_Mo_goesThrough_54 rfl ?_
    refine pw_aload_n (pc := 55) hG d_Mo_goesThrough_55 rfl ?_
    refine g10_2 (pc := 56) hG m_804 d_Mo_goesThrough_56 o0 ?_
    refine pw_iconst (pc := 59) hG d_Mo_goesThrough_59 ?_
    refine pw_iload_n (pc := 60) hG d_Mo_goesThrough_60 rfl ?_
    refine pw_scalli (pc := 61) hG (fun l Δ => ct_Mo_at l Δ hΛ  h) m_791 k_Mo_at rfl ⟨by decide, by decide⟩ (Nat.le_of_ble_eq_true rfl) d_Mo_goesThrough_61 rfl (fun r61 S61 h => ?_)
    obtain ⟨hi64, h⟩ := h
    refine pw_aI (pc := 64) hG (q_arr hΛ o0 rfl (by decide)) hi64 d_Mo_goesThrough_64 ?_
    obtain ⟨hi65, h⟩ := h
    refine pw_sI (pc := 65) hG (q_arr hΛ o0 rfl (by decide)) hi65 d_Mo_goesThrough_65 (fun S65 eS65 => ?_)
    replace h := h S65 eS65
    refine pw_aload_n (pc := 66) hG d_Mo_goesThrough_66 rfl ?_
    refine pw_iload_n (pc := 67) hG d_Mo_goesThrough_67 rfl ?_
    refine pw_iload_n (pc := 68) hG d_Mo_goesThrough_68 rfl ?_
    refine pw_iload (pc := 69) hG d_Mo_goesThrough_69 rfl ?_
    refine pw_callv (pc := 71) hG (fun l Δ => ct_Mo_putsIn l Δ hΛ o0 h) o0 rfl (by decide) m_1093 k_Mo_putsIn rfl ⟨by decide, by decide⟩ (Nat.le_of_ble_eq_true rfl) d_Mo_goesThrough_71 rfl (fun S71 h => ?_)
    refine pw_aload_n (pc := 74) hG d_Mo_goesThrough_74 rfl ?_
    refine g10_32 (pc := 75) hG m_834 d_Mo_goesThrough_75 o0 ?_
    refine pw_iload_n (pc := 78) hG d_Mo_goesThrough_78 rfl ?_
    refine pw_iload_n (pc := 79) hG d_Mo_goesThrough_79 rfl ?_
    obtain ⟨hi80, h⟩ := h
    refine pw_sI (pc := 80) hG (q_arr hΛ o0 rfl (by decide)) hi80 d_Mo_goesThrough_80 (fun S80 eS80 => ?_)
    replace h := h S80 eS80
    refine pw_aload_n (pc := 81) hG d_Mo_goesThrough_81 rfl ?_
    refine g10_33 (pc := 82) hG m_835 d_Mo_goesThrough_82 o0 ?_
    refine pw_iload_n (pc := 85) hG d_Mo_goesThrough_85 rfl ?_
    refine pw_iconst (pc := 86) hG d_Mo_goesThrough_86 ?_
    obtain ⟨hi87, h⟩ := h
    refine pw_sZ (pc := 87) hG (q_arr hΛ o0 rfl (by decide)) hi87 (Or.inr rfl) d_Mo_goesThrough_87 (fun S87 eS87 => ?_)
    replace h := h S87 eS87
    refine pw_aload_n (pc := 88) hG d_Mo_goesThrough_88 rfl ?_
    refine pw_iconst (pc := 89) hG d_Mo_goesThrough_89 ?_
    refine pw_iload_n (pc := 90) hG d_Mo_goesThrough_90 rfl ?_
    refine pw_iload_n (pc := 91) hG d_Mo_goesThrough_91 rfl ?_
    refine pw_scalli (pc := 92) hG (fun l Δ => ct_Mo_number l Δ hΛ  h) m_1125 k_Mo_number rfl ⟨by decide, by decide⟩ (Nat.le_of_ble_eq_true rfl) d_Mo_goesThrough_92 rfl (fun r92 S92 h => ?_)
    refine pw_iload (pc := 95) hG d_Mo_goesThrough_95 rfl ?_
    refine pw_aload_n (pc := 97) hG d_Mo_goesThrough_97 rfl ?_
    refine g10_26 (pc := 98) hG m_828 d_Mo_goesThrough_98 o0 ?_
    refine pw_iload_n (pc := 101) hG d_Mo_goesThrough_101 rfl ?_
    obtain ⟨hi102, h⟩ := h
    refine pw_aI (pc := 102) hG (q_arr hΛ o0 rfl (by decide)) hi102 d_Mo_goesThrough_102 ?_
    refine pw_aload_n (pc := 103) hG d_Mo_goesThrough_103 rfl ?_
    refine g10_27 (pc := 104) hG m_829 d_Mo_goesThrough_104 o0 ?_
    refine pw_iload_n (pc := 107) hG d_Mo_goesThrough_107 rfl ?_
    obtain ⟨hi108, h⟩ := h
    refine pw_aI (pc := 108) hG (q_arr hΛ o0 rfl (by decide)) hi108 d_Mo_goesThrough_108 ?_
    refine pw_callv (pc := 109) hG (fun l Δ => ct_Mo_notes l Δ hΛ o0 h) o0 rfl (by decide) m_1128 k_Mo_notes rfl ⟨by decide, by decide⟩ (Nat.le_of_ble_eq_true rfl) d_Mo_goesThrough_109 rfl (fun S109 h => ?_)
    refine pw_goto (tgt := 183) (pc := 112) hG d_Mo_goesThrough_112 (by decide) ?_
    exact pw_sub hG [0, 1] rfl (b_Mo_goesThrough_183 hG hR v0 v1 S109 o0 h)
theorem ct_Mo_goesThrough (l : Launch) (Δ : QDl) {Λ : QLay} (hΛ : LayOk Λ) {v0 : Nat} {v1 : Int} {S : QMem} {Q : QMem → Prop} (o0 : qob Λ 10 v0) (h : w_Mo_goesThrough Λ v0 v1 S Q) : QCt l y_Mo_goesThrough c_Mo_goesThrough 5 none 5 114 Δ Λ [.ref v0, vI v1] S (qV Q) :=
  QCt.mk (own := "TreeDifferModel") hΛ (by decide) rfl rfl (Nat.le_of_ble_eq_true rfl) (fun G hG ri rz rv rj ra => b_Mo_goesThrough_0 hG (fun pc lv S d hq => rv pc lv S rfl d ⟨rfl, hq⟩) v0 v1 S o0 h)
theorem k_Mo_writes : QVf y_Mo_writes c_Mo_writes 3 none "TreeDifferModel" 0 := ⟨m_1087, m_p62, m_11, m_1088, by decide +kernel⟩
theorem b_Mo_writes_82 {Λ : QLay} {G : Nat → List (Nat × Value) → List Value → QMem → Prop} {Q : QMem → Prop} (hG : QAct c_Mo_writes "TreeDifferModel" 3 { frames := 6, cells := 0, slots := 0, locals := 138 } Λ G) (hR : RtV c_Mo_writes G Q) {K74 : Nat → Int → QMem → Prop} (hK74 : ∀ (v0 : Nat) (v1 : Int) (S : QMem), qob Λ 10 v0 → K74 v0 v1 S → G 74 [(0, .ref v0), (1, vI v1)] [] S) : ∀ (n : Nat) (v0 : Nat) (v1 : Int) (v2 : Int) (S : QMem), qob Λ 10 v0 → w_Mo_writes_82 Λ K74 Q n v0 v1 v2 S → G 82 [(0, .ref v0), (1, vI v1), (2, vI v2)] [] S := by
  have hΛ := hG.lay
  intro n
  induction n with
  | zero => intro v0 v1 v2 S o_v0 h; exact h.elim
  | succ n ih =>
    intro v0 v1 v2 S o_v0 h
    rw [w_Mo_writes_82] at h
    refine pw_iload_n (pc := 82) hG d_Mo_writes_82 rfl ?_
    refine pw_aload_n (pc := 83) hG d_Mo_writes_83 rfl ?_
    refine g10_0 (pc := 84) hG m_802 d_Mo_writes_84 o_v0 ?_
    refine pw_iconst (pc := 87) hG d_Mo_writes_87 ?_
    refine pw_aI (pc := 88) hG (q_arr hΛ o_v0 rfl (by decide)) (by decide) d_Mo_writes_88 ?_
    obtain ⟨hrx89, hry89, ha89, hb89⟩ := h
    refine pw_icmp_ge (tgt := 112) (pc := 89) hG d_Mo_writes_89 (by decide) hrx89 hry89 (fun hc89 => ?_) (fun hc89 => ?_)
    · replace h := ha89 hc89
      refine pw_iinc0 (pc := 112) hG d_Mo_writes_112 rfl (by decide) rfl ?_
      refine pw_goto (tgt := 74) (pc := 115) hG d_Mo_writes_115 (by decide) ?_
      exact pw_sub hG [0, 1] rfl (hK74 v0 (v1 + 1) S o_v0 h)
    · replace h := hb89 hc89
      refine pw_aload_n (pc := 92) hG d_Mo_writes_92 rfl ?_
      refine pw_iload_n (pc := 93) hG d_Mo_writes_93 rfl ?_
      refine pw_calli (pc := 94) hG (fun l Δ => ct_Mo_level l Δ hΛ o_v0 h) o_v0 rfl (by decide) m_1132 k_Mo_level rfl ⟨by decide, by decide⟩ (Nat.le_of_ble_eq_true rfl) d_Mo_writes_94 rfl (fun r94 S94 h => ?_)
      refine pw_iload_n (pc := 97) hG d_Mo_writes_97 rfl ?_
      obtain ⟨hrx98, hry98, ha98, hb98⟩ := h
      refine pw_icmp_ne (tgt := 106) (pc := 98) hG d_Mo_writes_98 (by decide) hrx98 hry98 (fun hc98 => ?_) (fun hc98 => ?_)
      · replace h := ha98 hc98
        refine pw_iinc0 (pc := 106) hG d_Mo_writes_106 rfl (by decide) rfl ?_
        refine pw_goto (tgt := 82) (pc := 109) hG d_Mo_writes_109 (by decide) ?_
        exact pw_sub hG [0, 1, 2] rfl (ih v0 v1 (v2 + 1) S94 o_v0 h)
      · replace h := hb98 hc98
        refine pw_aload_n (pc := 101) hG d_Mo_writes_101 rfl ?_
        refine pw_iload_n (pc := 102) hG d_Mo_writes_102 rfl ?_
        refine pw_callv (pc := 103) hG (fun l Δ => ct_Mo_goesThrough l Δ hΛ o_v0 h) o_v0 rfl (by decide) m_1136 k_Mo_goesThrough rfl ⟨by decide, by decide⟩ (Nat.le_of_ble_eq_true rfl) d_Mo_writes_103 rfl (fun S103 h => ?_)
        refine pw_iinc0 (pc := 106) hG d_Mo_writes_106 rfl (by decide) rfl ?_
        refine pw_goto (tgt := 82) (pc := 109) hG d_Mo_writes_109 (by decide) ?_
        exact pw_sub hG [0, 1, 2] rfl (ih v0 v1 (v2 + 1) S103 o_v0 h)
theorem b_Mo_writes_125 {Λ : QLay} {G : Nat → List (Nat × Value) → List Value → QMem → Prop} {Q : QMem → Prop} (hG : QAct c_Mo_writes "TreeDifferModel" 3 { frames := 6, cells := 0, slots := 0, locals := 138 } Λ G) (hR : RtV c_Mo_writes G Q) : ∀ (n : Nat) (v0 : Nat) (v1 : Int) (S : QMem), qob Λ 10 v0 → w_Mo_writes_125 Λ Q n v0 v1 S → G 125 [(0, .ref v0), (1, vI v1)] [] S := by
  have hΛ := hG.lay
  intro n
  induction n with
  | zero => intro v0 v1 S o_v0 h; exact h.elim
  | succ n ih =>
    intro v0 v1 S o_v0 h
    rw [w_Mo_writes_125] at h
    refine pw_iload_n (pc := 125) hG d_Mo_writes_125 rfl ?_
    refine pw_aload_n (pc := 126) hG d_Mo_writes_126 rfl ?_
    refine g10_0 (pc := 127) hG m_802 d_Mo_writes_127 o_v0 ?_
    refine pw_iconst (pc := 130) hG d_Mo_writes_130 ?_
    refine pw_aI (pc := 131) hG (q_arr hΛ o_v0 rfl (by decide)) (by decide) d_Mo_writes_131 ?_
    obtain ⟨hrx132, hry132, ha132, hb132⟩ := h
    refine pw_icmp_ge (tgt := 184) (pc := 132) hG d_Mo_writes_132 (by decide) hrx132 hry132 (fun hc132 => ?_) (fun hc132 => ?_)
    · replace h := ha132 hc132
      exact hR 184 _ _ d_Mo_writes_184 h
    · replace h := hb132 hc132
      refine pw_aload_n (pc := 135) hG d_Mo_writes_135 rfl ?_
      refine g10_21 (pc := 136) hG m_823 d_Mo_writes_136 o_v0 ?_
      refine pw_aload_n (pc := 139) hG d_Mo_writes_139 rfl ?_
      refine g10_24 (pc := 140) hG m_826 d_Mo_writes_140 o_v0 ?_
      refine pw_iload_n (pc := 143) hG d_Mo_writes_143 rfl ?_
      obtain ⟨hi144, h⟩ := h
      refine pw_aI (pc := 144) hG (q_arr hΛ o_v0 rfl (by decide)) hi144 d_Mo_writes_144 ?_
      obtain ⟨hi145, h⟩ := h
      refine pw_aI (pc := 145) hG (q_arr hΛ o_v0 rfl (by decide)) hi145 d_Mo_writes_145 ?_
      obtain ⟨hrx146, ha146, hb146⟩ := h
      refine pw_if_ge (tgt := 178) (pc := 146) hG d_Mo_writes_146 (by decide) hrx146 (fun hc146 => ?_) (fun hc146 => ?_)
      · replace h := ha146 hc146
        refine pw_iinc0 (pc := 178) hG d_Mo_writes_178 rfl (by decide) rfl ?_
        refine pw_goto (tgt := 125) (pc := 181) hG d_Mo_writes_181 (by decide) ?_
        exact pw_sub hG [0, 1] rfl (ih v0 (v1 + 1) S o_v0 h)
      · replace h := hb146 hc146
        refine pw_aload_n (pc := 149) hG d_Mo_writes_149 rfl ?_
        refine pw_aload_n (pc := 150) hG d_Mo_writes_150 rfl ?_
        refine g10_24 (pc := 151) hG m_826 d_Mo_writes_151 o_v0 ?_
        refine pw_iload_n (pc := 154) hG d_Mo_writes_154 rfl ?_
        obtain ⟨hi155, h⟩ := h
        refine pw_aI (pc := 155) hG (q_arr hΛ o_v0 rfl (by decide)) hi155 d_Mo_writes_155 ?_
        refine pw_callv (pc := 156) hG (fun l Δ => ct_Mo_takesOut l Δ hΛ o_v0 h) o_v0 rfl (by decide) m_1117 k_Mo_takesOut rfl ⟨by decide, by decide⟩ (Nat.le_of_ble_eq_true rfl) d_Mo_writes_156 rfl (fun S156 h => ?_)
        refine pw_aload_n (pc := 159) hG d_Mo_writes_159 rfl ?_
        refine pw_iconst (pc := 160) hG d_Mo_writes_160 ?_
        refine pw_aload_n (pc := 161) hG d_Mo_writes_161 rfl ?_
        refine g10_24 (pc := 162) hG m_826 d_Mo_writes_162 o_v0 ?_
        refine pw_iload_n (pc := 165) hG d_Mo_writes_165 rfl ?_
        obtain ⟨hi166, h⟩ := h
        refine pw_aI (pc := 166) hG (q_arr hΛ o_v0 rfl (by decide)) hi166 d_Mo_writes_166 ?_
        refine pw_bipush (pc := 167) hG d_Mo_writes_167 (by decide) ?_
        refine pw_bipush (pc := 169) hG d_Mo_writes_169 (by decide) ?_
        refine pw_bipush (pc := 171) hG d_Mo_writes_171 (by decide) ?_
        refine pw_bipush (pc := 173) hG d_Mo_writes_173 (by decide) ?_
        refine pw_callv (pc := 175) hG (fun l Δ => ct_Mo_notes l Δ hΛ o_v0 h) o_v0 rfl (by decide) m_1128 k_Mo_notes rfl ⟨by decide, by decide⟩ (Nat.le_of_ble_eq_true rfl) d_Mo_writes_175 rfl (fun S175 h => ?_)
        refine pw_iinc0 (pc := 178) hG d_Mo_writes_178 rfl (by decide) rfl ?_
        refine pw_goto (tgt := 125) (pc := 181) hG d_Mo_writes_181 (by decide) ?_
        exact pw_sub hG [0, 1] rfl (ih v0 (v1 + 1) S175 o_v0 h)
theorem b_Mo_writes_74 {Λ : QLay} {G : Nat → List (Nat × Value) → List Value → QMem → Prop} {Q : QMem → Prop} (hG : QAct c_Mo_writes "TreeDifferModel" 3 { frames := 6, cells := 0, slots := 0, locals := 138 } Λ G) (hR : RtV c_Mo_writes G Q) : ∀ (n : Nat) (v0 : Nat) (v1 : Int) (S : QMem), qob Λ 10 v0 → w_Mo_writes_74 Λ Q n v0 v1 S → G 74 [(0, .ref v0), (1, vI v1)] [] S := by
  have hΛ := hG.lay
  intro n
  induction n with
  | zero => intro v0 v1 S o_v0 h; exact h.elim
  | succ n ih =>
    intro v0 v1 S o_v0 h
    rw [w_Mo_writes_74] at h
    refine pw_iload_n (pc := 74) hG d_Mo_writes_74 rfl ?_
    refine pw_bipush (pc := 75) hG d_Mo_writes_75 (by decide) ?_
    obtain ⟨hrx77, ha77, hb77⟩ := h
    refine pw_icmp_ge (tgt := 118) (pc := 77) hG d_Mo_writes_77 (by decide) hrx77 (q_lit rfl) (fun hc77 => ?_) (fun hc77 => ?_)
    · replace h := ha77 hc77
      refine pw_aload_n (pc := 118) hG d_Mo_writes_118 rfl ?_
      refine pw_iconst (pc := 119) hG d_Mo_writes_119 ?_
      refine pw_callv (pc := 120) hG (fun l Δ => ct_Mo_findPost l Δ hΛ o_v0 h) o_v0 rfl (by decide) m_1065 k_Mo_findPost rfl ⟨by decide, by decide⟩ (Nat.le_of_ble_eq_true rfl) d_Mo_writes_120 rfl (fun S120 h => ?_)
      refine pw_iconst (pc := 123) hG d_Mo_writes_123 ?_
      refine pw_ist_n (pc := 124) hG d_Mo_writes_124 (by decide) rfl ?_
      obtain ⟨n124, h⟩ := h
      exact pw_sub hG [0, 1] rfl (b_Mo_writes_125 hG hR n124 v0 0 S120 o_v0 h)
    · replace h := hb77 hc77
      refine pw_iconst (pc := 80) hG d_Mo_writes_80 ?_
      refine pw_ist_n (pc := 81) hG d_Mo_writes_81 (by decide) rfl ?_
      obtain ⟨n81, h⟩ := h
      exact pw_sub hG [0, 1, 2] rfl (b_Mo_writes_82 hG hR ih n81 v0 v1 0 S o_v0 h)
theorem b_Mo_writes_12 {Λ : QLay} {G : Nat → List (Nat × Value) → List Value → QMem → Prop} {Q : QMem → Prop} (hG : QAct c_Mo_writes "TreeDifferModel" 3 { frames := 6, cells := 0, slots := 0, locals := 138 } Λ G) (hR : RtV c_Mo_writes G Q) : ∀ (n : Nat) (v0 : Nat) (v1 : Int) (S : QMem), qob Λ 10 v0 → w_Mo_writes_12 Λ Q n v0 v1 S → G 12 [(0, .ref v0), (1, vI v1)] [] S := by
  have hΛ := hG.lay
  intro n
  induction n with
  | zero => intro v0 v1 S o_v0 h; exact h.elim
  | succ n ih =>
    intro v0 v1 S o_v0 h
    rw [w_Mo_writes_12] at h
    refine pw_iload_n (pc := 12) hG d_Mo_writes_12 rfl ?_
    refine pw_bipush (pc := 13) hG d_Mo_writes_13 (by decide) ?_
    obtain ⟨hrx15, ha15, hb15⟩ := h
    refine pw_icmp_ge (tgt := 57) (pc := 15) hG d_Mo_writes_15 (by decide) hrx15 (q_lit rfl) (fun hc15 => ?_) (fun hc15 => ?_)
    · replace h := ha15 hc15
      refine pw_aload_n (pc := 57) hG d_Mo_writes_57 rfl ?_
      refine g10_32 (pc := 58) hG m_834 d_Mo_writes_58 o_v0 ?_
      refine pw_bipush (pc := 61) hG d_Mo_writes_61 (by decide) ?_
      refine pw_bipush (pc := 63) hG d_Mo_writes_63 (by decide) ?_
      refine pw_sI (pc := 65) hG (q_arr hΛ o_v0 rfl (by decide)) (by decide) d_Mo_writes_65 (fun S65 eS65 => ?_)
      replace h := h S65 eS65
      refine pw_aload_n (pc := 66) hG d_Mo_writes_66 rfl ?_
      refine pw_bipush (pc := 67) hG d_Mo_writes_67 (by decide) ?_
      refine pw_callv (pc := 69) hG (fun l Δ => ct_Mo_orders l Δ hΛ o_v0 h) o_v0 rfl (by decide) m_1097 k_Mo_orders rfl ⟨by decide, by decide⟩ (Nat.le_of_ble_eq_true rfl) d_Mo_writes_69 rfl (fun S69 h => ?_)
      refine pw_iconst (pc := 72) hG d_Mo_writes_72 ?_
      refine pw_ist_n (pc := 73) hG d_Mo_writes_73 (by decide) rfl ?_
      obtain ⟨n73, h⟩ := h
      exact pw_sub hG [0, 1] rfl (b_Mo_writes_74 hG hR n73 v0 0 S69 o_v0 h)
    · replace h := hb15 hc15
      refine pw_aload_n (pc := 18) hG d_Mo_writes_18 rfl ?_
      refine g10_32 (pc := 19) hG m_834 d_Mo_writes_19 o_v0 ?_
      refine pw_iload_n (pc := 22) hG d_Mo_writes_22 rfl ?_
      refine pw_iload_n (pc := 23) hG d_Mo_writes_23 rfl ?_
      refine pw_aload_n (pc := 24) hG d_Mo_writes_24 rfl ?_
      refine g10_0 (pc := 25) hG m_802 d_Mo_writes_25 o_v0 ?_
      refine pw_iconst (pc := 28) hG d_Mo_writes_28 ?_
      refine pw_aI (pc := 29) hG (q_arr hΛ o_v0 rfl (by decide)) (by decide) d_Mo_writes_29 ?_
      obtain ⟨hrx30, hry30, ha30, hb30⟩ := h
      refine pw_icmp_ge (tgt := 42) (pc := 30) hG d_Mo_writes_30 (by decide) hrx30 hry30 (fun hc30 => ?_) (fun hc30 => ?_)
      · replace h := ha30 hc30
        refine pw_iconst (pc := 42) hG d_Mo_writes_42 ?_
        obtain ⟨hi43, h⟩ := h
        refine pw_sI (pc := 43) hG (q_arr hΛ o_v0 rfl (by decide)) hi43 d_Mo_writes_43 (fun S43 eS43 => ?_)
        replace h := h S43 eS43
        refine pw_aload_n (pc := 44) hG d_Mo_writes_44 rfl ?_
        refine g10_33 (pc := 45) hG m_835 d_Mo_writes_45 o_v0 ?_
        refine pw_iload_n (pc := 48) hG d_Mo_writes_48 rfl ?_
        refine pw_iconst (pc := 49) hG d_Mo_writes_49 ?_
        obtain ⟨hi50, h⟩ := h
        refine pw_sZ (pc := 50) hG (q_arr hΛ o_v0 rfl (by decide)) hi50 (Or.inl rfl) d_Mo_writes_50 (fun S50 eS50 => ?_)
        replace h := h S50 eS50
        refine pw_iinc0 (pc := 51) hG d_Mo_writes_51 rfl (by decide) rfl ?_
        refine pw_goto (tgt := 12) (pc := 54) hG d_Mo_writes_54 (by decide) ?_
        exact pw_sub hG [0, 1] rfl (ih v0 (v1 + 1) S50 o_v0 h)
      · replace h := hb30 hc30
        refine pw_aload_n (pc := 33) hG d_Mo_writes_33 rfl ?_
        refine g10_22 (pc := 34) hG m_824 d_Mo_writes_34 o_v0 ?_
        refine pw_iload_n (pc := 37) hG d_Mo_writes_37 rfl ?_
        obtain ⟨hi38, h⟩ := h
        refine pw_aI (pc := 38) hG (q_arr hΛ o_v0 rfl (by decide)) hi38 d_Mo_writes_38 ?_
        refine pw_goto (tgt := 43) (pc := 39) hG d_Mo_writes_39 (by decide) ?_
        obtain ⟨hi43, h⟩ := h
        refine pw_sI (pc := 43) hG (q_arr hΛ o_v0 rfl (by decide)) hi43 d_Mo_writes_43 (fun S43 eS43 => ?_)
        replace h := h S43 eS43
        refine pw_aload_n (pc := 44) hG d_Mo_writes_44 rfl ?_
        refine g10_33 (pc := 45) hG m_835 d_Mo_writes_45 o_v0 ?_
        refine pw_iload_n (pc := 48) hG d_Mo_writes_48 rfl ?_
        refine pw_iconst (pc := 49) hG d_Mo_writes_49 ?_
        obtain ⟨hi50, h⟩ := h
        refine pw_sZ (pc := 50) hG (q_arr hΛ o_v0 rfl (by decide)) hi50 (Or.inl rfl) d_Mo_writes_50 (fun S50 eS50 => ?_)
        replace h := h S50 eS50
        refine pw_iinc0 (pc := 51) hG d_Mo_writes_51 rfl (by decide) rfl ?_
        refine pw_goto (tgt := 12) (pc := 54) hG d_Mo_writes_54 (by decide) ?_
        exact pw_sub hG [0, 1] rfl (ih v0 (v1 + 1) S50 o_v0 h)
theorem b_Mo_writes_0 {Λ : QLay} {G : Nat → List (Nat × Value) → List Value → QMem → Prop} {Q : QMem → Prop} (hG : QAct c_Mo_writes "TreeDifferModel" 3 { frames := 6, cells := 0, slots := 0, locals := 138 } Λ G) (hR : RtV c_Mo_writes G Q) (v0 : Nat) (S : QMem) (o0 : qob Λ 10 v0) (h : w_Mo_writes Λ v0 S Q) : G 0 [(0, .ref v0)] [] S := by
  have hΛ := hG.lay
  unfold w_Mo_writes at h
  refine pw_aload_n (pc := 0) hG d_Mo_writes_0 rfl ?_
  refine pw_iconst (pc := 1) hG d_Mo_writes_1 ?_
  refine p10_31 (pc := 2) hG m_833 d_Mo_writes_2 o0 (fun S2 eS2 => ?_)
  replace h := h S2 eS2
  refine pw_aload_n (pc := 5) hG d_Mo_writes_5 rfl ?_
  refine pw_iconst (pc := 6) hG d_Mo_writes_6 ?_
  refine pw_callv (pc := 7) hG (fun l Δ => ct_Mo_copyBegins l Δ hΛ o0 h) o0 rfl (by decide) m_1089 k_Mo_copyBegins rfl ⟨by decide, by decide⟩ (Nat.le_of_ble_eq_true rfl) d_Mo_writes_7 rfl (fun S7 h => ?_)
  refine pw_iconst (pc := 10) hG d_Mo_writes_10 ?_
  refine pw_ist_n (pc := 11) hG d_Mo_writes_11 (by decide) rfl ?_
  obtain ⟨n11, h⟩ := h
  exact pw_sub hG [0, 1] rfl (b_Mo_writes_12 hG hR n11 v0 0 S7 o0 h)
theorem ct_Mo_writes (l : Launch) (Δ : QDl) {Λ : QLay} (hΛ : LayOk Λ) {v0 : Nat} {S : QMem} {Q : QMem → Prop} (o0 : qob Λ 10 v0) (h : w_Mo_writes Λ v0 S Q) : QCt l y_Mo_writes c_Mo_writes 3 none 6 138 Δ Λ [.ref v0] S (qV Q) :=
  QCt.mk (own := "TreeDifferModel") hΛ (by decide) rfl rfl (Nat.le_of_ble_eq_true rfl) (fun G hG ri rz rv rj ra => b_Mo_writes_0 hG (fun pc lv S d hq => rv pc lv S rfl d ⟨rfl, hq⟩) v0 S o0 h)
