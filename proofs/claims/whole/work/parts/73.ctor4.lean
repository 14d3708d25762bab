/-! the reference's constructor -/
def FMo (m : Nat) (Λ : QLay) (S : QMem) : Prop := nF 10 m Λ S ∧ WM m S t00 t00 ∧ iRG m S ∧ (S.1 m 4 0 = 2 ∧ S.1 m 5 0 = 50) ∧ (S.1 m 8 0 = 0 ∧ S.1 m 8 1 = 0) ∧ (S.1 m 10 0 = 0 ∧ S.1 m 12 0 = 0) ∧ S.1 m 6 0 = 0 ∧ S.1 m 20 0 = 0
theorem rw10 : ∀ j, j < 45 → defaultValue (qt10 j) = vp_V [.null, .null, .null, .null, vI 0, vI 0, vI 0, .null, .null, .null, vI 0, .null, vI 0, vI 0, .null, vI 0, vI 0, vI 0, .null, .null, vI 0, .null, .null, .null, .null, .null, .null, .null, .null, .null, .null, vI 0, .null, .null, .null, .null, vI 0, .null, .null, .null, .null, .null, vI 0, .null, .null] j
  | 0, _ => rfl
  | 1, _ => rfl
  | 2, _ => rfl
  | 3, _ => rfl
  | 4, _ => rfl
  | 5, _ => rfl
  | 6, _ => rfl
  | 7, _ => rfl
  | 8, _ => rfl
  | 9, _ => rfl
  | 10, _ => rfl
  | 11, _ => rfl
  | 12, _ => rfl
  | 13, _ => rfl
  | 14, _ => rfl
  | 15, _ => rfl
  | 16, _ => rfl
  | 17, _ => rfl
  | 18, _ => rfl
  | 19, _ => rfl
  | 20, _ => rfl
  | 21, _ => rfl
  | 22, _ => rfl
  | 23, _ => rfl
  | 24, _ => rfl
  | 25, _ => rfl
  | 26, _ => rfl
  | 27, _ => rfl
  | 28, _ => rfl
  | 29, _ => rfl
  | 30, _ => rfl
  | 31, _ => rfl
  | 32, _ => rfl
  | 33, _ => rfl
  | 34, _ => rfl
  | 35, _ => rfl
  | 36, _ => rfl
  | 37, _ => rfl
  | 38, _ => rfl
  | 39, _ => rfl
  | 40, _ => rfl
  | 41, _ => rfl
  | 42, _ => rfl
  | 43, _ => rfl
  | 44, _ => rfl
  | n + 45, h => absurd h (by omega)
set_option maxRecDepth 100000 in
set_option maxHeartbeats 4000000 in
theorem n_Mo : QNt y_Mo_init c_Mo_init 2 3 70 32 7130 10 [.null, .null, .null, .null, vI 0, vI 0, vI 0, .null, .null, .null, vI 0, .null, vI 0, vI 0, .null, vI 0, vI 0, vI 0, .null, .null, vI 0, .null, .null, .null, .null, .null, .null, .null, .null, .null, .null, vI 0, .null, .null, .null, .null, vI 0, .null, .null, .null, .null, .null, vI 0, .null, .null] (FMo) := by
  refine QNt.mk (own := "TreeDifferModel") (by decide) rfl rfl (by decide) (fun Δ h0 G hG ret => ?_)
  refine np_aload_n (pc := 0) hG d_Mo_init_0 rfl ?_
  refine np_objInit (pc := 1) hG m_790 (by decide) (by decide) d_Mo_init_1 ?_
  refine np_aload_n (pc := 4) hG d_Mo_init_4 rfl ?_
  refine np_iconst (pc := 5) hG d_Mo_init_5 ?_
  refine np_newI (pc := 6) (N := 3) hG rfl (by decide) (Nat.le_of_ble_eq_true rfl) (Nat.le_of_ble_eq_true rfl) d_Mo_init_6 (fun a1 => ?_)
  refine np_put (pc := 8) (k := 10) (ty := qt10 0) hG rfl qi10 qt10 qto10 qn10 0 (by decide) rfl m_802 (qto10 0 (by decide)) rfl rfl (Nat.le_of_ble_eq_true rfl) d_Mo_init_8 ?_
  refine np_aload_n (pc := 11) hG d_Mo_init_11 rfl ?_
  refine np_bipush (pc := 12) hG d_Mo_init_12 (by decide) ?_
  refine np_newI (pc := 14) (N := 72) hG rfl (by decide) (Nat.le_of_ble_eq_true rfl) (Nat.le_of_ble_eq_true rfl) d_Mo_init_14 (fun a2 => ?_)
  refine np_put (pc := 16) (k := 10) (ty := qt10 1) hG rfl qi10 qt10 qto10 qn10 1 (by decide) rfl m_803 (qto10 1 (by decide)) rfl rfl (Nat.le_of_ble_eq_true rfl) d_Mo_init_16 ?_
  refine np_aload_n (pc := 19) hG d_Mo_init_19 rfl ?_
  refine np_bipush (pc := 20) hG d_Mo_init_20 (by decide) ?_
  refine np_newI (pc := 22) (N := 72) hG rfl (by decide) (Nat.le_of_ble_eq_true rfl) (Nat.le_of_ble_eq_true rfl) d_Mo_init_22 (fun a3 => ?_)
  refine np_put (pc := 24) (k := 10) (ty := qt10 2) hG rfl qi10 qt10 qto10 qn10 2 (by decide) rfl m_804 (qto10 2 (by decide)) rfl rfl (Nat.le_of_ble_eq_true rfl) d_Mo_init_24 ?_
  refine np_aload_n (pc := 27) hG d_Mo_init_27 rfl ?_
  refine np_bipush (pc := 28) hG d_Mo_init_28 (by decide) ?_
  refine np_newI (pc := 30) (N := 72) hG rfl (by decide) (Nat.le_of_ble_eq_true rfl) (Nat.le_of_ble_eq_true rfl) d_Mo_init_30 (fun a4 => ?_)
  refine np_put (pc := 32) (k := 10) (ty := qt10 3) hG rfl qi10 qt10 qto10 qn10 3 (by decide) rfl m_805 (qto10 3 (by decide)) rfl rfl (Nat.le_of_ble_eq_true rfl) d_Mo_init_32 ?_
  refine np_aload_n (pc := 35) hG d_Mo_init_35 rfl ?_
  refine np_iconst (pc := 36) hG d_Mo_init_36 ?_
  refine np_put (pc := 37) (k := 10) (ty := qt10 4) hG rfl qi10 qt10 qto10 qn10 4 (by decide) rfl m_806 (qto10 4 (by decide)) rfl rfl (Nat.le_of_ble_eq_true rfl) d_Mo_init_37 ?_
  refine np_aload_n (pc := 40) hG d_Mo_init_40 rfl ?_
  refine np_bipush (pc := 41) hG d_Mo_init_41 (by decide) ?_
  refine np_put (pc := 43) (k := 10) (ty := qt10 5) hG rfl qi10 qt10 qto10 qn10 5 (by decide) rfl m_807 (qto10 5 (by decide)) rfl rfl (Nat.le_of_ble_eq_true rfl) d_Mo_init_43 ?_
  refine np_aload_n (pc := 46) hG d_Mo_init_46 rfl ?_
  refine np_sipush (pc := 47) hG d_Mo_init_47 (by decide) ?_
  refine np_newI (pc := 50) (N := 300) hG rfl (by decide) (Nat.le_of_ble_eq_true rfl) (Nat.le_of_ble_eq_true rfl) d_Mo_init_50 (fun a5 => ?_)
  refine np_put (pc := 52) (k := 10) (ty := qt10 7) hG rfl qi10 qt10 qto10 qn10 7 (by decide) rfl m_809 (qto10 7 (by decide)) rfl rfl (Nat.le_of_ble_eq_true rfl) d_Mo_init_52 ?_
  refine np_aload_n (pc := 55) hG d_Mo_init_55 rfl ?_
  refine np_iconst (pc := 56) hG d_Mo_init_56 ?_
  refine np_newZ (pc := 57) (N := 2) hG rfl (by decide) (Nat.le_of_ble_eq_true rfl) (Nat.le_of_ble_eq_true rfl) d_Mo_init_57 (fun a6 => ?_)
  refine np_put (pc := 59) (k := 10) (ty := qt10 8) hG rfl qi10 qt10 qto10 qn10 8 (by decide) rfl m_810 (qto10 8 (by decide)) rfl rfl (Nat.le_of_ble_eq_true rfl) d_Mo_init_59 ?_
  refine np_aload_n (pc := 62) hG d_Mo_init_62 rfl ?_
  refine np_bipush (pc := 63) hG d_Mo_init_63 (by decide) ?_
  refine np_newI (pc := 65) (N := 100) hG rfl (by decide) (Nat.le_of_ble_eq_true rfl) (Nat.le_of_ble_eq_true rfl) d_Mo_init_65 (fun a7 => ?_)
  refine np_put (pc := 67) (k := 10) (ty := qt10 9) hG rfl qi10 qt10 qto10 qn10 9 (by decide) rfl m_811 (qto10 9 (by decide)) rfl rfl (Nat.le_of_ble_eq_true rfl) d_Mo_init_67 ?_
  refine np_aload_n (pc := 70) hG d_Mo_init_70 rfl ?_
  refine np_sipush (pc := 71) hG d_Mo_init_71 (by decide) ?_
  refine np_newI (pc := 74) (N := 500) hG rfl (by decide) (Nat.le_of_ble_eq_true rfl) (Nat.le_of_ble_eq_true rfl) d_Mo_init_74 (fun a8 => ?_)
  refine np_put (pc := 76) (k := 10) (ty := qt10 11) hG rfl qi10 qt10 qto10 qn10 11 (by decide) rfl m_813 (qto10 11 (by decide)) rfl rfl (Nat.le_of_ble_eq_true rfl) d_Mo_init_76 ?_
  refine np_aload_n (pc := 79) hG d_Mo_init_79 rfl ?_
  refine np_bipush (pc := 80) hG d_Mo_init_80 (by decide) ?_
  refine np_newI (pc := 82) (N := 26) hG rfl (by decide) (Nat.le_of_ble_eq_true rfl) (Nat.le_of_ble_eq_true rfl) d_Mo_init_82 (fun a9 => ?_)
  refine np_put (pc := 84) (k := 10) (ty := qt10 14) hG rfl qi10 qt10 qto10 qn10 14 (by decide) rfl m_816 (qto10 14 (by decide)) rfl rfl (Nat.le_of_ble_eq_true rfl) d_Mo_init_84 ?_
  refine np_aload_n (pc := 87) hG d_Mo_init_87 rfl ?_
  refine np_bipush (pc := 88) hG d_Mo_init_88 (by decide) ?_
  refine np_newI (pc := 90) (N := 48) hG rfl (by decide) (Nat.le_of_ble_eq_true rfl) (Nat.le_of_ble_eq_true rfl) d_Mo_init_90 (fun a10 => ?_)
  refine np_put (pc := 92) (k := 10) (ty := qt10 18) hG rfl qi10 qt10 qto10 qn10 18 (by decide) rfl m_820 (qto10 18 (by decide)) rfl rfl (Nat.le_of_ble_eq_true rfl) d_Mo_init_92 ?_
  refine np_aload_n (pc := 95) hG d_Mo_init_95 rfl ?_
  refine np_bipush (pc := 96) hG d_Mo_init_96 (by decide) ?_
  refine np_newI (pc := 98) (N := 48) hG rfl (by decide) (Nat.le_of_ble_eq_true rfl) (Nat.le_of_ble_eq_true rfl) d_Mo_init_98 (fun a11 => ?_)
  refine np_put (pc := 100) (k := 10) (ty := qt10 19) hG rfl qi10 qt10 qto10 qn10 19 (by decide) rfl m_821 (qto10 19 (by decide)) rfl rfl (Nat.le_of_ble_eq_true rfl) d_Mo_init_100 ?_
  refine np_aload_n (pc := 103) hG d_Mo_init_103 rfl ?_
  refine np_bipush (pc := 104) hG d_Mo_init_104 (by decide) ?_
  refine np_newI (pc := 106) (N := 24) hG rfl (by decide) (Nat.le_of_ble_eq_true rfl) (Nat.le_of_ble_eq_true rfl) d_Mo_init_106 (fun a12 => ?_)
  refine np_put (pc := 108) (k := 10) (ty := qt10 21) hG rfl qi10 qt10 qto10 qn10 21 (by decide) rfl m_823 (qto10 21 (by decide)) rfl rfl (Nat.le_of_ble_eq_true rfl) d_Mo_init_108 ?_
  refine np_aload_n (pc := 111) hG d_Mo_init_111 rfl ?_
  refine np_bipush (pc := 112) hG d_Mo_init_112 (by decide) ?_
  refine np_newI (pc := 114) (N := 24) hG rfl (by decide) (Nat.le_of_ble_eq_true rfl) (Nat.le_of_ble_eq_true rfl) d_Mo_init_114 (fun a13 => ?_)
  refine np_put (pc := 116) (k := 10) (ty := qt10 22) hG rfl qi10 qt10 qto10 qn10 22 (by decide) rfl m_824 (qto10 22 (by decide)) rfl rfl (Nat.le_of_ble_eq_true rfl) d_Mo_init_116 ?_
  refine np_aload_n (pc := 119) hG d_Mo_init_119 rfl ?_
  refine np_bipush (pc := 120) hG d_Mo_init_120 (by decide) ?_
  refine np_newI (pc := 122) (N := 24) hG rfl (by decide) (Nat.le_of_ble_eq_true rfl) (Nat.le_of_ble_eq_true rfl) d_Mo_init_122 (fun a14 => ?_)
  refine np_put (pc := 124) (k := 10) (ty := qt10 23) hG rfl qi10 qt10 qto10 qn10 23 (by decide) rfl m_825 (qto10 23 (by decide)) rfl rfl (Nat.le_of_ble_eq_true rfl) d_Mo_init_124 ?_
  refine np_aload_n (pc := 127) hG d_Mo_init_127 rfl ?_
  refine np_bipush (pc := 128) hG d_Mo_init_128 (by decide) ?_
  refine np_newI (pc := 130) (N := 24) hG rfl (by decide) (Nat.le_of_ble_eq_true rfl) (Nat.le_of_ble_eq_true rfl) d_Mo_init_130 (fun a15 => ?_)
  refine np_put (pc := 132) (k := 10) (ty := qt10 24) hG rfl qi10 qt10 qto10 qn10 24 (by decide) rfl m_826 (qto10 24 (by decide)) rfl rfl (Nat.le_of_ble_eq_true rfl) d_Mo_init_132 ?_
  refine np_aload_n (pc := 135) hG d_Mo_init_135 rfl ?_
  refine np_bipush (pc := 136) hG d_Mo_init_136 (by decide) ?_
  refine np_newI (pc := 138) (N := 49) hG rfl (by decide) (Nat.le_of_ble_eq_true rfl) (Nat.le_of_ble_eq_true rfl) d_Mo_init_138 (fun a16 => ?_)
  refine np_put (pc := 140) (k := 10) (ty := qt10 25) hG rfl qi10 qt10 qto10 qn10 25 (by decide) rfl m_827 (qto10 25 (by decide)) rfl rfl (Nat.le_of_ble_eq_true rfl) d_Mo_init_140 ?_
  refine np_aload_n (pc := 143) hG d_Mo_init_143 rfl ?_
  refine np_bipush (pc := 144) hG d_Mo_init_144 (by decide) ?_
  refine np_newI (pc := 146) (N := 49) hG rfl (by decide) (Nat.le_of_ble_eq_true rfl) (Nat.le_of_ble_eq_true rfl) d_Mo_init_146 (fun a17 => ?_)
  refine np_put (pc := 148) (k := 10) (ty := qt10 26) hG rfl qi10 qt10 qto10 qn10 26 (by decide) rfl m_828 (qto10 26 (by decide)) rfl rfl (Nat.le_of_ble_eq_true rfl) d_Mo_init_148 ?_
  refine np_aload_n (pc := 151) hG d_Mo_init_151 rfl ?_
  refine np_bipush (pc := 152) hG d_Mo_init_152 (by decide) ?_
  refine np_newI (pc := 154) (N := 49) hG rfl (by decide) (Nat.le_of_ble_eq_true rfl) (Nat.le_of_ble_eq_true rfl) d_Mo_init_154 (fun a18 => ?_)
  refine np_put (pc := 156) (k := 10) (ty := qt10 27) hG rfl qi10 qt10 qto10 qn10 27 (by decide) rfl m_829 (qto10 27 (by decide)) rfl rfl (Nat.le_of_ble_eq_true rfl) d_Mo_init_156 ?_
  refine np_aload_n (pc := 159) hG d_Mo_init_159 rfl ?_
  refine np_sipush (pc := 160) hG d_Mo_init_160 (by decide) ?_
  refine np_newI (pc := 163) (N := 2401) hG rfl (by decide) (Nat.le_of_ble_eq_true rfl) (Nat.le_of_ble_eq_true rfl) d_Mo_init_163 (fun a19 => ?_)
  refine np_put (pc := 165) (k := 10) (ty := qt10 28) hG rfl qi10 qt10 qto10 qn10 28 (by decide) rfl m_830 (qto10 28 (by decide)) rfl rfl (Nat.le_of_ble_eq_true rfl) d_Mo_init_165 ?_
  refine np_aload_n (pc := 168) hG d_Mo_init_168 rfl ?_
  refine np_bipush (pc := 169) hG d_Mo_init_169 (by decide) ?_
  refine np_newI (pc := 171) (N := 49) hG rfl (by decide) (Nat.le_of_ble_eq_true rfl) (Nat.le_of_ble_eq_true rfl) d_Mo_init_171 (fun a20 => ?_)
  refine np_put (pc := 173) (k := 10) (ty := qt10 29) hG rfl qi10 qt10 qto10 qn10 29 (by decide) rfl m_831 (qto10 29 (by decide)) rfl rfl (Nat.le_of_ble_eq_true rfl) d_Mo_init_173 ?_
  refine np_aload_n (pc := 176) hG d_Mo_init_176 rfl ?_
  refine np_sipush (pc := 177) hG d_Mo_init_177 (by decide) ?_
  refine np_newI (pc := 180) (N := 1200) hG rfl (by decide) (Nat.le_of_ble_eq_true rfl) (Nat.le_of_ble_eq_true rfl) d_Mo_init_180 (fun a21 => ?_)
  refine np_put (pc := 182) (k := 10) (ty := qt10 30) hG rfl qi10 qt10 qto10 qn10 30 (by decide) rfl m_832 (qto10 30 (by decide)) rfl rfl (Nat.le_of_ble_eq_true rfl) d_Mo_init_182 ?_
  refine np_aload_n (pc := 185) hG d_Mo_init_185 rfl ?_
  refine np_bipush (pc := 186) hG d_Mo_init_186 (by decide) ?_
  refine np_newI (pc := 188) (N := 25) hG rfl (by decide) (Nat.le_of_ble_eq_true rfl) (Nat.le_of_ble_eq_true rfl) d_Mo_init_188 (fun a22 => ?_)
  refine np_put (pc := 190) (k := 10) (ty := qt10 32) hG rfl qi10 qt10 qto10 qn10 32 (by decide) rfl m_834 (qto10 32 (by decide)) rfl rfl (Nat.le_of_ble_eq_true rfl) d_Mo_init_190 ?_
  refine np_aload_n (pc := 193) hG d_Mo_init_193 rfl ?_
  refine np_bipush (pc := 194) hG d_Mo_init_194 (by decide) ?_
  refine np_newZ (pc := 196) (N := 24) hG rfl (by decide) (Nat.le_of_ble_eq_true rfl) (Nat.le_of_ble_eq_true rfl) d_Mo_init_196 (fun a23 => ?_)
  refine np_put (pc := 198) (k := 10) (ty := qt10 33) hG rfl qi10 qt10 qto10 qn10 33 (by decide) rfl m_835 (qto10 33 (by decide)) rfl rfl (Nat.le_of_ble_eq_true rfl) d_Mo_init_198 ?_
  refine np_aload_n (pc := 201) hG d_Mo_init_201 rfl ?_
  refine np_bipush (pc := 202) hG d_Mo_init_202 (by decide) ?_
  refine np_newI (pc := 204) (N := 24) hG rfl (by decide) (Nat.le_of_ble_eq_true rfl) (Nat.le_of_ble_eq_true rfl) d_Mo_init_204 (fun a24 => ?_)
  refine np_put (pc := 206) (k := 10) (ty := qt10 34) hG rfl qi10 qt10 qto10 qn10 34 (by decide) rfl m_836 (qto10 34 (by decide)) rfl rfl (Nat.le_of_ble_eq_true rfl) d_Mo_init_206 ?_
  refine np_aload_n (pc := 209) hG d_Mo_init_209 rfl ?_
  refine np_bipush (pc := 210) hG d_Mo_init_210 (by decide) ?_
  refine np_newI (pc := 212) (N := 24) hG rfl (by decide) (Nat.le_of_ble_eq_true rfl) (Nat.le_of_ble_eq_true rfl) d_Mo_init_212 (fun a25 => ?_)
  refine np_put (pc := 214) (k := 10) (ty := qt10 35) hG rfl qi10 qt10 qto10 qn10 35 (by decide) rfl m_837 (qto10 35 (by decide)) rfl rfl (Nat.le_of_ble_eq_true rfl) d_Mo_init_214 ?_
  refine np_aload_n (pc := 217) hG d_Mo_init_217 rfl ?_
  refine np_bipush (pc := 218) hG d_Mo_init_218 (by decide) ?_
  refine np_newI (pc := 220) (N := 48) hG rfl (by decide) (Nat.le_of_ble_eq_true rfl) (Nat.le_of_ble_eq_true rfl) d_Mo_init_220 (fun a26 => ?_)
  refine np_put (pc := 222) (k := 10) (ty := qt10 37) hG rfl qi10 qt10 qto10 qn10 37 (by decide) rfl m_839 (qto10 37 (by decide)) rfl rfl (Nat.le_of_ble_eq_true rfl) d_Mo_init_222 ?_
  refine np_aload_n (pc := 225) hG d_Mo_init_225 rfl ?_
  refine np_bipush (pc := 226) hG d_Mo_init_226 (by decide) ?_
  refine np_newI (pc := 228) (N := 48) hG rfl (by decide) (Nat.le_of_ble_eq_true rfl) (Nat.le_of_ble_eq_true rfl) d_Mo_init_228 (fun a27 => ?_)
  refine np_put (pc := 230) (k := 10) (ty := qt10 38) hG rfl qi10 qt10 qto10 qn10 38 (by decide) rfl m_840 (qto10 38 (by decide)) rfl rfl (Nat.le_of_ble_eq_true rfl) d_Mo_init_230 ?_
  refine np_aload_n (pc := 233) hG d_Mo_init_233 rfl ?_
  refine np_sipush (pc := 234) hG d_Mo_init_234 (by decide) ?_
  refine np_newI (pc := 237) (N := 576) hG rfl (by decide) (Nat.le_of_ble_eq_true rfl) (Nat.le_of_ble_eq_true rfl) d_Mo_init_237 (fun a28 => ?_)
  refine np_put (pc := 239) (k := 10) (ty := qt10 39) hG rfl qi10 qt10 qto10 qn10 39 (by decide) rfl m_841 (qto10 39 (by decide)) rfl rfl (Nat.le_of_ble_eq_true rfl) d_Mo_init_239 ?_
  refine np_aload_n (pc := 242) hG d_Mo_init_242 rfl ?_
  refine np_sipush (pc := 243) hG d_Mo_init_243 (by decide) ?_
  refine np_newI (pc := 246) (N := 625) hG rfl (by decide) (Nat.le_of_ble_eq_true rfl) (Nat.le_of_ble_eq_true rfl) d_Mo_init_246 (fun a29 => ?_)
  refine np_put (pc := 248) (k := 10) (ty := qt10 40) hG rfl qi10 qt10 qto10 qn10 40 (by decide) rfl m_842 (qto10 40 (by decide)) rfl rfl (Nat.le_of_ble_eq_true rfl) d_Mo_init_248 ?_
  refine np_aload_n (pc := 251) hG d_Mo_init_251 rfl ?_
  refine np_sipush (pc := 252) hG d_Mo_init_252 (by decide) ?_
  refine np_newI (pc := 255) (N := 500) hG rfl (by decide) (Nat.le_of_ble_eq_true rfl) (Nat.le_of_ble_eq_true rfl) d_Mo_init_255 (fun a30 => ?_)
  refine np_put (pc := 257) (k := 10) (ty := qt10 41) hG rfl qi10 qt10 qto10 qn10 41 (by decide) rfl m_843 (qto10 41 (by decide)) rfl rfl (Nat.le_of_ble_eq_true rfl) d_Mo_init_257 ?_
  refine np_aload_n (pc := 260) hG d_Mo_init_260 rfl ?_
  refine np_bipush (pc := 261) hG d_Mo_init_261 (by decide) ?_
  refine np_newI (pc := 263) (N := 50) hG rfl (by decide) (Nat.le_of_ble_eq_true rfl) (Nat.le_of_ble_eq_true rfl) d_Mo_init_263 (fun a31 => ?_)
  refine np_put (pc := 265) (k := 10) (ty := qt10 43) hG rfl qi10 qt10 qto10 qn10 43 (by decide) rfl m_845 (qto10 43 (by decide)) rfl rfl (Nat.le_of_ble_eq_true rfl) d_Mo_init_265 ?_
  refine np_aload_n (pc := 268) hG d_Mo_init_268 rfl ?_
  refine np_bipush (pc := 269) hG d_Mo_init_269 (by decide) ?_
  refine np_newI (pc := 271) (N := 50) hG rfl (by decide) (Nat.le_of_ble_eq_true rfl) (Nat.le_of_ble_eq_true rfl) d_Mo_init_271 (fun a32 => ?_)
  refine np_put (pc := 273) (k := 10) (ty := qt10 44) hG rfl qi10 qt10 qto10 qn10 44 (by decide) rfl m_846 (qto10 44 (by decide)) rfl rfl (Nat.le_of_ble_eq_true rfl) d_Mo_init_273 ?_
  refine np_obj (k := 10) (h0 := h0) (as := [(0, a1, 11, 3), (1, a2, 11, 72), (2, a3, 11, 72), (3, a4, 11, 72), (7, a5, 11, 300), (8, a6, 12, 2), (9, a7, 11, 100), (11, a8, 11, 500), (14, a9, 11, 26), (18, a10, 11, 48), (19, a11, 11, 48), (21, a12, 11, 24), (22, a13, 11, 24), (23, a14, 11, 24), (24, a15, 11, 24), (25, a16, 11, 49), (26, a17, 11, 49), (27, a18, 11, 49), (28, a19, 11, 2401), (29, a20, 11, 49), (30, a21, 11, 1200), (32, a22, 11, 25), (33, a23, 12, 24), (34, a24, 11, 24), (35, a25, 11, 24), (37, a26, 11, 48), (38, a27, 11, 48), (39, a28, 11, 576), (40, a29, 11, 625), (41, a30, 11, 500), (43, a31, 11, 50), (44, a32, 11, 50)]) (rf := fun _ _ => 0) (S0 := ((fun _ f _ => match f with | 4 => 2 | 5 => 50 | _ => 0, fun _ _ => 0) : QMem)) hG (k2_of [(0, 11, 3), (1, 11, 72), (2, 11, 72), (3, 11, 72), (7, 11, 300), (8, 12, 2), (9, 11, 100), (11, 11, 500), (14, 11, 26), (18, 11, 48), (19, 11, 48), (21, 11, 24), (22, 11, 24), (23, 11, 24), (24, 11, 24), (25, 11, 49), (26, 11, 49), (27, 11, 49), (28, 11, 2401), (29, 11, 49), (30, 11, 1200), (32, 11, 25), (33, 12, 24), (34, 11, 24), (35, 11, 24), (37, 11, 48), (38, 11, 48), (39, 11, 576), (40, 11, 625), (41, 11, 500), (43, 11, 50), (44, 11, 50)] rfl (by decide)) rfl (lyA_ob [(0, 11, 3), (1, 11, 72), (2, 11, 72), (3, 11, 72), (7, 11, 300), (8, 12, 2), (9, 11, 100), (11, 11, 500), (14, 11, 26), (18, 11, 48), (19, 11, 48), (21, 11, 24), (22, 11, 24), (23, 11, 24), (24, 11, 24), (25, 11, 49), (26, 11, 49), (27, 11, 49), (28, 11, 2401), (29, 11, 49), (30, 11, 1200), (32, 11, 25), (33, 12, 24), (34, 11, 24), (35, 11, 24), (37, 11, 48), (38, 11, 48), (39, 11, 576), (40, 11, 625), (41, 11, 500), (43, 11, 50), (44, 11, 50)] rfl (by decide) (by decide) (k2_of [(0, 11, 3), (1, 11, 72), (2, 11, 72), (3, 11, 72), (7, 11, 300), (8, 12, 2), (9, 11, 100), (11, 11, 500), (14, 11, 26), (18, 11, 48), (19, 11, 48), (21, 11, 24), (22, 11, 24), (23, 11, 24), (24, 11, 24), (25, 11, 49), (26, 11, 49), (27, 11, 49), (28, 11, 2401), (29, 11, 49), (30, 11, 1200), (32, 11, 25), (33, 12, 24), (34, 11, 24), (35, 11, 24), (37, 11, 48), (38, 11, 48), (39, 11, 576), (40, 11, 625), (41, 11, 500), (43, 11, 50), (44, 11, 50)] rfl (by decide)) (c1_of [(0, 11, 3), (1, 11, 72), (2, 11, 72), (3, 11, 72), (7, 11, 300), (8, 12, 2), (9, 11, 100), (11, 11, 500), (14, 11, 26), (18, 11, 48), (19, 11, 48), (21, 11, 24), (22, 11, 24), (23, 11, 24), (24, 11, 24), (25, 11, 49), (26, 11, 49), (27, 11, 49), (28, 11, 2401), (29, 11, 49), (30, 11, 1200), (32, 11, 25), (33, 12, 24), (34, 11, 24), (35, 11, 24), (37, 11, 48), (38, 11, 48), (39, 11, 576), (40, 11, 625), (41, 11, 500), (43, 11, 50), (44, 11, 50)] rfl (by decide)) (c2_no (by decide))) LyA_E (fun hn hd hL => ?_)
  have hF := nF_ob (S0 := ((fun _ f _ => match f with | 4 => 2 | 5 => 50 | _ => 0, fun _ _ => 0) : QMem)) hn hd (k2_of [(0, 11, 3), (1, 11, 72), (2, 11, 72), (3, 11, 72), (7, 11, 300), (8, 12, 2), (9, 11, 100), (11, 11, 500), (14, 11, 26), (18, 11, 48), (19, 11, 48), (21, 11, 24), (22, 11, 24), (23, 11, 24), (24, 11, 24), (25, 11, 49), (26, 11, 49), (27, 11, 49), (28, 11, 2401), (29, 11, 49), (30, 11, 1200), (32, 11, 25), (33, 12, 24), (34, 11, 24), (35, 11, 24), (37, 11, 48), (38, 11, 48), (39, 11, 576), (40, 11, 625), (41, 11, 500), (43, 11, 50), (44, 11, 50)] rfl (by decide)) LyR_E (okQ_E (S := meE)) (fun f i h => absurd rfl h) (fun h => absurd h (by decide))
  have hLA := LyA_M hd hL LyA_E
  have hLy := LyOk hLA hF.1
  have e0 : ∀ (f : Nat) (i : Int), (meM (obL 10 h0 [(0, a1, 11, 3), (1, a2, 11, 72), (2, a3, 11, 72), (3, a4, 11, 72), (7, a5, 11, 300), (8, a6, 12, 2), (9, a7, 11, 100), (11, a8, 11, 500), (14, a9, 11, 26), (18, a10, 11, 48), (19, a11, 11, 48), (21, a12, 11, 24), (22, a13, 11, 24), (23, a14, 11, 24), (24, a15, 11, 24), (25, a16, 11, 49), (26, a17, 11, 49), (27, a18, 11, 49), (28, a19, 11, 2401), (29, a20, 11, 49), (30, a21, 11, 1200), (32, a22, 11, 25), (33, a23, 12, 24), (34, a24, 11, 24), (35, a25, 11, 24), (37, a26, 11, 48), (38, a27, 11, 48), (39, a28, 11, 576), (40, a29, 11, 625), (41, a30, 11, 500), (43, a31, 11, 50), (44, a32, 11, 50)] (fun _ _ => 0)) ((fun _ f _ => match f with | 4 => 2 | 5 => 50 | _ => 0, fun _ _ => 0) : QMem) meE).1 h0 f i = (match f with | 4 => 2 | 5 => 50 | _ => 0) := fun f i => ob_S
  have o0 := hF.2.2
  generalize lyM (obL 10 h0 [(0, a1, 11, 3), (1, a2, 11, 72), (2, a3, 11, 72), (3, a4, 11, 72), (7, a5, 11, 300), (8, a6, 12, 2), (9, a7, 11, 100), (11, a8, 11, 500), (14, a9, 11, 26), (18, a10, 11, 48), (19, a11, 11, 48), (21, a12, 11, 24), (22, a13, 11, 24), (23, a14, 11, 24), (24, a15, 11, 24), (25, a16, 11, 49), (26, a17, 11, 49), (27, a18, 11, 49), (28, a19, 11, 2401), (29, a20, 11, 49), (30, a21, 11, 1200), (32, a22, 11, 25), (33, a23, 12, 24), (34, a24, 11, 24), (35, a25, 11, 24), (37, a26, 11, 48), (38, a27, 11, 48), (39, a28, 11, 576), (40, a29, 11, 625), (41, a30, 11, 500), (43, a31, 11, 50), (44, a32, 11, 50)] (fun _ _ => 0)) lyE = Λ at hF hLA hLy o0 ⊢
  generalize meM (obL 10 h0 [(0, a1, 11, 3), (1, a2, 11, 72), (2, a3, 11, 72), (3, a4, 11, 72), (7, a5, 11, 300), (8, a6, 12, 2), (9, a7, 11, 100), (11, a8, 11, 500), (14, a9, 11, 26), (18, a10, 11, 48), (19, a11, 11, 48), (21, a12, 11, 24), (22, a13, 11, 24), (23, a14, 11, 24), (24, a15, 11, 24), (25, a16, 11, 49), (26, a17, 11, 49), (27, a18, 11, 49), (28, a19, 11, 2401), (29, a20, 11, 49), (30, a21, 11, 1200), (32, a22, 11, 25), (33, a23, 12, 24), (34, a24, 11, 24), (35, a25, 11, 24), (37, a26, 11, 48), (38, a27, 11, 48), (39, a28, 11, 576), (40, a29, 11, 625), (41, a30, 11, 500), (43, a31, 11, 50), (44, a32, 11, 50)] (fun _ _ => 0)) ((fun _ f _ => match f with | 4 => 2 | 5 => 50 | _ => 0, fun _ _ => 0) : QMem) meE = S at hF e0 ⊢
  refine np_walk hG hLy hF.2.1 (Nat.le_of_ble_eq_true rfl) (Nat.le_of_ble_eq_true rfl) (fun G' hG' cv => ?_)
  refine pw_iconst (pc := 276) hG' d_Mo_init_276 ?_
  refine pw_ist_n (pc := 277) (lv' := [(0, .ref h0), (1, vI 0)]) hG' d_Mo_init_277 (by decide) rfl ?_
  have step : ∀ (i : Int) (S1 : QMem), (i = 0 ∨ i = 1) → (∀ S2 : QMem, S2 = q_st (q_st S1 h0 0 i 1) h0 3 (24 * i + 0) (-1) → G' 278 [(0, .ref h0), (1, vI (i + 1))] [] S2) → G' 278 [(0, .ref h0), (1, vI i)] [] S1 := by
    intro i S1 hi kk
    refine pw_iload_n (pc := 278) hG' d_Mo_init_278 rfl ?_
    refine pw_iconst (pc := 279) hG' d_Mo_init_279 ?_
    refine pw_icmp_ge (pc := 280) (tgt := 307) hG' d_Mo_init_280 (by decide) (by unfold inR; omega) (by unfold inR; omega) (fun h => by omega) (fun _ => ?_)
    refine pw_aload_n (pc := 283) hG' d_Mo_init_283 rfl ?_
    refine g10_0 (pc := 284) hG' m_802 d_Mo_init_284 o0 ?_
    refine pw_iload_n (pc := 287) hG' d_Mo_init_287 rfl ?_
    refine pw_iconst (pc := 288) hG' d_Mo_init_288 ?_
    refine pw_sI (pc := 289) hG' (q_arr hLy o0 rfl (by decide)) ⟨by omega, by show i < 3; omega⟩ d_Mo_init_289 (fun S2 e2 => ?_)
    refine pw_aload_n (pc := 290) hG' d_Mo_init_290 rfl ?_
    refine g10_3 (pc := 291) hG' m_805 d_Mo_init_291 o0 ?_
    refine pw_iload_n (pc := 294) hG' d_Mo_init_294 rfl ?_
    refine pw_iconst (pc := 295) hG' d_Mo_init_295 ?_
    refine pw_scalli (pc := 296) (As := [vI i, vI 0]) (Q := fun r S' => r = 24 * i + 0 ∧ S' = S2) hG' (fun l Δ => ct_Mo_at l Δ hLy (by unfold w_Mo_at; exact ⟨rfl, rfl⟩)) m_791 k_Mo_at rfl ⟨by decide, by decide⟩ (Nat.le_of_ble_eq_true rfl) d_Mo_init_296 rfl (fun r S3 h => ?_)
    obtain ⟨hr, hS⟩ := h
    rw [hr, hS]
    refine pw_iconst (pc := 299) hG' d_Mo_init_299 ?_
    refine pw_sI (pc := 300) hG' (q_arr hLy o0 rfl (by decide)) ⟨by omega, by show 24 * i + 0 < 72; omega⟩ d_Mo_init_300 (fun S4 e4 => ?_)
    refine pw_iinc0 (pc := 301) (lv' := [(0, .ref h0), (1, vI (i + 1))]) hG' d_Mo_init_301 rfl (by decide) rfl ?_
    refine pw_goto (pc := 304) (tgt := 278) hG' d_Mo_init_304 (by decide) ?_
    exact kk S4 (by rw [e4, e2])
  refine step 0 S (Or.inl rfl) (fun S1 e1 => ?_)
  refine step 1 S1 (Or.inr rfl) (fun S2 e2 => ?_)
  refine pw_iload_n (pc := 278) hG' d_Mo_init_278 rfl ?_
  refine pw_iconst (pc := 279) hG' d_Mo_init_279 ?_
  refine pw_icmp_ge (pc := 280) (tgt := 307) hG' d_Mo_init_280 (by decide) (by unfold inR; omega) (by unfold inR; omega) (fun _ => ?_) (fun h => absurd (by decide) h)
  refine pw_aload_n (pc := 307) hG' d_Mo_init_307 rfl ?_
  have z : ∀ (f : Nat) (i : Int), S2.1 h0 f i = if f = 3 ∧ i = 24 then -1 else if f = 0 ∧ i = 1 then 1 else if f = 3 ∧ i = 0 then -1 else if f = 0 ∧ i = 0 then 1 else (match f with | 4 => 2 | 5 => 50 | _ => 0) := fun f i => by
    rw [e2, e1, ← e0 f i]
    simp [q_st]
  have M0 : MT S2 h0 0 (tn t00) (tl t00) (tv t00) (tp t00) := ⟨z 0 0, fun k k0 k1 => by
    have k1 : k < 1 := k1
    have hk : k = 0 := by omega
    rw [hk]
    exact ⟨z 1 0, z 2 0, z 3 0⟩⟩
  have M1 : MT S2 h0 1 (tn t00) (tl t00) (tv t00) (tp t00) := ⟨z 0 1, fun k k0 k1 => by
    have k1 : k < 1 := k1
    have hk : k = 0 := by omega
    rw [hk]
    exact ⟨z 1 24, z 2 24, z 3 24⟩⟩
  refine pw_callv (pc := 308) (Q := fun S' => FMo h0 Λ S' ∨ (okQ Λ Λ S' → FMo h0 Λ S')) hG' (fun l Δ => ct_Mo_changes l Δ hLy o0 (s_Mo_changes (ix := fun _ => 1) rfl wf00 wf00 M0 M1 (fun S3 K3 h20 h6 W3 => Or.inr (fun hok => ?_)))) o0 rfl (by decide) m_794 k_Mo_changes rfl ⟨by decide, by decide⟩ (Nat.le_of_ble_eq_true rfl) d_Mo_init_308 rfl (fun S3 h => ?_)
  · have e3 : ∀ f i, ¬ (f = 6 ∨ f = 18 ∨ f = 19 ∨ f = 20) → S3.1 h0 f i = S2.1 h0 f i := fun f i hf => K3.at rfl (by unfold PCh; omega)
    refine ⟨⟨hF.1, hok, o0⟩, W3, fun i i0 i1 => ?_, ⟨?_, ?_⟩, ⟨?_, ?_⟩, ⟨?_, ?_⟩, h6, h20⟩
    · have z1 : S2.1 h0 1 i = 0 := by rw [z]; simp
      have z2 : S2.1 h0 2 i = 0 := by rw [z]; simp
      rw [e3 1 i (by omega), e3 2 i (by omega), z1, z2]
      exact ⟨⟨by decide, by decide⟩, by decide, by decide⟩
    · rw [e3 4 0 (by omega)]; exact z 4 0
    · rw [e3 5 0 (by omega)]; exact z 5 0
    · rw [e3 8 0 (by omega)]; exact z 8 0
    · rw [e3 8 1 (by omega)]; exact z 8 1
    · rw [e3 10 0 (by omega)]; exact z 10 0
    · rw [e3 12 0 (by omega)]; exact z 12 0
  · exact cv 311 _ [] S3 (fun hok => ret 311 _ _ _ _ _ d_Mo_init_311 (h.elim id (fun g => g hok)) hLA (Nat.le_of_ble_eq_true rfl) (Nat.le_of_ble_eq_true rfl))
