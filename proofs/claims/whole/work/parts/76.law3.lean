/-! the law's cases: each call of the class, then the reference's, with equal answers -/
theorem la_up {a b y : Int} (h : a ≤ y) (hn : ¬ y = a) (hb : b = a + 1) : b ≤ y := by omega
section LAWR
variable {cc : ByteArray} {own : String} {nL : Nat} {R : Room} {Λ : QLay} {G : Nat → List (Nat × Value) → List Value → QMem → Prop} {pc : Nat} {lv : List (Nat × Value)} {st : List Value} {S : QMem}
theorem pw_same (hG : QAct cc own nL R Λ G) {x : Int} {off : Int} {tgt : Nat} (hd : decode cc pc = .ok (.if_icmp .eq off, 3)) (ht : (pc : Int) + off = (tgt : Int)) (k : G tgt lv st S) : G pc lv (vI x :: vI x :: st) S := by
  obtain ⟨p, l, e, s, m, args, below, meth, c, cells, slots, Q, A, Δ, hx, hb, hml, hown, hts, hn, hK, hL, hA, hcl, hsl, rfl⟩ := hG
  intro H locs ls hP hl
  exact lv_icmp_eq hx hb hd ht (fun _ => k H locs ls hP hl) (fun z => absurd rfl z)
theorem pw_lsame (hG : QAct cc own nL R Λ G) {x : Int} (hd : decode cc pc = .ok (.lcmp, 1)) (k : G (pc + 1) lv (vI 0 :: st) S) : G pc lv (vJ x :: vJ x :: st) S := by
  obtain ⟨p, l, e, s, m, args, below, meth, c, cells, slots, Q, A, Δ, hx, hb, hml, hown, hts, hn, hK, hL, hA, hcl, hsl, rfl⟩ := hG
  intro H locs ls hP hl
  refine W.lcmp hx hb hd ?_
  rw [show lg_cmp (Int64.ofInt x) (Int64.ofInt x) = Int32.ofInt 0 by simp [lg_cmp]]
  exact k H locs ls hP hl
theorem and31 (x : Int32) : ∃ y : Int, 0 ≤ y ∧ y < 32 ∧ x &&& Int32.ofInt 31 = Int32.ofInt y := by
  have h1 : (x &&& Int32.ofInt 31).toBitVec.toNat ≤ 31 := by
    rw [Int32.toBitVec_and, BitVec.toNat_and]
    exact Nat.and_le_right
  have h2 : (x &&& Int32.ofInt 31).toInt = ((x &&& Int32.ofInt 31).toBitVec.toNat : Int) := BitVec.toInt_eq_toNat_of_lt (by omega)
  exact ⟨(x &&& Int32.ofInt 31).toInt, by omega, by omega, (Int32.ofInt_toInt _).symm⟩
theorem pw_and31 (hG : QAct cc own nL R Λ G) {x : Int} (hd : decode cc pc = .ok (.iand, 1)) (k : ∀ y : Int, 0 ≤ y → y < 32 → G (pc + 1) lv (vI y :: st) S) : G pc lv (vI 31 :: vI x :: st) S := by
  obtain ⟨y, y0, y1, ey⟩ := and31 (Int32.ofInt x)
  have k := k y y0 y1
  obtain ⟨p, l, e, s, m, args, below, meth, c, cells, slots, Q, A, Δ, hx, hb, hml, hown, hts, hn, hK, hL, hA, hcl, hsl, rfl⟩ := hG
  intro H locs ls hP hl
  refine lv_iand hx hb hd ?_
  rw [ey]
  exact k H locs ls hP hl
end LAWR
/-- the law's walk: a method's, and the script's rows: an element, the length; the end -/
def LwG (b L : Nat) (X : Int → Int) (Λ : QLay) (G : Nat → List (Nat × Value) → List Value → QMem → Prop) : Prop :=
  QAct code "TreeDifferLaw" 4 room_1 Λ G ∧ (∀ (pc : Nat) (lv : List (Nat × Value)) (st : List Value) (S : QMem) {i : Int}, decode code pc = .ok (.iaload, 1) → 0 ≤ i → i < L → G (pc + 1) lv (vI (X i) :: st) S → G pc lv (vI i :: .ref b :: st) S) ∧
  (∀ (pc : Nat) (lv : List (Nat × Value)) (st : List Value) (S : QMem), decode code pc = .ok (.arraylength, 1) → G (pc + 1) lv (vI L :: st) S → G pc lv (.ref b :: st) S) ∧
  (∀ (pc : Nat) (lv : List (Nat × Value)) (S : QMem), decode code pc = .ok (.ireturn, 1) → G pc lv [vI 1] S) ∧ ∀ i : Int, inR (X i)
section LAWC
variable {b L T m : Nat} {X : Int → Int} {Λ : QLay} {ix : Nat → Nat} {G : Nat → List (Nat × Value) → List Value → QMem → Prop}
theorem la_append {i : Int} (g : LwG b L X Λ G) (sp : SP Λ T m ix) (hT : qob Λ 9 T) (hm : qob Λ 10 m) (hj : 0 ≤ i) (hj2 : i + 4 ≤ L) (K : ∀ S : QMem, Nxt Λ T m ix S → G 832 [(0, .ref b), (1, .ref T), (2, .ref m), (3, vI i)] [] S) {S : QMem} (hn : Nxt Λ T m ix S) : G 164 [(0, .ref b), (1, .ref T), (2, .ref m), (3, vI i)] [] S := by
  obtain ⟨t0, t1, l, p, n, o, hi⟩ := hn
  have hG := g.1
  have hΛ := hG.lay
  refine pw_aload_n (pc := 164) hG d_La_164 rfl ?_
  refine pw_aload_n (pc := 165) hG d_La_165 rfl ?_
  refine pw_iload_n (pc := 166) hG d_La_166 rfl ?_
  refine pw_iconst (pc := 167) hG d_La_167 ?_
  refine pw_iadd (pc := 168) hG d_La_168 ?_
  refine g.2.1 169 _ _ _ d_La_169 (by omega) (by omega) ?_
  refine pw_calli (pc := 170) hG (fun l Δ => ct_TD_append l Δ hΛ hT (c_append sp (g.2.2.2.2 _) hi)) hT rfl (by decide) m_369 k_TD_append rfl ⟨by decide, by decide⟩ (Nat.le_of_ble_eq_true rfl) d_La_170 rfl (fun r S1 h1 => ?_)
  refine pw_aload_n (pc := 173) hG d_La_173 rfl ?_
  refine pw_aload_n (pc := 174) hG d_La_174 rfl ?_
  refine pw_iload_n (pc := 175) hG d_La_175 rfl ?_
  refine pw_iconst (pc := 176) hG d_La_176 ?_
  refine pw_iadd (pc := 177) hG d_La_177 ?_
  refine g.2.1 178 _ _ _ d_La_178 (by omega) (by omega) ?_
  refine pw_calli (pc := 179) hG (fun l Δ => ct_Mo_append l Δ hΛ hm h1) hm rfl (by decide) m_938 k_Mo_append rfl ⟨by decide, by decide⟩ (Nat.le_of_ble_eq_true rfl) d_La_179 rfl (fun r2 S2 h2 => ?_)
  obtain ⟨e, h2⟩ := h2
  rw [e]
  exact pw_same (pc := 182) (tgt := 832) hG d_La_182 (by decide) (K S2 h2)
theorem la_clearText {i : Int} (g : LwG b L X Λ G) (sp : SP Λ T m ix) (hT : qob Λ 9 T) (hm : qob Λ 10 m) (hj : 0 ≤ i) (hj2 : i + 4 ≤ L) (K : ∀ S : QMem, Nxt Λ T m ix S → G 832 [(0, .ref b), (1, .ref T), (2, .ref m), (3, vI i)] [] S) {S : QMem} (hn : Nxt Λ T m ix S) : G 187 [(0, .ref b), (1, .ref T), (2, .ref m), (3, vI i)] [] S := by
  obtain ⟨t0, t1, l, p, n, o, hi⟩ := hn
  have hG := g.1
  have hΛ := hG.lay
  refine pw_aload_n (pc := 187) hG d_La_187 rfl ?_
  refine pw_calli (pc := 188) hG (fun l Δ => ct_TD_clearText l Δ hΛ hT (c_clearText sp hi)) hT rfl (by decide) m_377 k_TD_clearText rfl ⟨by decide, by decide⟩ (Nat.le_of_ble_eq_true rfl) d_La_188 rfl (fun r S1 h1 => ?_)
  refine pw_aload_n (pc := 191) hG d_La_191 rfl ?_
  refine pw_calli (pc := 192) hG (fun l Δ => ct_Mo_clearText l Δ hΛ hm h1) hm rfl (by decide) m_945 k_Mo_clearText rfl ⟨by decide, by decide⟩ (Nat.le_of_ble_eq_true rfl) d_La_192 rfl (fun r2 S2 h2 => ?_)
  obtain ⟨e, h2⟩ := h2
  rw [e]
  exact pw_same (pc := 195) (tgt := 832) hG d_La_195 (by decide) (K S2 h2)
theorem la_faultPosition {i : Int} (g : LwG b L X Λ G) (sp : SP Λ T m ix) (hT : qob Λ 9 T) (hm : qob Λ 10 m) (hj : 0 ≤ i) (hj2 : i + 4 ≤ L) (K : ∀ S : QMem, Nxt Λ T m ix S → G 832 [(0, .ref b), (1, .ref T), (2, .ref m), (3, vI i)] [] S) {S : QMem} (hn : Nxt Λ T m ix S) : G 200 [(0, .ref b), (1, .ref T), (2, .ref m), (3, vI i)] [] S := by
  obtain ⟨t0, t1, l, p, n, o, hi⟩ := hn
  have hG := g.1
  have hΛ := hG.lay
  refine pw_aload_n (pc := 200) hG d_La_200 rfl ?_
  refine pw_calli (pc := 201) hG (fun l Δ => ct_TD_faultPosition l Δ hΛ hT (c_faultPosition sp hi)) hT rfl (by decide) m_381 k_TD_faultPosition rfl ⟨by decide, by decide⟩ (Nat.le_of_ble_eq_true rfl) d_La_201 rfl (fun r S1 h1 => ?_)
  refine pw_aload_n (pc := 204) hG d_La_204 rfl ?_
  refine pw_calli (pc := 205) hG (fun l Δ => ct_Mo_faultPosition l Δ hΛ hm h1) hm rfl (by decide) m_949 k_Mo_faultPosition rfl ⟨by decide, by decide⟩ (Nat.le_of_ble_eq_true rfl) d_La_205 rfl (fun r2 S2 h2 => ?_)
  obtain ⟨e, h2⟩ := h2
  rw [e]
  exact pw_same (pc := 208) (tgt := 832) hG d_La_208 (by decide) (K S2 h2)
theorem la_faultDepth {i : Int} (g : LwG b L X Λ G) (sp : SP Λ T m ix) (hT : qob Λ 9 T) (hm : qob Λ 10 m) (hj : 0 ≤ i) (hj2 : i + 4 ≤ L) (K : ∀ S : QMem, Nxt Λ T m ix S → G 832 [(0, .ref b), (1, .ref T), (2, .ref m), (3, vI i)] [] S) {S : QMem} (hn : Nxt Λ T m ix S) : G 213 [(0, .ref b), (1, .ref T), (2, .ref m), (3, vI i)] [] S := by
  obtain ⟨t0, t1, l, p, n, o, hi⟩ := hn
  have hG := g.1
  have hΛ := hG.lay
  refine pw_aload_n (pc := 213) hG d_La_213 rfl ?_
  refine pw_calli (pc := 214) hG (fun l Δ => ct_TD_faultDepth l Δ hΛ hT (c_faultDepth sp hi)) hT rfl (by decide) m_417 k_TD_faultDepth rfl ⟨by decide, by decide⟩ (Nat.le_of_ble_eq_true rfl) d_La_214 rfl (fun r S1 h1 => ?_)
  refine pw_aload_n (pc := 217) hG d_La_217 rfl ?_
  refine pw_calli (pc := 218) hG (fun l Δ => ct_Mo_faultDepth l Δ hΛ hm h1) hm rfl (by decide) m_973 k_Mo_faultDepth rfl ⟨by decide, by decide⟩ (Nat.le_of_ble_eq_true rfl) d_La_218 rfl (fun r2 S2 h2 => ?_)
  obtain ⟨e, h2⟩ := h2
  rw [e]
  exact pw_same (pc := 221) (tgt := 832) hG d_La_221 (by decide) (K S2 h2)
theorem la_read {i : Int} (g : LwG b L X Λ G) (sp : SP Λ T m ix) (hT : qob Λ 9 T) (hm : qob Λ 10 m) (hj : 0 ≤ i) (hj2 : i + 4 ≤ L) (K : ∀ S : QMem, Nxt Λ T m ix S → G 832 [(0, .ref b), (1, .ref T), (2, .ref m), (3, vI i)] [] S) {S : QMem} (hn : Nxt Λ T m ix S) : G 226 [(0, .ref b), (1, .ref T), (2, .ref m), (3, vI i)] [] S := by
  obtain ⟨t0, t1, l, p, n, o, hi⟩ := hn
  have hG := g.1
  have hΛ := hG.lay
  refine pw_aload_n (pc := 226) hG d_La_226 rfl ?_
  refine pw_aload_n (pc := 227) hG d_La_227 rfl ?_
  refine pw_iload_n (pc := 228) hG d_La_228 rfl ?_
  refine pw_iconst (pc := 229) hG d_La_229 ?_
  refine pw_iadd (pc := 230) hG d_La_230 ?_
  refine g.2.1 231 _ _ _ d_La_231 (by omega) (by omega) ?_
  refine pw_calli (pc := 232) hG (fun l Δ => ct_TD_read l Δ hΛ hT (c_read sp (g.2.2.2.2 _) hi)) hT rfl (by decide) m_421 k_TD_read rfl ⟨by decide, by decide⟩ (Nat.le_of_ble_eq_true rfl) d_La_232 rfl (fun r S1 h1 => ?_)
  refine pw_aload_n (pc := 235) hG d_La_235 rfl ?_
  refine pw_aload_n (pc := 236) hG d_La_236 rfl ?_
  refine pw_iload_n (pc := 237) hG d_La_237 rfl ?_
  refine pw_iconst (pc := 238) hG d_La_238 ?_
  refine pw_iadd (pc := 239) hG d_La_239 ?_
  refine g.2.1 240 _ _ _ d_La_240 (by omega) (by omega) ?_
  refine pw_calli (pc := 241) hG (fun l Δ => ct_Mo_read l Δ hΛ hm h1) hm rfl (by decide) m_977 k_Mo_read rfl ⟨by decide, by decide⟩ (Nat.le_of_ble_eq_true rfl) d_La_241 rfl (fun r2 S2 h2 => ?_)
  obtain ⟨e, h2⟩ := h2
  rw [e]
  exact pw_same (pc := 244) (tgt := 832) hG d_La_244 (by decide) (K S2 h2)
theorem la_exchange {i : Int} (g : LwG b L X Λ G) (sp : SP Λ T m ix) (hT : qob Λ 9 T) (hm : qob Λ 10 m) (hj : 0 ≤ i) (hj2 : i + 4 ≤ L) (K : ∀ S : QMem, Nxt Λ T m ix S → G 832 [(0, .ref b), (1, .ref T), (2, .ref m), (3, vI i)] [] S) {S : QMem} (hn : Nxt Λ T m ix S) : G 249 [(0, .ref b), (1, .ref T), (2, .ref m), (3, vI i)] [] S := by
  obtain ⟨t0, t1, l, p, n, o, hi⟩ := hn
  have hG := g.1
  have hΛ := hG.lay
  refine pw_aload_n (pc := 249) hG d_La_249 rfl ?_
  refine pw_calli (pc := 250) hG (fun l Δ => ct_TD_exchange l Δ hΛ hT (c_exchange sp hi)) hT rfl (by decide) m_455 k_TD_exchange rfl ⟨by decide, by decide⟩ (Nat.le_of_ble_eq_true rfl) d_La_250 rfl (fun r S1 h1 => ?_)
  refine pw_aload_n (pc := 253) hG d_La_253 rfl ?_
  refine pw_calli (pc := 254) hG (fun l Δ => ct_Mo_exchange l Δ hΛ hm h1) hm rfl (by decide) m_985 k_Mo_exchange rfl ⟨by decide, by decide⟩ (Nat.le_of_ble_eq_true rfl) d_La_254 rfl (fun r2 S2 h2 => ?_)
  obtain ⟨e, h2⟩ := h2
  rw [e]
  exact pw_same (pc := 257) (tgt := 832) hG d_La_257 (by decide) (K S2 h2)
theorem la_nodes {i : Int} (g : LwG b L X Λ G) (sp : SP Λ T m ix) (hT : qob Λ 9 T) (hm : qob Λ 10 m) (hj : 0 ≤ i) (hj2 : i + 4 ≤ L) (K : ∀ S : QMem, Nxt Λ T m ix S → G 832 [(0, .ref b), (1, .ref T), (2, .ref m), (3, vI i)] [] S) {S : QMem} (hn : Nxt Λ T m ix S) : G 262 [(0, .ref b), (1, .ref T), (2, .ref m), (3, vI i)] [] S := by
  obtain ⟨t0, t1, l, p, n, o, hi⟩ := hn
  have hG := g.1
  have hΛ := hG.lay
  refine pw_aload_n (pc := 262) hG d_La_262 rfl ?_
  refine pw_aload_n (pc := 263) hG d_La_263 rfl ?_
  refine pw_iload_n (pc := 264) hG d_La_264 rfl ?_
  refine pw_iconst (pc := 265) hG d_La_265 ?_
  refine pw_iadd (pc := 266) hG d_La_266 ?_
  refine g.2.1 267 _ _ _ d_La_267 (by omega) (by omega) ?_
  refine pw_calli (pc := 268) hG (fun l Δ => ct_TD_nodes l Δ hΛ hT (c_nodes (g.2.2.2.2 _) hi)) hT rfl (by decide) m_463 k_TD_nodes rfl ⟨by decide, by decide⟩ (Nat.le_of_ble_eq_true rfl) d_La_268 rfl (fun r S1 h1 => ?_)
  refine pw_aload_n (pc := 271) hG d_La_271 rfl ?_
  refine pw_aload_n (pc := 272) hG d_La_272 rfl ?_
  refine pw_iload_n (pc := 273) hG d_La_273 rfl ?_
  refine pw_iconst (pc := 274) hG d_La_274 ?_
  refine pw_iadd (pc := 275) hG d_La_275 ?_
  refine g.2.1 276 _ _ _ d_La_276 (by omega) (by omega) ?_
  refine pw_calli (pc := 277) hG (fun l Δ => ct_Mo_nodes l Δ hΛ hm h1) hm rfl (by decide) m_989 k_Mo_nodes rfl ⟨by decide, by decide⟩ (Nat.le_of_ble_eq_true rfl) d_La_277 rfl (fun r2 S2 h2 => ?_)
  obtain ⟨e, h2⟩ := h2
  rw [e]
  exact pw_same (pc := 280) (tgt := 832) hG d_La_280 (by decide) (K S2 h2)
theorem la_node {i : Int} (g : LwG b L X Λ G) (sp : SP Λ T m ix) (hT : qob Λ 9 T) (hm : qob Λ 10 m) (hj : 0 ≤ i) (hj2 : i + 4 ≤ L) (K : ∀ S : QMem, Nxt Λ T m ix S → G 832 [(0, .ref b), (1, .ref T), (2, .ref m), (3, vI i)] [] S) {S : QMem} (hn : Nxt Λ T m ix S) : G 285 [(0, .ref b), (1, .ref T), (2, .ref m), (3, vI i)] [] S := by
  obtain ⟨t0, t1, l, p, n, o, hi⟩ := hn
  have hG := g.1
  have hΛ := hG.lay
  refine pw_aload_n (pc := 285) hG d_La_285 rfl ?_
  refine pw_aload_n (pc := 286) hG d_La_286 rfl ?_
  refine pw_iload_n (pc := 287) hG d_La_287 rfl ?_
  refine pw_iconst (pc := 288) hG d_La_288 ?_
  refine pw_iadd (pc := 289) hG d_La_289 ?_
  refine g.2.1 290 _ _ _ d_La_290 (by omega) (by omega) ?_
  refine pw_aload_n (pc := 291) hG d_La_291 rfl ?_
  refine pw_iload_n (pc := 292) hG d_La_292 rfl ?_
  refine pw_iconst (pc := 293) hG d_La_293 ?_
  refine pw_iadd (pc := 294) hG d_La_294 ?_
  refine g.2.1 295 _ _ _ d_La_295 (by omega) (by omega) ?_
  refine pw_aload_n (pc := 296) hG d_La_296 rfl ?_
  refine pw_iload_n (pc := 297) hG d_La_297 rfl ?_
  refine pw_iconst (pc := 298) hG d_La_298 ?_
  refine pw_iadd (pc := 299) hG d_La_299 ?_
  refine g.2.1 300 _ _ _ d_La_300 (by omega) (by omega) ?_
  refine pw_calli (pc := 301) hG (fun l Δ => ct_TD_node l Δ hΛ hT (c_node (g.2.2.2.2 _) (g.2.2.2.2 _) (g.2.2.2.2 _) hi)) hT rfl (by decide) m_467 k_TD_node rfl ⟨by decide, by decide⟩ (Nat.le_of_ble_eq_true rfl) d_La_301 rfl (fun r S1 h1 => ?_)
  refine pw_aload_n (pc := 304) hG d_La_304 rfl ?_
  refine pw_aload_n (pc := 305) hG d_La_305 rfl ?_
  refine pw_iload_n (pc := 306) hG d_La_306 rfl ?_
  refine pw_iconst (pc := 307) hG d_La_307 ?_
  refine pw_iadd (pc := 308) hG d_La_308 ?_
  refine g.2.1 309 _ _ _ d_La_309 (by omega) (by omega) ?_
  refine pw_aload_n (pc := 310) hG d_La_310 rfl ?_
  refine pw_iload_n (pc := 311) hG d_La_311 rfl ?_
  refine pw_iconst (pc := 312) hG d_La_312 ?_
  refine pw_iadd (pc := 313) hG d_La_313 ?_
  refine g.2.1 314 _ _ _ d_La_314 (by omega) (by omega) ?_
  refine pw_aload_n (pc := 315) hG d_La_315 rfl ?_
  refine pw_iload_n (pc := 316) hG d_La_316 rfl ?_
  refine pw_iconst (pc := 317) hG d_La_317 ?_
  refine pw_iadd (pc := 318) hG d_La_318 ?_
  refine g.2.1 319 _ _ _ d_La_319 (by omega) (by omega) ?_
  refine pw_calli (pc := 320) hG (fun l Δ => ct_Mo_node l Δ hΛ hm h1) hm rfl (by decide) m_993 k_Mo_node rfl ⟨by decide, by decide⟩ (Nat.le_of_ble_eq_true rfl) d_La_320 rfl (fun r2 S2 h2 => ?_)
  obtain ⟨e, h2⟩ := h2
  rw [e]
  exact pw_same (pc := 323) (tgt := 832) hG d_La_323 (by decide) (K S2 h2)
theorem la_child {i : Int} (g : LwG b L X Λ G) (sp : SP Λ T m ix) (hT : qob Λ 9 T) (hm : qob Λ 10 m) (hj : 0 ≤ i) (hj2 : i + 4 ≤ L) (K : ∀ S : QMem, Nxt Λ T m ix S → G 832 [(0, .ref b), (1, .ref T), (2, .ref m), (3, vI i)] [] S) {S : QMem} (hn : Nxt Λ T m ix S) : G 328 [(0, .ref b), (1, .ref T), (2, .ref m), (3, vI i)] [] S := by
  obtain ⟨t0, t1, l, p, n, o, hi⟩ := hn
  have hG := g.1
  have hΛ := hG.lay
  refine pw_aload_n (pc := 328) hG d_La_328 rfl ?_
  refine pw_aload_n (pc := 329) hG d_La_329 rfl ?_
  refine pw_iload_n (pc := 330) hG d_La_330 rfl ?_
  refine pw_iconst (pc := 331) hG d_La_331 ?_
  refine pw_iadd (pc := 332) hG d_La_332 ?_
  refine g.2.1 333 _ _ _ d_La_333 (by omega) (by omega) ?_
  refine pw_aload_n (pc := 334) hG d_La_334 rfl ?_
  refine pw_iload_n (pc := 335) hG d_La_335 rfl ?_
  refine pw_iconst (pc := 336) hG d_La_336 ?_
  refine pw_iadd (pc := 337) hG d_La_337 ?_
  refine g.2.1 338 _ _ _ d_La_338 (by omega) (by omega) ?_
  refine pw_aload_n (pc := 339) hG d_La_339 rfl ?_
  refine pw_iload_n (pc := 340) hG d_La_340 rfl ?_
  refine pw_iconst (pc := 341) hG d_La_341 ?_
  refine pw_iadd (pc := 342) hG d_La_342 ?_
  refine g.2.1 343 _ _ _ d_La_343 (by omega) (by omega) ?_
  refine pw_calli (pc := 344) hG (fun l Δ => ct_TD_child l Δ hΛ hT (c_child (g.2.2.2.2 _) (g.2.2.2.2 _) (g.2.2.2.2 _) hi)) hT rfl (by decide) m_475 k_TD_child rfl ⟨by decide, by decide⟩ (Nat.le_of_ble_eq_true rfl) d_La_344 rfl (fun r S1 h1 => ?_)
  refine pw_aload_n (pc := 347) hG d_La_347 rfl ?_
  refine pw_aload_n (pc := 348) hG d_La_348 rfl ?_
  refine pw_iload_n (pc := 349) hG d_La_349 rfl ?_
  refine pw_iconst (pc := 350) hG d_La_350 ?_
  refine pw_iadd (pc := 351) hG d_La_351 ?_
  refine g.2.1 352 _ _ _ d_La_352 (by omega) (by omega) ?_
  refine pw_aload_n (pc := 353) hG d_La_353 rfl ?_
  refine pw_iload_n (pc := 354) hG d_La_354 rfl ?_
  refine pw_iconst (pc := 355) hG d_La_355 ?_
  refine pw_iadd (pc := 356) hG d_La_356 ?_
  refine g.2.1 357 _ _ _ d_La_357 (by omega) (by omega) ?_
  refine pw_aload_n (pc := 358) hG d_La_358 rfl ?_
  refine pw_iload_n (pc := 359) hG d_La_359 rfl ?_
  refine pw_iconst (pc := 360) hG d_La_360 ?_
  refine pw_iadd (pc := 361) hG d_La_361 ?_
  refine g.2.1 362 _ _ _ d_La_362 (by omega) (by omega) ?_
  refine pw_calli (pc := 363) hG (fun l Δ => ct_Mo_child l Δ hΛ hm h1) hm rfl (by decide) m_1013 k_Mo_child rfl ⟨by decide, by decide⟩ (Nat.le_of_ble_eq_true rfl) d_La_363 rfl (fun r2 S2 h2 => ?_)
  obtain ⟨e, h2⟩ := h2
  rw [e]
  exact pw_same (pc := 366) (tgt := 832) hG d_La_366 (by decide) (K S2 h2)
theorem la_equal {i : Int} (g : LwG b L X Λ G) (sp : SP Λ T m ix) (hT : qob Λ 9 T) (hm : qob Λ 10 m) (hj : 0 ≤ i) (hj2 : i + 4 ≤ L) (K : ∀ S : QMem, Nxt Λ T m ix S → G 832 [(0, .ref b), (1, .ref T), (2, .ref m), (3, vI i)] [] S) {S : QMem} (hn : Nxt Λ T m ix S) : G 371 [(0, .ref b), (1, .ref T), (2, .ref m), (3, vI i)] [] S := by
  obtain ⟨t0, t1, l, p, n, o, hi⟩ := hn
  have hG := g.1
  have hΛ := hG.lay
  refine pw_aload_n (pc := 371) hG d_La_371 rfl ?_
  refine pw_aload_n (pc := 372) hG d_La_372 rfl ?_
  refine pw_iload_n (pc := 373) hG d_La_373 rfl ?_
  refine pw_iconst (pc := 374) hG d_La_374 ?_
  refine pw_iadd (pc := 375) hG d_La_375 ?_
  refine g.2.1 376 _ _ _ d_La_376 (by omega) (by omega) ?_
  refine pw_aload_n (pc := 377) hG d_La_377 rfl ?_
  refine pw_iload_n (pc := 378) hG d_La_378 rfl ?_
  refine pw_iconst (pc := 379) hG d_La_379 ?_
  refine pw_iadd (pc := 380) hG d_La_380 ?_
  refine g.2.1 381 _ _ _ d_La_381 (by omega) (by omega) ?_
  refine pw_calli (pc := 382) hG (fun l Δ => ct_TD_equal l Δ hΛ hT (c_equal (g.2.2.2.2 _) (g.2.2.2.2 _) hi)) hT rfl (by decide) m_487 k_TD_equal rfl ⟨by decide, by decide⟩ (Nat.le_of_ble_eq_true rfl) d_La_382 rfl (fun r S1 h1 => ?_)
  refine pw_aload_n (pc := 385) hG d_La_385 rfl ?_
  refine pw_aload_n (pc := 386) hG d_La_386 rfl ?_
  refine pw_iload_n (pc := 387) hG d_La_387 rfl ?_
  refine pw_iconst (pc := 388) hG d_La_388 ?_
  refine pw_iadd (pc := 389) hG d_La_389 ?_
  refine g.2.1 390 _ _ _ d_La_390 (by omega) (by omega) ?_
  refine pw_aload_n (pc := 391) hG d_La_391 rfl ?_
  refine pw_iload_n (pc := 392) hG d_La_392 rfl ?_
  refine pw_iconst (pc := 393) hG d_La_393 ?_
  refine pw_iadd (pc := 394) hG d_La_394 ?_
  refine g.2.1 395 _ _ _ d_La_395 (by omega) (by omega) ?_
  refine pw_calli (pc := 396) hG (fun l Δ => ct_Mo_equal l Δ hΛ hm h1) hm rfl (by decide) m_1021 k_Mo_equal rfl ⟨by decide, by decide⟩ (Nat.le_of_ble_eq_true rfl) d_La_396 rfl (fun r2 S2 h2 => ?_)
  obtain ⟨e, h2⟩ := h2
  rw [e]
  exact pw_same (pc := 399) (tgt := 832) hG d_La_399 (by decide) (K S2 h2)
theorem la_setMatching {i : Int} (g : LwG b L X Λ G) (sp : SP Λ T m ix) (hT : qob Λ 9 T) (hm : qob Λ 10 m) (hj : 0 ≤ i) (hj2 : i + 4 ≤ L) (K : ∀ S : QMem, Nxt Λ T m ix S → G 832 [(0, .ref b), (1, .ref T), (2, .ref m), (3, vI i)] [] S) {S : QMem} (hn : Nxt Λ T m ix S) : G 404 [(0, .ref b), (1, .ref T), (2, .ref m), (3, vI i)] [] S := by
  obtain ⟨t0, t1, l, p, n, o, hi⟩ := hn
  have hG := g.1
  have hΛ := hG.lay
  refine pw_aload_n (pc := 404) hG d_La_404 rfl ?_
  refine pw_aload_n (pc := 405) hG d_La_405 rfl ?_
  refine pw_iload_n (pc := 406) hG d_La_406 rfl ?_
  refine pw_iconst (pc := 407) hG d_La_407 ?_
  refine pw_iadd (pc := 408) hG d_La_408 ?_
  refine g.2.1 409 _ _ _ d_La_409 (by omega) (by omega) ?_
  refine pw_aload_n (pc := 410) hG d_La_410 rfl ?_
  refine pw_iload_n (pc := 411) hG d_La_411 rfl ?_
  refine pw_iconst (pc := 412) hG d_La_412 ?_
  refine pw_iadd (pc := 413) hG d_La_413 ?_
  refine g.2.1 414 _ _ _ d_La_414 (by omega) (by omega) ?_
  refine pw_calli (pc := 415) hG (fun l Δ => ct_TD_setMatching l Δ hΛ hT (c_setMatching sp (g.2.2.2.2 _) (g.2.2.2.2 _) hi)) hT rfl (by decide) m_499 k_TD_setMatching rfl ⟨by decide, by decide⟩ (Nat.le_of_ble_eq_true rfl) d_La_415 rfl (fun r S1 h1 => ?_)
  refine pw_aload_n (pc := 418) hG d_La_418 rfl ?_
  refine pw_aload_n (pc := 419) hG d_La_419 rfl ?_
  refine pw_iload_n (pc := 420) hG d_La_420 rfl ?_
  refine pw_iconst (pc := 421) hG d_La_421 ?_
  refine pw_iadd (pc := 422) hG d_La_422 ?_
  refine g.2.1 423 _ _ _ d_La_423 (by omega) (by omega) ?_
  refine pw_aload_n (pc := 424) hG d_La_424 rfl ?_
  refine pw_iload_n (pc := 425) hG d_La_425 rfl ?_
  refine pw_iconst (pc := 426) hG d_La_426 ?_
  refine pw_iadd (pc := 427) hG d_La_427 ?_
  refine g.2.1 428 _ _ _ d_La_428 (by omega) (by omega) ?_
  refine pw_calli (pc := 429) hG (fun l Δ => ct_Mo_setMatching l Δ hΛ hm h1) hm rfl (by decide) m_1029 k_Mo_setMatching rfl ⟨by decide, by decide⟩ (Nat.le_of_ble_eq_true rfl) d_La_429 rfl (fun r2 S2 h2 => ?_)
  obtain ⟨e, h2⟩ := h2
  rw [e]
  exact pw_same (pc := 432) (tgt := 832) hG d_La_432 (by decide) (K S2 h2)
theorem la_pairs {i : Int} (g : LwG b L X Λ G) (sp : SP Λ T m ix) (hT : qob Λ 9 T) (hm : qob Λ 10 m) (hj : 0 ≤ i) (hj2 : i + 4 ≤ L) (K : ∀ S : QMem, Nxt Λ T m ix S → G 832 [(0, .ref b), (1, .ref T), (2, .ref m), (3, vI i)] [] S) {S : QMem} (hn : Nxt Λ T m ix S) : G 437 [(0, .ref b), (1, .ref T), (2, .ref m), (3, vI i)] [] S := by
  obtain ⟨t0, t1, l, p, n, o, hi⟩ := hn
  have hG := g.1
  have hΛ := hG.lay
  refine pw_aload_n (pc := 437) hG d_La_437 rfl ?_
  refine pw_calli (pc := 438) hG (fun l Δ => ct_TD_pairs l Δ hΛ hT (c_pairs sp hi)) hT rfl (by decide) m_503 k_TD_pairs rfl ⟨by decide, by decide⟩ (Nat.le_of_ble_eq_true rfl) d_La_438 rfl (fun r S1 h1 => ?_)
  refine pw_aload_n (pc := 441) hG d_La_441 rfl ?_
  refine pw_calli (pc := 442) hG (fun l Δ => ct_Mo_pairs l Δ hΛ hm h1) hm rfl (by decide) m_1033 k_Mo_pairs rfl ⟨by decide, by decide⟩ (Nat.le_of_ble_eq_true rfl) d_La_442 rfl (fun r2 S2 h2 => ?_)
  obtain ⟨e, h2⟩ := h2
  rw [e]
  exact pw_same (pc := 445) (tgt := 832) hG d_La_445 (by decide) (K S2 h2)
theorem la_partner {i : Int} (g : LwG b L X Λ G) (sp : SP Λ T m ix) (hT : qob Λ 9 T) (hm : qob Λ 10 m) (hj : 0 ≤ i) (hj2 : i + 4 ≤ L) (K : ∀ S : QMem, Nxt Λ T m ix S → G 832 [(0, .ref b), (1, .ref T), (2, .ref m), (3, vI i)] [] S) {S : QMem} (hn : Nxt Λ T m ix S) : G 450 [(0, .ref b), (1, .ref T), (2, .ref m), (3, vI i)] [] S := by
  obtain ⟨t0, t1, l, p, n, o, hi⟩ := hn
  have hG := g.1
  have hΛ := hG.lay
  refine pw_aload_n (pc := 450) hG d_La_450 rfl ?_
  refine pw_aload_n (pc := 451) hG d_La_451 rfl ?_
  refine pw_iload_n (pc := 452) hG d_La_452 rfl ?_
  refine pw_iconst (pc := 453) hG d_La_453 ?_
  refine pw_iadd (pc := 454) hG d_La_454 ?_
  refine g.2.1 455 _ _ _ d_La_455 (by omega) (by omega) ?_
  refine pw_aload_n (pc := 456) hG d_La_456 rfl ?_
  refine pw_iload_n (pc := 457) hG d_La_457 rfl ?_
  refine pw_iconst (pc := 458) hG d_La_458 ?_
  refine pw_iadd (pc := 459) hG d_La_459 ?_
  refine g.2.1 460 _ _ _ d_La_460 (by omega) (by omega) ?_
  refine pw_calli (pc := 461) hG (fun l Δ => ct_TD_partner l Δ hΛ hT (c_partner sp (g.2.2.2.2 _) (g.2.2.2.2 _) hi)) hT rfl (by decide) m_648 k_TD_partner rfl ⟨by decide, by decide⟩ (Nat.le_of_ble_eq_true rfl) d_La_461 rfl (fun r S1 h1 => ?_)
  refine pw_aload_n (pc := 464) hG d_La_464 rfl ?_
  refine pw_aload_n (pc := 465) hG d_La_465 rfl ?_
  refine pw_iload_n (pc := 466) hG d_La_466 rfl ?_
  refine pw_iconst (pc := 467) hG d_La_467 ?_
  refine pw_iadd (pc := 468) hG d_La_468 ?_
  refine g.2.1 469 _ _ _ d_La_469 (by omega) (by omega) ?_
  refine pw_aload_n (pc := 470) hG d_La_470 rfl ?_
  refine pw_iload_n (pc := 471) hG d_La_471 rfl ?_
  refine pw_iconst (pc := 472) hG d_La_472 ?_
  refine pw_iadd (pc := 473) hG d_La_473 ?_
  refine g.2.1 474 _ _ _ d_La_474 (by omega) (by omega) ?_
  refine pw_calli (pc := 475) hG (fun l Δ => ct_Mo_partner l Δ hΛ hm h1) hm rfl (by decide) m_1147 k_Mo_partner rfl ⟨by decide, by decide⟩ (Nat.le_of_ble_eq_true rfl) d_La_475 rfl (fun r2 S2 h2 => ?_)
  obtain ⟨e, h2⟩ := h2
  rw [e]
  exact pw_same (pc := 478) (tgt := 832) hG d_La_478 (by decide) (K S2 h2)
theorem la_phase {i : Int} (g : LwG b L X Λ G) (sp : SP Λ T m ix) (hT : qob Λ 9 T) (hm : qob Λ 10 m) (hj : 0 ≤ i) (hj2 : i + 4 ≤ L) (K : ∀ S : QMem, Nxt Λ T m ix S → G 832 [(0, .ref b), (1, .ref T), (2, .ref m), (3, vI i)] [] S) {S : QMem} (hn : Nxt Λ T m ix S) : G 483 [(0, .ref b), (1, .ref T), (2, .ref m), (3, vI i)] [] S := by
  obtain ⟨t0, t1, l, p, n, o, hi⟩ := hn
  have hG := g.1
  have hΛ := hG.lay
  refine pw_aload_n (pc := 483) hG d_La_483 rfl ?_
  refine pw_aload_n (pc := 484) hG d_La_484 rfl ?_
  refine pw_iload_n (pc := 485) hG d_La_485 rfl ?_
  refine pw_iconst (pc := 486) hG d_La_486 ?_
  refine pw_iadd (pc := 487) hG d_La_487 ?_
  refine g.2.1 488 _ _ _ d_La_488 (by omega) (by omega) ?_
  refine pw_calli (pc := 489) hG (fun l Δ => ct_TD_phase l Δ hΛ hT (c_phase sp (g.2.2.2.2 _) hi)) hT rfl (by decide) m_655 k_TD_phase rfl ⟨by decide, by decide⟩ (Nat.le_of_ble_eq_true rfl) d_La_489 rfl (fun r S1 h1 => ?_)
  refine pw_aload_n (pc := 492) hG d_La_492 rfl ?_
  refine pw_aload_n (pc := 493) hG d_La_493 rfl ?_
  refine pw_iload_n (pc := 494) hG d_La_494 rfl ?_
  refine pw_iconst (pc := 495) hG d_La_495 ?_
  refine pw_iadd (pc := 496) hG d_La_496 ?_
  refine g.2.1 497 _ _ _ d_La_497 (by omega) (by omega) ?_
  refine pw_calli (pc := 498) hG (fun l Δ => ct_Mo_phase l Δ hΛ hm h1) hm rfl (by decide) m_1151 k_Mo_phase rfl ⟨by decide, by decide⟩ (Nat.le_of_ble_eq_true rfl) d_La_498 rfl (fun r2 S2 h2 => ?_)
  obtain ⟨e, h2⟩ := h2
  rw [e]
  exact pw_same (pc := 501) (tgt := 832) hG d_La_501 (by decide) (K S2 h2)
theorem la_likeness {i : Int} (g : LwG b L X Λ G) (sp : SP Λ T m ix) (hT : qob Λ 9 T) (hm : qob Λ 10 m) (hj : 0 ≤ i) (hj2 : i + 4 ≤ L) (K : ∀ S : QMem, Nxt Λ T m ix S → G 832 [(0, .ref b), (1, .ref T), (2, .ref m), (3, vI i)] [] S) {S : QMem} (hn : Nxt Λ T m ix S) : G 506 [(0, .ref b), (1, .ref T), (2, .ref m), (3, vI i)] [] S := by
  obtain ⟨t0, t1, l, p, n, o, hi⟩ := hn
  have hG := g.1
  have hΛ := hG.lay
  refine pw_aload_n (pc := 506) hG d_La_506 rfl ?_
  refine pw_aload_n (pc := 507) hG d_La_507 rfl ?_
  refine pw_iload_n (pc := 508) hG d_La_508 rfl ?_
  refine pw_iconst (pc := 509) hG d_La_509 ?_
  refine pw_iadd (pc := 510) hG d_La_510 ?_
  refine g.2.1 511 _ _ _ d_La_511 (by omega) (by omega) ?_
  refine pw_aload_n (pc := 512) hG d_La_512 rfl ?_
  refine pw_iload_n (pc := 513) hG d_La_513 rfl ?_
  refine pw_iconst (pc := 514) hG d_La_514 ?_
  refine pw_iadd (pc := 515) hG d_La_515 ?_
  refine g.2.1 516 _ _ _ d_La_516 (by omega) (by omega) ?_
  refine pw_calli (pc := 517) hG (fun l Δ => ct_TD_likeness l Δ hΛ hT (c_likeness sp (g.2.2.2.2 _) (g.2.2.2.2 _) hi)) hT rfl (by decide) m_659 k_TD_likeness rfl ⟨by decide, by decide⟩ (Nat.le_of_ble_eq_true rfl) d_La_517 rfl (fun r S1 h1 => ?_)
  refine pw_aload_n (pc := 520) hG d_La_520 rfl ?_
  refine pw_aload_n (pc := 521) hG d_La_521 rfl ?_
  refine pw_iload_n (pc := 522) hG d_La_522 rfl ?_
  refine pw_iconst (pc := 523) hG d_La_523 ?_
  refine pw_iadd (pc := 524) hG d_La_524 ?_
  refine g.2.1 525 _ _ _ d_La_525 (by omega) (by omega) ?_
  refine pw_aload_n (pc := 526) hG d_La_526 rfl ?_
  refine pw_iload_n (pc := 527) hG d_La_527 rfl ?_
  refine pw_iconst (pc := 528) hG d_La_528 ?_
  refine pw_iadd (pc := 529) hG d_La_529 ?_
  refine g.2.1 530 _ _ _ d_La_530 (by omega) (by omega) ?_
  refine pw_calli (pc := 531) hG (fun l Δ => ct_Mo_likeness l Δ hΛ hm h1) hm rfl (by decide) m_1155 k_Mo_likeness rfl ⟨by decide, by decide⟩ (Nat.le_of_ble_eq_true rfl) d_La_531 rfl (fun r2 S2 h2 => ?_)
  obtain ⟨e, h2⟩ := h2
  rw [e]
  exact pw_same (pc := 534) (tgt := 832) hG d_La_534 (by decide) (K S2 h2)
theorem la_steps {i : Int} (g : LwG b L X Λ G) (sp : SP Λ T m ix) (hT : qob Λ 9 T) (hm : qob Λ 10 m) (hj : 0 ≤ i) (hj2 : i + 4 ≤ L) (K : ∀ S : QMem, Nxt Λ T m ix S → G 832 [(0, .ref b), (1, .ref T), (2, .ref m), (3, vI i)] [] S) {S : QMem} (hn : Nxt Λ T m ix S) : G 539 [(0, .ref b), (1, .ref T), (2, .ref m), (3, vI i)] [] S := by
  obtain ⟨t0, t1, l, p, n, o, hi⟩ := hn
  have hG := g.1
  have hΛ := hG.lay
  refine pw_aload_n (pc := 539) hG d_La_539 rfl ?_
  refine pw_calli (pc := 540) hG (fun l Δ => ct_TD_steps l Δ hΛ hT (c_steps sp hi)) hT rfl (by decide) m_664 k_TD_steps rfl ⟨by decide, by decide⟩ (Nat.le_of_ble_eq_true rfl) d_La_540 rfl (fun r S1 h1 => ?_)
  refine pw_aload_n (pc := 543) hG d_La_543 rfl ?_
  refine pw_calli (pc := 544) hG (fun l Δ => ct_Mo_steps l Δ hΛ hm h1) hm rfl (by decide) m_1159 k_Mo_steps rfl ⟨by decide, by decide⟩ (Nat.le_of_ble_eq_true rfl) d_La_544 rfl (fun r2 S2 h2 => ?_)
  obtain ⟨e, h2⟩ := h2
  rw [e]
  exact pw_same (pc := 547) (tgt := 832) hG d_La_547 (by decide) (K S2 h2)
theorem la_step {i : Int} (g : LwG b L X Λ G) (sp : SP Λ T m ix) (hT : qob Λ 9 T) (hm : qob Λ 10 m) (hj : 0 ≤ i) (hj2 : i + 4 ≤ L) (K : ∀ S : QMem, Nxt Λ T m ix S → G 832 [(0, .ref b), (1, .ref T), (2, .ref m), (3, vI i)] [] S) {S : QMem} (hn : Nxt Λ T m ix S) : G 552 [(0, .ref b), (1, .ref T), (2, .ref m), (3, vI i)] [] S := by
  obtain ⟨t0, t1, l, p, n, o, hi⟩ := hn
  have hG := g.1
  have hΛ := hG.lay
  refine pw_aload_n (pc := 552) hG d_La_552 rfl ?_
  refine pw_aload_n (pc := 553) hG d_La_553 rfl ?_
  refine pw_iload_n (pc := 554) hG d_La_554 rfl ?_
  refine pw_iconst (pc := 555) hG d_La_555 ?_
  refine pw_iadd (pc := 556) hG d_La_556 ?_
  refine g.2.1 557 _ _ _ d_La_557 (by omega) (by omega) ?_
  refine pw_aload_n (pc := 558) hG d_La_558 rfl ?_
  refine pw_iload_n (pc := 559) hG d_La_559 rfl ?_
  refine pw_iconst (pc := 560) hG d_La_560 ?_
  refine pw_iadd (pc := 561) hG d_La_561 ?_
  refine g.2.1 562 _ _ _ d_La_562 (by omega) (by omega) ?_
  refine pw_calli (pc := 563) hG (fun l Δ => ct_TD_step l Δ hΛ hT (c_step sp (g.2.2.2.2 _) (g.2.2.2.2 _) hi)) hT rfl (by decide) m_668 k_TD_step rfl ⟨by decide, by decide⟩ (Nat.le_of_ble_eq_true rfl) d_La_563 rfl (fun r S1 h1 => ?_)
  refine pw_aload_n (pc := 566) hG d_La_566 rfl ?_
  refine pw_aload_n (pc := 567) hG d_La_567 rfl ?_
  refine pw_iload_n (pc := 568) hG d_La_568 rfl ?_
  refine pw_iconst (pc := 569) hG d_La_569 ?_
  refine pw_iadd (pc := 570) hG d_La_570 ?_
  refine g.2.1 571 _ _ _ d_La_571 (by omega) (by omega) ?_
  refine pw_aload_n (pc := 572) hG d_La_572 rfl ?_
  refine pw_iload_n (pc := 573) hG d_La_573 rfl ?_
  refine pw_iconst (pc := 574) hG d_La_574 ?_
  refine pw_iadd (pc := 575) hG d_La_575 ?_
  refine g.2.1 576 _ _ _ d_La_576 (by omega) (by omega) ?_
  refine pw_calli (pc := 577) hG (fun l Δ => ct_Mo_step l Δ hΛ hm h1) hm rfl (by decide) m_1163 k_Mo_step rfl ⟨by decide, by decide⟩ (Nat.le_of_ble_eq_true rfl) d_La_577 rfl (fun r2 S2 h2 => ?_)
  obtain ⟨e, h2⟩ := h2
  rw [e]
  exact pw_same (pc := 580) (tgt := 832) hG d_La_580 (by decide) (K S2 h2)
theorem la_count {i : Int} (g : LwG b L X Λ G) (sp : SP Λ T m ix) (hT : qob Λ 9 T) (hm : qob Λ 10 m) (hj : 0 ≤ i) (hj2 : i + 4 ≤ L) (K : ∀ S : QMem, Nxt Λ T m ix S → G 832 [(0, .ref b), (1, .ref T), (2, .ref m), (3, vI i)] [] S) {S : QMem} (hn : Nxt Λ T m ix S) : G 585 [(0, .ref b), (1, .ref T), (2, .ref m), (3, vI i)] [] S := by
  obtain ⟨t0, t1, l, p, n, o, hi⟩ := hn
  have hG := g.1
  have hΛ := hG.lay
  refine pw_aload_n (pc := 585) hG d_La_585 rfl ?_
  refine pw_aload_n (pc := 586) hG d_La_586 rfl ?_
  refine pw_iload_n (pc := 587) hG d_La_587 rfl ?_
  refine pw_iconst (pc := 588) hG d_La_588 ?_
  refine pw_iadd (pc := 589) hG d_La_589 ?_
  refine g.2.1 590 _ _ _ d_La_590 (by omega) (by omega) ?_
  refine pw_calli (pc := 591) hG (fun l Δ => ct_TD_count l Δ hΛ hT (c_count sp (g.2.2.2.2 _) hi)) hT rfl (by decide) m_679 k_TD_count rfl ⟨by decide, by decide⟩ (Nat.le_of_ble_eq_true rfl) d_La_591 rfl (fun r S1 h1 => ?_)
  refine pw_aload_n (pc := 594) hG d_La_594 rfl ?_
  refine pw_aload_n (pc := 595) hG d_La_595 rfl ?_
  refine pw_iload_n (pc := 596) hG d_La_596 rfl ?_
  refine pw_iconst (pc := 597) hG d_La_597 ?_
  refine pw_iadd (pc := 598) hG d_La_598 ?_
  refine g.2.1 599 _ _ _ d_La_599 (by omega) (by omega) ?_
  refine pw_calli (pc := 600) hG (fun l Δ => ct_Mo_count l Δ hΛ hm h1) hm rfl (by decide) m_1167 k_Mo_count rfl ⟨by decide, by decide⟩ (Nat.le_of_ble_eq_true rfl) d_La_600 rfl (fun r2 S2 h2 => ?_)
  obtain ⟨e, h2⟩ := h2
  rw [e]
  exact pw_same (pc := 603) (tgt := 832) hG d_La_603 (by decide) (K S2 h2)
theorem la_distance {i : Int} (g : LwG b L X Λ G) (sp : SP Λ T m ix) (hT : qob Λ 9 T) (hm : qob Λ 10 m) (hj : 0 ≤ i) (hj2 : i + 4 ≤ L) (K : ∀ S : QMem, Nxt Λ T m ix S → G 832 [(0, .ref b), (1, .ref T), (2, .ref m), (3, vI i)] [] S) {S : QMem} (hn : Nxt Λ T m ix S) : G 608 [(0, .ref b), (1, .ref T), (2, .ref m), (3, vI i)] [] S := by
  obtain ⟨t0, t1, l, p, n, o, hi⟩ := hn
  have hG := g.1
  have hΛ := hG.lay
  refine pw_aload_n (pc := 608) hG d_La_608 rfl ?_
  refine pw_calli (pc := 609) hG (fun l Δ => ct_TD_distance l Δ hΛ hT (c_distance sp hi)) hT rfl (by decide) m_683 k_TD_distance rfl ⟨by decide, by decide⟩ (Nat.le_of_ble_eq_true rfl) d_La_609 rfl (fun r S1 h1 => ?_)
  refine pw_aload_n (pc := 612) hG d_La_612 rfl ?_
  refine pw_calli (pc := 613) hG (fun l Δ => ct_Mo_distance l Δ hΛ hm h1) hm rfl (by decide) m_1171 k_Mo_distance rfl ⟨by decide, by decide⟩ (Nat.le_of_ble_eq_true rfl) d_La_613 rfl (fun r2 S2 h2 => ?_)
  obtain ⟨e, h2⟩ := h2
  rw [e]
  exact pw_same (pc := 616) (tgt := 832) hG d_La_616 (by decide) (K S2 h2)
theorem la_start {i : Int} (g : LwG b L X Λ G) (sp : SP Λ T m ix) (hT : qob Λ 9 T) (hm : qob Λ 10 m) (hj : 0 ≤ i) (hj2 : i + 4 ≤ L) (K : ∀ S : QMem, Nxt Λ T m ix S → G 832 [(0, .ref b), (1, .ref T), (2, .ref m), (3, vI i)] [] S) {S : QMem} (hn : Nxt Λ T m ix S) : G 621 [(0, .ref b), (1, .ref T), (2, .ref m), (3, vI i)] [] S := by
  obtain ⟨t0, t1, l, p, n, o, hi⟩ := hn
  have hG := g.1
  have hΛ := hG.lay
  refine pw_aload_n (pc := 621) hG d_La_621 rfl ?_
  refine pw_calli (pc := 622) hG (fun l Δ => ct_TD_start l Δ hΛ hT (c_start sp hi)) hT rfl (by decide) m_701 k_TD_start rfl ⟨by decide, by decide⟩ (Nat.le_of_ble_eq_true rfl) d_La_622 rfl (fun r S1 h1 => ?_)
  refine pw_aload_n (pc := 625) hG d_La_625 rfl ?_
  refine pw_calli (pc := 626) hG (fun l Δ => ct_Mo_start l Δ hΛ hm h1) hm rfl (by decide) m_1194 k_Mo_start rfl ⟨by decide, by decide⟩ (Nat.le_of_ble_eq_true rfl) d_La_626 rfl (fun r2 S2 h2 => ?_)
  obtain ⟨e, h2⟩ := h2
  rw [e]
  exact pw_same (pc := 629) (tgt := 832) hG d_La_629 (by decide) (K S2 h2)
theorem la_stepOn {i : Int} (g : LwG b L X Λ G) (sp : SP Λ T m ix) (hT : qob Λ 9 T) (hm : qob Λ 10 m) (hj : 0 ≤ i) (hj2 : i + 4 ≤ L) (K : ∀ S : QMem, Nxt Λ T m ix S → G 832 [(0, .ref b), (1, .ref T), (2, .ref m), (3, vI i)] [] S) {S : QMem} (hn : Nxt Λ T m ix S) : G 634 [(0, .ref b), (1, .ref T), (2, .ref m), (3, vI i)] [] S := by
  obtain ⟨t0, t1, l, p, n, o, hi⟩ := hn
  have hG := g.1
  have hΛ := hG.lay
  refine pw_aload_n (pc := 634) hG d_La_634 rfl ?_
  refine pw_calli (pc := 635) hG (fun l Δ => ct_TD_stepOn l Δ hΛ hT (c_stepOn sp hi)) hT rfl (by decide) m_705 k_TD_stepOn rfl ⟨by decide, by decide⟩ (Nat.le_of_ble_eq_true rfl) d_La_635 rfl (fun r S1 h1 => ?_)
  refine pw_aload_n (pc := 638) hG d_La_638 rfl ?_
  refine pw_calli (pc := 639) hG (fun l Δ => ct_Mo_stepOn l Δ hΛ hm h1) hm rfl (by decide) m_1198 k_Mo_stepOn rfl ⟨by decide, by decide⟩ (Nat.le_of_ble_eq_true rfl) d_La_639 rfl (fun r2 S2 h2 => ?_)
  obtain ⟨e, h2⟩ := h2
  rw [e]
  exact pw_same (pc := 642) (tgt := 832) hG d_La_642 (by decide) (K S2 h2)
theorem la_stepBack {i : Int} (g : LwG b L X Λ G) (sp : SP Λ T m ix) (hT : qob Λ 9 T) (hm : qob Λ 10 m) (hj : 0 ≤ i) (hj2 : i + 4 ≤ L) (K : ∀ S : QMem, Nxt Λ T m ix S → G 832 [(0, .ref b), (1, .ref T), (2, .ref m), (3, vI i)] [] S) {S : QMem} (hn : Nxt Λ T m ix S) : G 647 [(0, .ref b), (1, .ref T), (2, .ref m), (3, vI i)] [] S := by
  obtain ⟨t0, t1, l, p, n, o, hi⟩ := hn
  have hG := g.1
  have hΛ := hG.lay
  refine pw_aload_n (pc := 647) hG d_La_647 rfl ?_
  refine pw_calli (pc := 648) hG (fun l Δ => ct_TD_stepBack l Δ hΛ hT (c_stepBack sp hi)) hT rfl (by decide) m_710 k_TD_stepBack rfl ⟨by decide, by decide⟩ (Nat.le_of_ble_eq_true rfl) d_La_648 rfl (fun r S1 h1 => ?_)
  refine pw_aload_n (pc := 651) hG d_La_651 rfl ?_
  refine pw_calli (pc := 652) hG (fun l Δ => ct_Mo_stepBack l Δ hΛ hm h1) hm rfl (by decide) m_1202 k_Mo_stepBack rfl ⟨by decide, by decide⟩ (Nat.le_of_ble_eq_true rfl) d_La_652 rfl (fun r2 S2 h2 => ?_)
  obtain ⟨e, h2⟩ := h2
  rw [e]
  exact pw_same (pc := 655) (tgt := 832) hG d_La_655 (by decide) (K S2 h2)
theorem la_workingChild {i : Int} (g : LwG b L X Λ G) (sp : SP Λ T m ix) (hT : qob Λ 9 T) (hm : qob Λ 10 m) (hj : 0 ≤ i) (hj2 : i + 4 ≤ L) (K : ∀ S : QMem, Nxt Λ T m ix S → G 832 [(0, .ref b), (1, .ref T), (2, .ref m), (3, vI i)] [] S) {S : QMem} (hn : Nxt Λ T m ix S) : G 660 [(0, .ref b), (1, .ref T), (2, .ref m), (3, vI i)] [] S := by
  obtain ⟨t0, t1, l, p, n, o, hi⟩ := hn
  have hG := g.1
  have hΛ := hG.lay
  refine pw_aload_n (pc := 660) hG d_La_660 rfl ?_
  refine pw_aload_n (pc := 661) hG d_La_661 rfl ?_
  refine pw_iload_n (pc := 662) hG d_La_662 rfl ?_
  refine pw_iconst (pc := 663) hG d_La_663 ?_
  refine pw_iadd (pc := 664) hG d_La_664 ?_
  refine g.2.1 665 _ _ _ d_La_665 (by omega) (by omega) ?_
  refine pw_aload_n (pc := 666) hG d_La_666 rfl ?_
  refine pw_iload_n (pc := 667) hG d_La_667 rfl ?_
  refine pw_iconst (pc := 668) hG d_La_668 ?_
  refine pw_iadd (pc := 669) hG d_La_669 ?_
  refine g.2.1 670 _ _ _ d_La_670 (by omega) (by omega) ?_
  refine pw_calli (pc := 671) hG (fun l Δ => ct_TD_workingChild l Δ hΛ hT (c_workingChild sp (g.2.2.2.2 _) (g.2.2.2.2 _) hi)) hT rfl (by decide) m_718 k_TD_workingChild rfl ⟨by decide, by decide⟩ (Nat.le_of_ble_eq_true rfl) d_La_671 rfl (fun r S1 h1 => ?_)
  refine pw_aload_n (pc := 674) hG d_La_674 rfl ?_
  refine pw_aload_n (pc := 675) hG d_La_675 rfl ?_
  refine pw_iload_n (pc := 676) hG d_La_676 rfl ?_
  refine pw_iconst (pc := 677) hG d_La_677 ?_
  refine pw_iadd (pc := 678) hG d_La_678 ?_
  refine g.2.1 679 _ _ _ d_La_679 (by omega) (by omega) ?_
  refine pw_aload_n (pc := 680) hG d_La_680 rfl ?_
  refine pw_iload_n (pc := 681) hG d_La_681 rfl ?_
  refine pw_iconst (pc := 682) hG d_La_682 ?_
  refine pw_iadd (pc := 683) hG d_La_683 ?_
  refine g.2.1 684 _ _ _ d_La_684 (by omega) (by omega) ?_
  refine pw_calli (pc := 685) hG (fun l Δ => ct_Mo_workingChild l Δ hΛ hm h1) hm rfl (by decide) m_1206 k_Mo_workingChild rfl ⟨by decide, by decide⟩ (Nat.le_of_ble_eq_true rfl) d_La_685 rfl (fun r2 S2 h2 => ?_)
  obtain ⟨e, h2⟩ := h2
  rw [e]
  exact pw_same (pc := 688) (tgt := 832) hG d_La_688 (by decide) (K S2 h2)
theorem la_workingNode {i : Int} (g : LwG b L X Λ G) (sp : SP Λ T m ix) (hT : qob Λ 9 T) (hm : qob Λ 10 m) (hj : 0 ≤ i) (hj2 : i + 4 ≤ L) (K : ∀ S : QMem, Nxt Λ T m ix S → G 832 [(0, .ref b), (1, .ref T), (2, .ref m), (3, vI i)] [] S) {S : QMem} (hn : Nxt Λ T m ix S) : G 693 [(0, .ref b), (1, .ref T), (2, .ref m), (3, vI i)] [] S := by
  obtain ⟨t0, t1, l, p, n, o, hi⟩ := hn
  have hG := g.1
  have hΛ := hG.lay
  refine pw_aload_n (pc := 693) hG d_La_693 rfl ?_
  refine pw_aload_n (pc := 694) hG d_La_694 rfl ?_
  refine pw_iload_n (pc := 695) hG d_La_695 rfl ?_
  refine pw_iconst (pc := 696) hG d_La_696 ?_
  refine pw_iadd (pc := 697) hG d_La_697 ?_
  refine g.2.1 698 _ _ _ d_La_698 (by omega) (by omega) ?_
  refine pw_aload_n (pc := 699) hG d_La_699 rfl ?_
  refine pw_iload_n (pc := 700) hG d_La_700 rfl ?_
  refine pw_iconst (pc := 701) hG d_La_701 ?_
  refine pw_iadd (pc := 702) hG d_La_702 ?_
  refine g.2.1 703 _ _ _ d_La_703 (by omega) (by omega) ?_
  refine pw_calli (pc := 704) hG (fun l Δ => ct_TD_workingNode l Δ hΛ hT (c_workingNode sp (g.2.2.2.2 _) (g.2.2.2.2 _) hi)) hT rfl (by decide) m_732 k_TD_workingNode rfl ⟨by decide, by decide⟩ (Nat.le_of_ble_eq_true rfl) d_La_704 rfl (fun r S1 h1 => ?_)
  refine pw_aload_n (pc := 707) hG d_La_707 rfl ?_
  refine pw_aload_n (pc := 708) hG d_La_708 rfl ?_
  refine pw_iload_n (pc := 709) hG d_La_709 rfl ?_
  refine pw_iconst (pc := 710) hG d_La_710 ?_
  refine pw_iadd (pc := 711) hG d_La_711 ?_
  refine g.2.1 712 _ _ _ d_La_712 (by omega) (by omega) ?_
  refine pw_aload_n (pc := 713) hG d_La_713 rfl ?_
  refine pw_iload_n (pc := 714) hG d_La_714 rfl ?_
  refine pw_iconst (pc := 715) hG d_La_715 ?_
  refine pw_iadd (pc := 716) hG d_La_716 ?_
  refine g.2.1 717 _ _ _ d_La_717 (by omega) (by omega) ?_
  refine pw_calli (pc := 718) hG (fun l Δ => ct_Mo_workingNode l Δ hΛ hm h1) hm rfl (by decide) m_1214 k_Mo_workingNode rfl ⟨by decide, by decide⟩ (Nat.le_of_ble_eq_true rfl) d_La_718 rfl (fun r2 S2 h2 => ?_)
  obtain ⟨e, h2⟩ := h2
  rw [e]
  exact pw_same (pc := 721) (tgt := 832) hG d_La_721 (by decide) (K S2 h2)
theorem la_print {i : Int} (g : LwG b L X Λ G) (sp : SP Λ T m ix) (hT : qob Λ 9 T) (hm : qob Λ 10 m) (hj : 0 ≤ i) (hj2 : i + 4 ≤ L) (K : ∀ S : QMem, Nxt Λ T m ix S → G 832 [(0, .ref b), (1, .ref T), (2, .ref m), (3, vI i)] [] S) {S : QMem} (hn : Nxt Λ T m ix S) : G 726 [(0, .ref b), (1, .ref T), (2, .ref m), (3, vI i)] [] S := by
  obtain ⟨t0, t1, l, p, n, o, hi⟩ := hn
  have hG := g.1
  have hΛ := hG.lay
  refine pw_aload_n (pc := 726) hG d_La_726 rfl ?_
  refine pw_aload_n (pc := 727) hG d_La_727 rfl ?_
  refine pw_iload_n (pc := 728) hG d_La_728 rfl ?_
  refine pw_iconst (pc := 729) hG d_La_729 ?_
  refine pw_iadd (pc := 730) hG d_La_730 ?_
  refine g.2.1 731 _ _ _ d_La_731 (by omega) (by omega) ?_
  refine pw_calli (pc := 732) hG (fun l Δ => ct_TD_print l Δ hΛ hT (c_print sp (g.2.2.2.2 _) hi)) hT rfl (by decide) m_736 k_TD_print rfl ⟨by decide, by decide⟩ (Nat.le_of_ble_eq_true rfl) d_La_732 rfl (fun r S1 h1 => ?_)
  refine pw_aload_n (pc := 735) hG d_La_735 rfl ?_
  refine pw_aload_n (pc := 736) hG d_La_736 rfl ?_
  refine pw_iload_n (pc := 737) hG d_La_737 rfl ?_
  refine pw_iconst (pc := 738) hG d_La_738 ?_
  refine pw_iadd (pc := 739) hG d_La_739 ?_
  refine g.2.1 740 _ _ _ d_La_740 (by omega) (by omega) ?_
  refine pw_calli (pc := 741) hG (fun l Δ => ct_Mo_print l Δ hΛ hm h1) hm rfl (by decide) m_1218 k_Mo_print rfl ⟨by decide, by decide⟩ (Nat.le_of_ble_eq_true rfl) d_La_741 rfl (fun r2 S2 h2 => ?_)
  obtain ⟨e, h2⟩ := h2
  rw [e]
  exact pw_same (pc := 744) (tgt := 832) hG d_La_744 (by decide) (K S2 h2)
theorem la_printed {i : Int} (g : LwG b L X Λ G) (sp : SP Λ T m ix) (hT : qob Λ 9 T) (hm : qob Λ 10 m) (hj : 0 ≤ i) (hj2 : i + 4 ≤ L) (K : ∀ S : QMem, Nxt Λ T m ix S → G 832 [(0, .ref b), (1, .ref T), (2, .ref m), (3, vI i)] [] S) {S : QMem} (hn : Nxt Λ T m ix S) : G 749 [(0, .ref b), (1, .ref T), (2, .ref m), (3, vI i)] [] S := by
  obtain ⟨t0, t1, l, p, n, o, hi⟩ := hn
  have hG := g.1
  have hΛ := hG.lay
  refine pw_aload_n (pc := 749) hG d_La_749 rfl ?_
  refine pw_aload_n (pc := 750) hG d_La_750 rfl ?_
  refine pw_iload_n (pc := 751) hG d_La_751 rfl ?_
  refine pw_iconst (pc := 752) hG d_La_752 ?_
  refine pw_iadd (pc := 753) hG d_La_753 ?_
  refine g.2.1 754 _ _ _ d_La_754 (by omega) (by omega) ?_
  refine pw_calli (pc := 755) hG (fun l Δ => ct_TD_printed l Δ hΛ hT (c_printed (g.2.2.2.2 _) hi)) hT rfl (by decide) m_758 k_TD_printed rfl ⟨by decide, by decide⟩ (Nat.le_of_ble_eq_true rfl) d_La_755 rfl (fun r S1 h1 => ?_)
  refine pw_aload_n (pc := 758) hG d_La_758 rfl ?_
  refine pw_aload_n (pc := 759) hG d_La_759 rfl ?_
  refine pw_iload_n (pc := 760) hG d_La_760 rfl ?_
  refine pw_iconst (pc := 761) hG d_La_761 ?_
  refine pw_iadd (pc := 762) hG d_La_762 ?_
  refine g.2.1 763 _ _ _ d_La_763 (by omega) (by omega) ?_
  refine pw_calli (pc := 764) hG (fun l Δ => ct_Mo_printed l Δ hΛ hm h1) hm rfl (by decide) m_1234 k_Mo_printed rfl ⟨by decide, by decide⟩ (Nat.le_of_ble_eq_true rfl) d_La_764 rfl (fun r2 S2 h2 => ?_)
  obtain ⟨e, h2⟩ := h2
  rw [e]
  exact pw_same (pc := 767) (tgt := 832) hG d_La_767 (by decide) (K S2 h2)
theorem la_save {i : Int} (g : LwG b L X Λ G) (sp : SP Λ T m ix) (hT : qob Λ 9 T) (hm : qob Λ 10 m) (hj : 0 ≤ i) (hj2 : i + 4 ≤ L) (K : ∀ S : QMem, Nxt Λ T m ix S → G 832 [(0, .ref b), (1, .ref T), (2, .ref m), (3, vI i)] [] S) {S : QMem} (hn : Nxt Λ T m ix S) : G 772 [(0, .ref b), (1, .ref T), (2, .ref m), (3, vI i)] [] S := by
  obtain ⟨t0, t1, l, p, n, o, hi⟩ := hn
  have hG := g.1
  have hΛ := hG.lay
  refine pw_aload_n (pc := 772) hG d_La_772 rfl ?_
  refine pw_aload_n (pc := 773) hG d_La_773 rfl ?_
  refine pw_iload_n (pc := 774) hG d_La_774 rfl ?_
  refine pw_iconst (pc := 775) hG d_La_775 ?_
  refine pw_iadd (pc := 776) hG d_La_776 ?_
  refine g.2.1 777 _ _ _ d_La_777 (by omega) (by omega) ?_
  refine pw_calli (pc := 778) hG (fun l Δ => ct_TD_save l Δ hΛ hT (c_save sp (g.2.2.2.2 _) hi)) hT rfl (by decide) m_762 k_TD_save rfl ⟨by decide, by decide⟩ (Nat.le_of_ble_eq_true rfl) d_La_778 rfl (fun r S1 h1 => ?_)
  refine pw_aload_n (pc := 781) hG d_La_781 rfl ?_
  refine pw_aload_n (pc := 782) hG d_La_782 rfl ?_
  refine pw_iload_n (pc := 783) hG d_La_783 rfl ?_
  refine pw_iconst (pc := 784) hG d_La_784 ?_
  refine pw_iadd (pc := 785) hG d_La_785 ?_
  refine g.2.1 786 _ _ _ d_La_786 (by omega) (by omega) ?_
  refine pw_calli (pc := 787) hG (fun l Δ => ct_Mo_save l Δ hΛ hm h1) hm rfl (by decide) m_1238 k_Mo_save rfl ⟨by decide, by decide⟩ (Nat.le_of_ble_eq_true rfl) d_La_787 rfl (fun r2 S2 h2 => ?_)
  obtain ⟨e, h2⟩ := h2
  rw [e]
  exact pw_same (pc := 790) (tgt := 832) hG d_La_790 (by decide) (K S2 h2)
theorem la_restore {i : Int} (g : LwG b L X Λ G) (sp : SP Λ T m ix) (hT : qob Λ 9 T) (hm : qob Λ 10 m) (hj : 0 ≤ i) (hj2 : i + 4 ≤ L) (K : ∀ S : QMem, Nxt Λ T m ix S → G 832 [(0, .ref b), (1, .ref T), (2, .ref m), (3, vI i)] [] S) {S : QMem} (hn : Nxt Λ T m ix S) : G 795 [(0, .ref b), (1, .ref T), (2, .ref m), (3, vI i)] [] S := by
  obtain ⟨t0, t1, l, p, n, o, hi⟩ := hn
  have hG := g.1
  have hΛ := hG.lay
  refine pw_aload_n (pc := 795) hG d_La_795 rfl ?_
  refine pw_aload_n (pc := 796) hG d_La_796 rfl ?_
  refine pw_iload_n (pc := 797) hG d_La_797 rfl ?_
  refine pw_iconst (pc := 798) hG d_La_798 ?_
  refine pw_iadd (pc := 799) hG d_La_799 ?_
  refine g.2.1 800 _ _ _ d_La_800 (by omega) (by omega) ?_
  refine pw_calli (pc := 801) hG (fun l Δ => ct_TD_restore l Δ hΛ hT (c_restore sp (g.2.2.2.2 _) hi)) hT rfl (by decide) m_774 k_TD_restore rfl ⟨by decide, by decide⟩ (Nat.le_of_ble_eq_true rfl) d_La_801 rfl (fun r S1 h1 => ?_)
  refine pw_aload_n (pc := 804) hG d_La_804 rfl ?_
  refine pw_aload_n (pc := 805) hG d_La_805 rfl ?_
  refine pw_iload_n (pc := 806) hG d_La_806 rfl ?_
  refine pw_iconst (pc := 807) hG d_La_807 ?_
  refine pw_iadd (pc := 808) hG d_La_808 ?_
  refine g.2.1 809 _ _ _ d_La_809 (by omega) (by omega) ?_
  refine pw_calli (pc := 810) hG (fun l Δ => ct_Mo_restore l Δ hΛ hm h1) hm rfl (by decide) m_1242 k_Mo_restore rfl ⟨by decide, by decide⟩ (Nat.le_of_ble_eq_true rfl) d_La_810 rfl (fun r2 S2 h2 => ?_)
  obtain ⟨e, h2⟩ := h2
  rw [e]
  exact pw_same (pc := 813) (tgt := 832) hG d_La_813 (by decide) (K S2 h2)
theorem la_checksum {i : Int} (g : LwG b L X Λ G) (sp : SP Λ T m ix) (hT : qob Λ 9 T) (hm : qob Λ 10 m) (hj : 0 ≤ i) (hj2 : i + 4 ≤ L) (K : ∀ S : QMem, Nxt Λ T m ix S → G 832 [(0, .ref b), (1, .ref T), (2, .ref m), (3, vI i)] [] S) {S : QMem} (hn : Nxt Λ T m ix S) : G 818 [(0, .ref b), (1, .ref T), (2, .ref m), (3, vI i)] [] S := by
  obtain ⟨t0, t1, l, p, n, o, hi⟩ := hn
  have hG := g.1
  have hΛ := hG.lay
  refine pw_aload_n (pc := 818) hG d_La_818 rfl ?_
  refine pw_callj (pc := 819) hG (fun l Δ => ct_TD_checksum l Δ hΛ hT (c_checksum sp hi)) hT rfl (by decide) m_778 k_TD_checksum rfl ⟨by decide, by decide⟩ (Nat.le_of_ble_eq_true rfl) d_La_819 rfl (fun r S1 h1 => ?_)
  refine pw_aload_n (pc := 822) hG d_La_822 rfl ?_
  refine pw_callj (pc := 823) hG (fun l Δ => ct_Mo_checksum l Δ hΛ hm h1) hm rfl (by decide) m_1246 k_Mo_checksum rfl ⟨by decide, by decide⟩ (Nat.le_of_ble_eq_true rfl) d_La_823 rfl (fun r2 S2 h2 => ?_)
  obtain ⟨e, h2⟩ := h2
  rw [e]
  refine pw_lsame (pc := 826) hG d_La_826 ?_
  exact pw_if_eq (pc := 827) (tgt := 832) hG d_La_827 (by decide) q_R0 (fun _ => K S2 h2) (fun z => absurd rfl z)
/-- the switch: whatever the word is, the calls answer alike -/
theorem la_switch {i : Int} (g : LwG b L X Λ G) (sp : SP Λ T m ix) (hT : qob Λ 9 T) (hm : qob Λ 10 m) (hj : 0 ≤ i) (hj2 : i + 4 ≤ L) (K : ∀ S : QMem, Nxt Λ T m ix S → G 832 [(0, .ref b), (1, .ref T), (2, .ref m), (3, vI i)] [] S) {S : QMem} {y : Int} (h0 : 0 ≤ y) (h32 : y < 32) (hn : Nxt Λ T m ix S) : G 32 [(0, .ref b), (1, .ref T), (2, .ref m), (3, vI i)] [vI y] S := by
  have hG := g.1
  have hr : inR y := ⟨by omega, by omega⟩
  by_cases e0 : y = 0
  · rw [e0] at hr ⊢
    exact pw_table (pc := 32) (tgt := 164) hG d_La_32 hr (by decide) (by decide) rfl (by decide) (la_append g sp hT hm hj hj2 K hn)
  have h1 : (1 : Int) ≤ y := la_up h0 e0 rfl
  by_cases e1 : y = 1
  · rw [e1] at hr ⊢
    exact pw_table (pc := 32) (tgt := 187) hG d_La_32 hr (by decide) (by decide) rfl (by decide) (la_clearText g sp hT hm hj hj2 K hn)
  have h2 : (2 : Int) ≤ y := la_up h1 e1 rfl
  by_cases e2 : y = 2
  · rw [e2] at hr ⊢
    exact pw_table (pc := 32) (tgt := 200) hG d_La_32 hr (by decide) (by decide) rfl (by decide) (la_faultPosition g sp hT hm hj hj2 K hn)
  have h3 : (3 : Int) ≤ y := la_up h2 e2 rfl
  by_cases e3 : y = 3
  · rw [e3] at hr ⊢
    exact pw_table (pc := 32) (tgt := 213) hG d_La_32 hr (by decide) (by decide) rfl (by decide) (la_faultDepth g sp hT hm hj hj2 K hn)
  have h4 : (4 : Int) ≤ y := la_up h3 e3 rfl
  by_cases e4 : y = 4
  · rw [e4] at hr ⊢
    exact pw_table (pc := 32) (tgt := 226) hG d_La_32 hr (by decide) (by decide) rfl (by decide) (la_read g sp hT hm hj hj2 K hn)
  have h5 : (5 : Int) ≤ y := la_up h4 e4 rfl
  by_cases e5 : y = 5
  · rw [e5] at hr ⊢
    exact pw_table (pc := 32) (tgt := 249) hG d_La_32 hr (by decide) (by decide) rfl (by decide) (la_exchange g sp hT hm hj hj2 K hn)
  have h6 : (6 : Int) ≤ y := la_up h5 e5 rfl
  by_cases e6 : y = 6
  · rw [e6] at hr ⊢
    exact pw_table (pc := 32) (tgt := 262) hG d_La_32 hr (by decide) (by decide) rfl (by decide) (la_nodes g sp hT hm hj hj2 K hn)
  have h7 : (7 : Int) ≤ y := la_up h6 e6 rfl
  by_cases e7 : y = 7
  · rw [e7] at hr ⊢
    exact pw_table (pc := 32) (tgt := 285) hG d_La_32 hr (by decide) (by decide) rfl (by decide) (la_node g sp hT hm hj hj2 K hn)
  have h8 : (8 : Int) ≤ y := la_up h7 e7 rfl
  by_cases e8 : y = 8
  · rw [e8] at hr ⊢
    exact pw_table (pc := 32) (tgt := 328) hG d_La_32 hr (by decide) (by decide) rfl (by decide) (la_child g sp hT hm hj hj2 K hn)
  have h9 : (9 : Int) ≤ y := la_up h8 e8 rfl
  by_cases e9 : y = 9
  · rw [e9] at hr ⊢
    exact pw_table (pc := 32) (tgt := 371) hG d_La_32 hr (by decide) (by decide) rfl (by decide) (la_equal g sp hT hm hj hj2 K hn)
  have h10 : (10 : Int) ≤ y := la_up h9 e9 rfl
  by_cases e10 : y = 10
  · rw [e10] at hr ⊢
    exact pw_table (pc := 32) (tgt := 404) hG d_La_32 hr (by decide) (by decide) rfl (by decide) (la_setMatching g sp hT hm hj hj2 K hn)
  have h11 : (11 : Int) ≤ y := la_up h10 e10 rfl
  by_cases e11 : y = 11
  · rw [e11] at hr ⊢
    exact pw_table (pc := 32) (tgt := 437) hG d_La_32 hr (by decide) (by decide) rfl (by decide) (la_pairs g sp hT hm hj hj2 K hn)
  have h12 : (12 : Int) ≤ y := la_up h11 e11 rfl
  by_cases e12 : y = 12
  · rw [e12] at hr ⊢
    exact pw_table (pc := 32) (tgt := 450) hG d_La_32 hr (by decide) (by decide) rfl (by decide) (la_partner g sp hT hm hj hj2 K hn)
  have h13 : (13 : Int) ≤ y := la_up h12 e12 rfl
  by_cases e13 : y = 13
  · rw [e13] at hr ⊢
    exact pw_table (pc := 32) (tgt := 483) hG d_La_32 hr (by decide) (by decide) rfl (by decide) (la_phase g sp hT hm hj hj2 K hn)
  have h14 : (14 : Int) ≤ y := la_up h13 e13 rfl
  by_cases e14 : y = 14
  · rw [e14] at hr ⊢
    exact pw_table (pc := 32) (tgt := 506) hG d_La_32 hr (by decide) (by decide) rfl (by decide) (la_likeness g sp hT hm hj hj2 K hn)
  have h15 : (15 : Int) ≤ y := la_up h14 e14 rfl
  by_cases e15 : y = 15
  · rw [e15] at hr ⊢
    exact pw_table (pc := 32) (tgt := 539) hG d_La_32 hr (by decide) (by decide) rfl (by decide) (la_steps g sp hT hm hj hj2 K hn)
  have h16 : (16 : Int) ≤ y := la_up h15 e15 rfl
  by_cases e16 : y = 16
  · rw [e16] at hr ⊢
    exact pw_table (pc := 32) (tgt := 552) hG d_La_32 hr (by decide) (by decide) rfl (by decide) (la_step g sp hT hm hj hj2 K hn)
  have h17 : (17 : Int) ≤ y := la_up h16 e16 rfl
  by_cases e17 : y = 17
  · rw [e17] at hr ⊢
    exact pw_table (pc := 32) (tgt := 585) hG d_La_32 hr (by decide) (by decide) rfl (by decide) (la_count g sp hT hm hj hj2 K hn)
  have h18 : (18 : Int) ≤ y := la_up h17 e17 rfl
  by_cases e18 : y = 18
  · rw [e18] at hr ⊢
    exact pw_table (pc := 32) (tgt := 608) hG d_La_32 hr (by decide) (by decide) rfl (by decide) (la_distance g sp hT hm hj hj2 K hn)
  have h19 : (19 : Int) ≤ y := la_up h18 e18 rfl
  by_cases e19 : y = 19
  · rw [e19] at hr ⊢
    exact pw_table (pc := 32) (tgt := 621) hG d_La_32 hr (by decide) (by decide) rfl (by decide) (la_start g sp hT hm hj hj2 K hn)
  have h20 : (20 : Int) ≤ y := la_up h19 e19 rfl
  by_cases e20 : y = 20
  · rw [e20] at hr ⊢
    exact pw_table (pc := 32) (tgt := 634) hG d_La_32 hr (by decide) (by decide) rfl (by decide) (la_stepOn g sp hT hm hj hj2 K hn)
  have h21 : (21 : Int) ≤ y := la_up h20 e20 rfl
  by_cases e21 : y = 21
  · rw [e21] at hr ⊢
    exact pw_table (pc := 32) (tgt := 647) hG d_La_32 hr (by decide) (by decide) rfl (by decide) (la_stepBack g sp hT hm hj hj2 K hn)
  have h22 : (22 : Int) ≤ y := la_up h21 e21 rfl
  by_cases e22 : y = 22
  · rw [e22] at hr ⊢
    exact pw_table (pc := 32) (tgt := 660) hG d_La_32 hr (by decide) (by decide) rfl (by decide) (la_workingChild g sp hT hm hj hj2 K hn)
  have h23 : (23 : Int) ≤ y := la_up h22 e22 rfl
  by_cases e23 : y = 23
  · rw [e23] at hr ⊢
    exact pw_table (pc := 32) (tgt := 693) hG d_La_32 hr (by decide) (by decide) rfl (by decide) (la_workingNode g sp hT hm hj hj2 K hn)
  have h24 : (24 : Int) ≤ y := la_up h23 e23 rfl
  by_cases e24 : y = 24
  · rw [e24] at hr ⊢
    exact pw_table (pc := 32) (tgt := 726) hG d_La_32 hr (by decide) (by decide) rfl (by decide) (la_print g sp hT hm hj hj2 K hn)
  have h25 : (25 : Int) ≤ y := la_up h24 e24 rfl
  by_cases e25 : y = 25
  · rw [e25] at hr ⊢
    exact pw_table (pc := 32) (tgt := 749) hG d_La_32 hr (by decide) (by decide) rfl (by decide) (la_printed g sp hT hm hj hj2 K hn)
  have h26 : (26 : Int) ≤ y := la_up h25 e25 rfl
  by_cases e26 : y = 26
  · rw [e26] at hr ⊢
    exact pw_table (pc := 32) (tgt := 772) hG d_La_32 hr (by decide) (by decide) rfl (by decide) (la_save g sp hT hm hj hj2 K hn)
  have h27 : (27 : Int) ≤ y := la_up h26 e26 rfl
  by_cases e27 : y = 27
  · rw [e27] at hr ⊢
    exact pw_table (pc := 32) (tgt := 795) hG d_La_32 hr (by decide) (by decide) rfl (by decide) (la_restore g sp hT hm hj hj2 K hn)
  have h28 : (28 : Int) ≤ y := la_up h27 e27 rfl
  by_cases e28 : y = 28
  · rw [e28] at hr ⊢
    exact pw_table (pc := 32) (tgt := 818) hG d_La_32 hr (by decide) (by decide) rfl (by decide) (la_checksum g sp hT hm hj hj2 K hn)
  have h29 : (29 : Int) ≤ y := la_up h28 e28 rfl
  exact pw_tableD (pc := 32) (tgt := 832) hG d_La_32 hr (Or.inr (Int.lt_of_lt_of_le (by decide) h29)) (by decide) (K S hn)
end LAWC
