/-! constructors: facts of an object's layout -/
def nF (k h0 : Nat) (Λ : QLay) (S : QMem) : Prop := LyR Λ Λ ∧ okQ Λ Λ S ∧ qob Λ k h0
theorem tA_big {k f : Nat} (h : 50 ≤ f) : (tA k f).1 = 0 := by
  obtain ⟨j, rfl⟩ : ∃ j, f = j + 50 := ⟨f - 50, by omega⟩
  match k with
  | 0 => rfl | 1 => rfl | 2 => rfl | 3 => rfl | 4 => rfl | 5 => rfl | 6 => rfl | 7 => rfl | 8 => rfl | 9 => rfl | 10 => rfl
  | _ + 11 => rfl
theorem k2_of {k : Nat} {as : QAs} (L : List (Nat × Nat × Nat)) (h : as.map (fun t => (t.1, t.2.2.1, t.2.2.2)) = L) (hc : L.all (fun q => decide (11 ≤ q.2.1) && decide (q.2.1 ≤ 15) && (tI k q.1 == false)) = true) : ∀ t ∈ as, 11 ≤ t.2.2.1 ∧ t.2.2.1 ≤ 15 ∧ tI k t.1 = false := fun t ht => by
  have hm : (t.1, t.2.2.1, t.2.2.2) ∈ L := by rw [← h]; exact List.mem_map.mpr ⟨t, ht, rfl⟩
  have h1 := List.all_eq_true.mp hc _ hm
  simp only [Bool.and_eq_true, decide_eq_true_eq, beq_iff_eq] at h1
  exact ⟨h1.1.1, h1.1.2, h1.2⟩
theorem c1_of {k : Nat} {as : QAs} (L : List (Nat × Nat × Nat)) (h : as.map (fun t => (t.1, t.2.2.1, t.2.2.2)) = L) (hc : (List.range 50).all (fun f => (tA k f).1 == 0 || (L.contains (f, (tA k f).1, (tA k f).2.toNat) && ((((tA k f).2.toNat : Nat) : Int) == (tA k f).2) && decide ((tA k f).2.toNat ≤ 65536))) = true) : ∀ f, (tA k f).1 ≠ 0 → ∃ a n : Nat, (f, a, (tA k f).1, n) ∈ as ∧ (n : Int) = (tA k f).2 ∧ n ≤ 65536 := fun f hf => by
  rcases Nat.lt_or_ge f 50 with z | z
  · have h1 := List.all_eq_true.mp hc f (List.mem_range.mpr z)
    simp only [Bool.or_eq_true, Bool.and_eq_true, beq_iff_eq, decide_eq_true_eq, List.contains_iff_mem] at h1
    rcases h1 with h1 | ⟨⟨h1, h2⟩, h3⟩
    · exact absurd h1 hf
    · rw [← h] at h1
      obtain ⟨t, ht, e⟩ := List.mem_map.mp h1
      obtain ⟨tf, ta, tk, tm⟩ := t
      simp only [Prod.mk.injEq] at e
      obtain ⟨e1, e2, e3⟩ := e
      subst e1
      exact ⟨ta, tm, by rw [← e2]; exact ht, by rw [e3]; exact h2, by rw [e3]; exact h3⟩
  · exact absurd (tA_big z) hf
theorem c2_no {k : Nat} {as : QAs} (hc : (List.range 50).all (fun f => !((tA k f).1 == 15)) = true) : ∀ (f : Nat) (i : Int), (tA k f).1 = 15 → 0 ≤ i → i < (tA k f).2 → ∃ a n : Nat, (rw_ f i, a, 11, n) ∈ as ∧ (n : Int) = (tA k f).2 ∧ n ≤ 65536 := fun f i hf => by
  rcases Nat.lt_or_ge f 50 with z | z
  · have h1 := List.all_eq_true.mp hc f (List.mem_range.mpr z)
    rw [hf] at h1
    exact absurd h1 (by decide)
  · rw [tA_big z] at hf
    exact absurd hf (by decide)
theorem lyA_ob {k h0 : Nat} {as : QAs} {rf : Nat → Int → Nat} (L : List (Nat × Nat × Nat)) (h : as.map (fun t => (t.1, t.2.2.1, t.2.2.2)) = L) (hk : k < 11) (hf : (L.map (fun q => q.1)).Nodup) (hk2 : ∀ t ∈ as, 11 ≤ t.2.2.1 ∧ t.2.2.1 ≤ 15 ∧ tI k t.1 = false) (hc1 : ∀ f, (tA k f).1 ≠ 0 → ∃ a n : Nat, (f, a, (tA k f).1, n) ∈ as ∧ (n : Int) = (tA k f).2 ∧ n ≤ 65536) (hc2 : ∀ (f : Nat) (i : Int), (tA k f).1 = 15 → 0 ≤ i → i < (tA k f).2 → ∃ a n : Nat, (rw_ f i, a, 11, n) ∈ as ∧ (n : Int) = (tA k f).2 ∧ n ≤ 65536) (hn : (h0 :: as.map (fun t => t.2.1)).Nodup) : LyA (obL k h0 as rf) :=
  ob_LyA hn (by rw [show as.map (fun t => t.1) = L.map (fun q => q.1) by rw [← h, List.map_map]; rfl]; exact hf) hk hk2 hc1 hc2
theorem nF_ob {k h0 : Nat} {as : QAs} {rf : Nat → Int → Nat} {Λ : QLay} {S0 S : QMem} (hn : (h0 :: as.map (fun t => t.2.1)).Nodup) (hd : Dj (obL k h0 as rf) Λ) (hk2 : ∀ t ∈ as, 11 ≤ t.2.2.1 ∧ t.2.2.1 ≤ 15 ∧ tI k t.1 = false) (hR : LyR Λ Λ) (hO : okQ Λ Λ S) (hr : ∀ (f : Nat) (i : Int), (tR k f).1 ≠ 0 → 0 ≤ i → i < (tR k f).2 → qob Λ ((tR k f).1 - 1) (rf f i)) (h4 : k = 4 → qob Λ 7 (S0.2 h0 0) ∧ qob Λ 7 (S0.2 h0 1)) : nF k h0 (lyM (obL k h0 as rf) Λ) (meM (obL k h0 as rf) S0 S) :=
  ⟨LyR_M (ob_LyR hn hk2 (fun f i a b c => qob_2 hd (hr f i a b c))) (hR.up (fun _ _ => qob_2 hd)), okQ_M (ob_okQ hn hk2 (fun e => ⟨qob_2 hd (h4 e).1, qob_2 hd (h4 e).2⟩)) (hO.up (fun _ _ => qob_2 hd)), qob_1 ob_qob⟩
theorem ob_S {k h0 : Nat} {as : QAs} {rf : Nat → Int → Nat} {S0 S : QMem} {f : Nat} {i : Int} : (meM (obL k h0 as rf) S0 S).1 h0 f i = S0.1 h0 f i := if_pos List.mem_cons_self
theorem ob_S2 {k h0 : Nat} {as : QAs} {rf : Nat → Int → Nat} {S0 S : QMem} {f : Nat} : (meM (obL k h0 as rf) S0 S).2 h0 f = S0.2 h0 f := if_pos List.mem_cons_self
theorem ob_R {k h0 : Nat} {as : QAs} {rf : Nat → Int → Nat} {Λ : QLay} {f : Nat} {i : Int} : yR (lyM (obL k h0 as rf) Λ) h0 f i = rf f i := if_pos List.mem_cons_self
def t00 : TT := (1, fun _ => 0, fun _ => 0, fun _ => -1)
theorem wf00 : wfT t00 := ⟨⟨⟨by decide, by decide⟩, rfl, fun k a b => by have : k < 1 := b; omega, fun j k a b => by have : k < 1 := b; omega⟩, fun k a b => ⟨⟨Int.le_refl 0, (by decide : (0 : Int) ≤ 7)⟩, Int.le_refl 0, (by decide : (0 : Int) ≤ 99)⟩⟩
theorem rw5 : ∀ j, j < 9 → defaultValue (qt5 j) = vp_V [vI 0, vI 0, vI 0, vI 0, vI 0, vI 0, vI 0, vI 0, vI 0] j
  | 0, _ => rfl
  | 1, _ => rfl
  | 2, _ => rfl
  | 3, _ => rfl
  | 4, _ => rfl
  | 5, _ => rfl
  | 6, _ => rfl
  | 7, _ => rfl
  | 8, _ => rfl
  | n + 9, h => absurd h (by omega)
theorem rw8 : ∀ j, j < 4 → defaultValue (qt8 j) = vp_V [.null, .null, .null, .null] j
  | 0, _ => rfl
  | 1, _ => rfl
  | 2, _ => rfl
  | 3, _ => rfl
  | n + 4, h => absurd h (by omega)
theorem rw2 : ∀ j, j < 2 → defaultValue (qt2 j) = vp_V [.null, vI 0] j
  | 0, _ => rfl
  | 1, _ => rfl
  | n + 2, h => absurd h (by omega)
theorem rw1 : ∀ j, j < 4 → defaultValue (qt1 j) = vp_V [vI 0, .null, .null, .null] j
  | 0, _ => rfl
  | 1, _ => rfl
  | 2, _ => rfl
  | 3, _ => rfl
  | n + 4, h => absurd h (by omega)
theorem rw7 : ∀ j, j < 10 → defaultValue (qt7 j) = vp_V [vI 0, .null, .null, .null, .null, .null, .null, .null, .null, .null] j
  | 0, _ => rfl
  | 1, _ => rfl
  | 2, _ => rfl
  | 3, _ => rfl
  | 4, _ => rfl
  | 5, _ => rfl
  | 6, _ => rfl
  | 7, _ => rfl
  | 8, _ => rfl
  | 9, _ => rfl
  | n + 10, h => absurd h (by omega)
theorem rw0 : ∀ j, j < 2 → defaultValue (qt0 j) = vp_V [.null, .null] j
  | 0, _ => rfl
  | 1, _ => rfl
  | n + 2, h => absurd h (by omega)
theorem rw4 : ∀ j, j < 4 → defaultValue (qt4 j) = vp_V [.null, .null, vI 0, vI 0] j
  | 0, _ => rfl
  | 1, _ => rfl
  | 2, _ => rfl
  | 3, _ => rfl
  | n + 4, h => absurd h (by omega)
theorem rw6 : ∀ j, j < 6 → defaultValue (qt6 j) = vp_V [.null, vI 0, .null, vI 0, vI 0, vI 0] j
  | 0, _ => rfl
  | 1, _ => rfl
  | 2, _ => rfl
  | 3, _ => rfl
  | 4, _ => rfl
  | 5, _ => rfl
  | n + 6, h => absurd h (by omega)
theorem rw3 : ∀ j, j < 7 → defaultValue (qt3 j) = vp_V [.null, vI 0, .null, .null, .null, .null, .null] j
  | 0, _ => rfl
  | 1, _ => rfl
  | 2, _ => rfl
  | 3, _ => rfl
  | 4, _ => rfl
  | 5, _ => rfl
  | 6, _ => rfl
  | n + 7, h => absurd h (by omega)
set_option maxRecDepth 100000 in
set_option maxHeartbeats 4000000 in
theorem n_Sp : QNt y_Sp_init c_Sp_init 1 1 12 0 0 5 [vI 0, vI 0, vI 0, vI 0, vI 0, vI 0, vI 0, vI 0, vI 0] (nF 5) := by
  refine QNt.mk (own := "TreeDiffer$Step") (by decide) rfl rfl (by decide) (fun Δ h0 G hG ret => ?_)
  refine np_aload_n (pc := 0) hG d_Sp_init_0 rfl ?_
  refine np_objInit (pc := 1) hG m_221 (by decide) (by decide) d_Sp_init_1 ?_
  refine np_obj (k := 5) (h0 := h0) (as := []) (rf := fun _ _ => 0) (S0 := meE) hG (k2_of [] rfl (by decide)) rfl (lyA_ob [] rfl (by decide) (by decide) (k2_of [] rfl (by decide)) (c1_of [] rfl (by decide)) (c2_no (by decide))) LyA_E (fun hn hd hL => ?_)
  have hF := nF_ob (S0 := meE) hn hd (k2_of [] rfl (by decide)) LyR_E (okQ_E (S := meE)) (fun f i h => absurd rfl h) (fun h => absurd h (by decide))
  exact ret 4 _ _ _ _ _ d_Sp_init_4 hF (LyA_M hd hL LyA_E) (Nat.le_of_ble_eq_true rfl) (Nat.le_of_ble_eq_true rfl)
set_option maxRecDepth 100000 in
set_option maxHeartbeats 4000000 in
theorem n_Wt : QNt y_Wt_init c_Wt_init 1 1 12 4 196 8 [.null, .null, .null, .null] (nF 8) := by
  refine QNt.mk (own := "TreeDiffer$WorkTree") (by decide) rfl rfl (by decide) (fun Δ h0 G hG ret => ?_)
  refine np_aload_n (pc := 0) hG d_Wt_init_0 rfl ?_
  refine np_objInit (pc := 1) hG m_193 (by decide) (by decide) d_Wt_init_1 ?_
  refine np_aload_n (pc := 4) hG d_Wt_init_4 rfl ?_
  refine np_bipush (pc := 5) hG d_Wt_init_5 (by decide) ?_
  refine np_newI (pc := 7) (N := 49) hG rfl (by decide) (Nat.le_of_ble_eq_true rfl) (Nat.le_of_ble_eq_true rfl) d_Wt_init_7 (fun a1 => ?_)
  refine np_put (pc := 9) (k := 8) (ty := qt8 0) hG rfl qi8 qt8 qto8 qn8 0 (by decide) rfl m_194 (qto8 0 (by decide)) rfl rfl (Nat.le_of_ble_eq_true rfl) d_Wt_init_9 ?_
  refine np_aload_n (pc := 12) hG d_Wt_init_12 rfl ?_
  refine np_bipush (pc := 13) hG d_Wt_init_13 (by decide) ?_
  refine np_newI (pc := 15) (N := 49) hG rfl (by decide) (Nat.le_of_ble_eq_true rfl) (Nat.le_of_ble_eq_true rfl) d_Wt_init_15 (fun a2 => ?_)
  refine np_put (pc := 17) (k := 8) (ty := qt8 1) hG rfl qi8 qt8 qto8 qn8 1 (by decide) rfl m_197 (qto8 1 (by decide)) rfl rfl (Nat.le_of_ble_eq_true rfl) d_Wt_init_17 ?_
  refine np_aload_n (pc := 20) hG d_Wt_init_20 rfl ?_
  refine np_bipush (pc := 21) hG d_Wt_init_21 (by decide) ?_
  refine np_newI (pc := 23) (N := 49) hG rfl (by decide) (Nat.le_of_ble_eq_true rfl) (Nat.le_of_ble_eq_true rfl) d_Wt_init_23 (fun a3 => ?_)
  refine np_put (pc := 25) (k := 8) (ty := qt8 2) hG rfl qi8 qt8 qto8 qn8 2 (by decide) rfl m_201 (qto8 2 (by decide)) rfl rfl (Nat.le_of_ble_eq_true rfl) d_Wt_init_25 ?_
  refine np_aload_n (pc := 28) hG d_Wt_init_28 rfl ?_
  refine np_bipush (pc := 29) hG d_Wt_init_29 (by decide) ?_
  refine np_newI (pc := 31) (N := 49) hG rfl (by decide) (Nat.le_of_ble_eq_true rfl) (Nat.le_of_ble_eq_true rfl) d_Wt_init_31 (fun a4 => ?_)
  refine np_put (pc := 33) (k := 8) (ty := qt8 3) hG rfl qi8 qt8 qto8 qn8 3 (by decide) rfl m_205 (qto8 3 (by decide)) rfl rfl (Nat.le_of_ble_eq_true rfl) d_Wt_init_33 ?_
  refine np_obj (k := 8) (h0 := h0) (as := [(0, a1, 11, 49), (1, a2, 11, 49), (2, a3, 11, 49), (3, a4, 11, 49)]) (rf := fun _ _ => 0) (S0 := meE) hG (k2_of [(0, 11, 49), (1, 11, 49), (2, 11, 49), (3, 11, 49)] rfl (by decide)) rfl (lyA_ob [(0, 11, 49), (1, 11, 49), (2, 11, 49), (3, 11, 49)] rfl (by decide) (by decide) (k2_of [(0, 11, 49), (1, 11, 49), (2, 11, 49), (3, 11, 49)] rfl (by decide)) (c1_of [(0, 11, 49), (1, 11, 49), (2, 11, 49), (3, 11, 49)] rfl (by decide)) (c2_no (by decide))) LyA_E (fun hn hd hL => ?_)
  have hF := nF_ob (S0 := meE) hn hd (k2_of [(0, 11, 49), (1, 11, 49), (2, 11, 49), (3, 11, 49)] rfl (by decide)) LyR_E (okQ_E (S := meE)) (fun f i h => absurd rfl h) (fun h => absurd h (by decide))
  exact ret 36 _ _ _ _ _ d_Wt_init_36 hF (LyA_M hd hL LyA_E) (Nat.le_of_ble_eq_true rfl) (Nat.le_of_ble_eq_true rfl)
set_option maxRecDepth 100000 in
set_option maxHeartbeats 4000000 in
theorem n_Ou : QNt y_Ou_init c_Ou_init 1 1 12 1 288 2 [.null, vI 0] (fun h0 Λ S => nF 2 h0 Λ S ∧ S.1 h0 1 0 = 0) := by
  refine QNt.mk (own := "TreeDiffer$Output") (by decide) rfl rfl (by decide) (fun Δ h0 G hG ret => ?_)
  refine np_aload_n (pc := 0) hG d_Ou_init_0 rfl ?_
  refine np_objInit (pc := 1) hG m_312 (by decide) (by decide) d_Ou_init_1 ?_
  refine np_aload_n (pc := 4) hG d_Ou_init_4 rfl ?_
  refine np_sipush (pc := 5) hG d_Ou_init_5 (by decide) ?_
  refine np_newI (pc := 8) (N := 288) hG rfl (by decide) (Nat.le_of_ble_eq_true rfl) (Nat.le_of_ble_eq_true rfl) d_Ou_init_8 (fun a1 => ?_)
  refine np_put (pc := 10) (k := 2) (ty := qt2 0) hG rfl qi2 qt2 qto2 qn2 0 (by decide) rfl m_313 (qto2 0 (by decide)) rfl rfl (Nat.le_of_ble_eq_true rfl) d_Ou_init_10 ?_
  refine np_aload_n (pc := 13) hG d_Ou_init_13 rfl ?_
  refine np_iconst (pc := 14) hG d_Ou_init_14 ?_
  refine np_put (pc := 15) (k := 2) (ty := qt2 1) hG rfl qi2 qt2 qto2 qn2 1 (by decide) rfl m_315 (qto2 1 (by decide)) rfl rfl (Nat.le_of_ble_eq_true rfl) d_Ou_init_15 ?_
  refine np_obj (k := 2) (h0 := h0) (as := [(0, a1, 11, 288)]) (rf := fun _ _ => 0) (S0 := meE) hG (k2_of [(0, 11, 288)] rfl (by decide)) rfl (lyA_ob [(0, 11, 288)] rfl (by decide) (by decide) (k2_of [(0, 11, 288)] rfl (by decide)) (c1_of [(0, 11, 288)] rfl (by decide)) (c2_no (by decide))) LyA_E (fun hn hd hL => ?_)
  have hF := nF_ob (S0 := meE) hn hd (k2_of [(0, 11, 288)] rfl (by decide)) LyR_E (okQ_E (S := meE)) (fun f i h => absurd rfl h) (fun h => absurd h (by decide))
  exact ret 18 _ _ _ _ _ d_Ou_init_18 ⟨hF, ob_S⟩ (LyA_M hd hL LyA_E) (Nat.le_of_ble_eq_true rfl) (Nat.le_of_ble_eq_true rfl)
set_option maxRecDepth 100000 in
set_option maxHeartbeats 4000000 in
theorem n_Ma : QNt y_Ma_init c_Ma_init 1 1 12 3 72 1 [vI 0, .null, .null, .null] (nF 1) := by
  refine QNt.mk (own := "TreeDiffer$Matching") (by decide) rfl rfl (by decide) (fun Δ h0 G hG ret => ?_)
  refine np_aload_n (pc := 0) hG d_Ma_init_0 rfl ?_
  refine np_objInit (pc := 1) hG m_159 (by decide) (by decide) d_Ma_init_1 ?_
  refine np_aload_n (pc := 4) hG d_Ma_init_4 rfl ?_
  refine np_iconst (pc := 5) hG d_Ma_init_5 ?_
  refine np_put (pc := 6) (k := 1) (ty := qt1 0) hG rfl qi1 qt1 qto1 qn1 0 (by decide) rfl m_160 (qto1 0 (by decide)) rfl rfl (Nat.le_of_ble_eq_true rfl) d_Ma_init_6 ?_
  refine np_aload_n (pc := 9) hG d_Ma_init_9 rfl ?_
  refine np_bipush (pc := 10) hG d_Ma_init_10 (by decide) ?_
  refine np_newI (pc := 12) (N := 24) hG rfl (by decide) (Nat.le_of_ble_eq_true rfl) (Nat.le_of_ble_eq_true rfl) d_Ma_init_12 (fun a1 => ?_)
  refine np_put (pc := 14) (k := 1) (ty := qt1 1) hG rfl qi1 qt1 qto1 qn1 1 (by decide) rfl m_162 (qto1 1 (by decide)) rfl rfl (Nat.le_of_ble_eq_true rfl) d_Ma_init_14 ?_
  refine np_aload_n (pc := 17) hG d_Ma_init_17 rfl ?_
  refine np_bipush (pc := 18) hG d_Ma_init_18 (by decide) ?_
  refine np_newI (pc := 20) (N := 24) hG rfl (by decide) (Nat.le_of_ble_eq_true rfl) (Nat.le_of_ble_eq_true rfl) d_Ma_init_20 (fun a2 => ?_)
  refine np_put (pc := 22) (k := 1) (ty := qt1 2) hG rfl qi1 qt1 qto1 qn1 2 (by decide) rfl m_165 (qto1 2 (by decide)) rfl rfl (Nat.le_of_ble_eq_true rfl) d_Ma_init_22 ?_
  refine np_aload_n (pc := 25) hG d_Ma_init_25 rfl ?_
  refine np_bipush (pc := 26) hG d_Ma_init_26 (by decide) ?_
  refine np_newI (pc := 28) (N := 24) hG rfl (by decide) (Nat.le_of_ble_eq_true rfl) (Nat.le_of_ble_eq_true rfl) d_Ma_init_28 (fun a3 => ?_)
  refine np_put (pc := 30) (k := 1) (ty := qt1 3) hG rfl qi1 qt1 qto1 qn1 3 (by decide) rfl m_168 (qto1 3 (by decide)) rfl rfl (Nat.le_of_ble_eq_true rfl) d_Ma_init_30 ?_
  refine np_obj (k := 1) (h0 := h0) (as := [(1, a1, 11, 24), (2, a2, 11, 24), (3, a3, 11, 24)]) (rf := fun _ _ => 0) (S0 := meE) hG (k2_of [(1, 11, 24), (2, 11, 24), (3, 11, 24)] rfl (by decide)) rfl (lyA_ob [(1, 11, 24), (2, 11, 24), (3, 11, 24)] rfl (by decide) (by decide) (k2_of [(1, 11, 24), (2, 11, 24), (3, 11, 24)] rfl (by decide)) (c1_of [(1, 11, 24), (2, 11, 24), (3, 11, 24)] rfl (by decide)) (c2_no (by decide))) LyA_E (fun hn hd hL => ?_)
  have hF := nF_ob (S0 := meE) hn hd (k2_of [(1, 11, 24), (2, 11, 24), (3, 11, 24)] rfl (by decide)) LyR_E (okQ_E (S := meE)) (fun f i h => absurd rfl h) (fun h => absurd h (by decide))
  exact ret 33 _ _ _ _ _ d_Ma_init_33 hF (LyA_M hd hL LyA_E) (Nat.le_of_ble_eq_true rfl) (Nat.le_of_ble_eq_true rfl)
set_option maxRecDepth 100000 in
set_option maxHeartbeats 4000000 in
theorem n_Tr : QNt y_Tr_init c_Tr_init 1 1 12 9 216 7 [vI 0, .null, .null, .null, .null, .null, .null, .null, .null, .null] (fun h0 Λ S => nF 7 h0 Λ S ∧ cT S h0 t00) := by
  refine QNt.mk (own := "TreeDiffer$Tree") (by decide) rfl rfl (by decide) (fun Δ h0 G hG ret => ?_)
  refine np_aload_n (pc := 0) hG d_Tr_init_0 rfl ?_
  refine np_objInit (pc := 1) hG m_32 (by decide) (by decide) d_Tr_init_1 ?_
  refine np_aload_n (pc := 4) hG d_Tr_init_4 rfl ?_
  refine np_bipush (pc := 5) hG d_Tr_init_5 (by decide) ?_
  refine np_newI (pc := 7) (N := 24) hG rfl (by decide) (Nat.le_of_ble_eq_true rfl) (Nat.le_of_ble_eq_true rfl) d_Tr_init_7 (fun a1 => ?_)
  refine np_put (pc := 9) (k := 7) (ty := qt7 1) hG rfl qi7 qt7 qto7 qn7 1 (by decide) rfl m_40 (qto7 1 (by decide)) rfl rfl (Nat.le_of_ble_eq_true rfl) d_Tr_init_9 ?_
  refine np_aload_n (pc := 12) hG d_Tr_init_12 rfl ?_
  refine np_bipush (pc := 13) hG d_Tr_init_13 (by decide) ?_
  refine np_newI (pc := 15) (N := 24) hG rfl (by decide) (Nat.le_of_ble_eq_true rfl) (Nat.le_of_ble_eq_true rfl) d_Tr_init_15 (fun a2 => ?_)
  refine np_put (pc := 17) (k := 7) (ty := qt7 2) hG rfl qi7 qt7 qto7 qn7 2 (by decide) rfl m_45 (qto7 2 (by decide)) rfl rfl (Nat.le_of_ble_eq_true rfl) d_Tr_init_17 ?_
  refine np_aload_n (pc := 20) hG d_Tr_init_20 rfl ?_
  refine np_bipush (pc := 21) hG d_Tr_init_21 (by decide) ?_
  refine np_newI (pc := 23) (N := 24) hG rfl (by decide) (Nat.le_of_ble_eq_true rfl) (Nat.le_of_ble_eq_true rfl) d_Tr_init_23 (fun a3 => ?_)
  refine np_put (pc := 25) (k := 7) (ty := qt7 3) hG rfl qi7 qt7 qto7 qn7 3 (by decide) rfl m_51 (qto7 3 (by decide)) rfl rfl (Nat.le_of_ble_eq_true rfl) d_Tr_init_25 ?_
  refine np_aload_n (pc := 28) hG d_Tr_init_28 rfl ?_
  refine np_bipush (pc := 29) hG d_Tr_init_29 (by decide) ?_
  refine np_newI (pc := 31) (N := 24) hG rfl (by decide) (Nat.le_of_ble_eq_true rfl) (Nat.le_of_ble_eq_true rfl) d_Tr_init_31 (fun a4 => ?_)
  refine np_put (pc := 33) (k := 7) (ty := qt7 4) hG rfl qi7 qt7 qto7 qn7 4 (by decide) rfl m_58 (qto7 4 (by decide)) rfl rfl (Nat.le_of_ble_eq_true rfl) d_Tr_init_33 ?_
  refine np_aload_n (pc := 36) hG d_Tr_init_36 rfl ?_
  refine np_bipush (pc := 37) hG d_Tr_init_37 (by decide) ?_
  refine np_newI (pc := 39) (N := 24) hG rfl (by decide) (Nat.le_of_ble_eq_true rfl) (Nat.le_of_ble_eq_true rfl) d_Tr_init_39 (fun a5 => ?_)
  refine np_put (pc := 41) (k := 7) (ty := qt7 5) hG rfl qi7 qt7 qto7 qn7 5 (by decide) rfl m_61 (qto7 5 (by decide)) rfl rfl (Nat.le_of_ble_eq_true rfl) d_Tr_init_41 ?_
  refine np_aload_n (pc := 44) hG d_Tr_init_44 rfl ?_
  refine np_bipush (pc := 45) hG d_Tr_init_45 (by decide) ?_
  refine np_newI (pc := 47) (N := 24) hG rfl (by decide) (Nat.le_of_ble_eq_true rfl) (Nat.le_of_ble_eq_true rfl) d_Tr_init_47 (fun a6 => ?_)
  refine np_put (pc := 49) (k := 7) (ty := qt7 6) hG rfl qi7 qt7 qto7 qn7 6 (by decide) rfl m_63 (qto7 6 (by decide)) rfl rfl (Nat.le_of_ble_eq_true rfl) d_Tr_init_49 ?_
  refine np_aload_n (pc := 52) hG d_Tr_init_52 rfl ?_
  refine np_bipush (pc := 53) hG d_Tr_init_53 (by decide) ?_
  refine np_newI (pc := 55) (N := 24) hG rfl (by decide) (Nat.le_of_ble_eq_true rfl) (Nat.le_of_ble_eq_true rfl) d_Tr_init_55 (fun a7 => ?_)
  refine np_put (pc := 57) (k := 7) (ty := qt7 7) hG rfl qi7 qt7 qto7 qn7 7 (by decide) rfl m_65 (qto7 7 (by decide)) rfl rfl (Nat.le_of_ble_eq_true rfl) d_Tr_init_57 ?_
  refine np_aload_n (pc := 60) hG d_Tr_init_60 rfl ?_
  refine np_bipush (pc := 61) hG d_Tr_init_61 (by decide) ?_
  refine np_newI (pc := 63) (N := 24) hG rfl (by decide) (Nat.le_of_ble_eq_true rfl) (Nat.le_of_ble_eq_true rfl) d_Tr_init_63 (fun a8 => ?_)
  refine np_put (pc := 65) (k := 7) (ty := qt7 8) hG rfl qi7 qt7 qto7 qn7 8 (by decide) rfl m_69 (qto7 8 (by decide)) rfl rfl (Nat.le_of_ble_eq_true rfl) d_Tr_init_65 ?_
  refine np_aload_n (pc := 68) hG d_Tr_init_68 rfl ?_
  refine np_bipush (pc := 69) hG d_Tr_init_69 (by decide) ?_
  refine np_newI (pc := 71) (N := 24) hG rfl (by decide) (Nat.le_of_ble_eq_true rfl) (Nat.le_of_ble_eq_true rfl) d_Tr_init_71 (fun a9 => ?_)
  refine np_put (pc := 73) (k := 7) (ty := qt7 9) hG rfl qi7 qt7 qto7 qn7 9 (by decide) rfl m_73 (qto7 9 (by decide)) rfl rfl (Nat.le_of_ble_eq_true rfl) d_Tr_init_73 ?_
  refine np_aload_n (pc := 76) hG d_Tr_init_76 rfl ?_
  refine np_iconst (pc := 77) hG d_Tr_init_77 ?_
  refine np_put (pc := 78) (k := 7) (ty := qt7 0) hG rfl qi7 qt7 qto7 qn7 0 (by decide) rfl m_33 (qto7 0 (by decide)) rfl rfl (Nat.le_of_ble_eq_true rfl) d_Tr_init_78 ?_
  refine np_obj (k := 7) (h0 := h0) (as := [(1, a1, 11, 24), (2, a2, 11, 24), (3, a3, 11, 24), (4, a4, 11, 24), (5, a5, 11, 24), (6, a6, 11, 24), (7, a7, 11, 24), (8, a8, 11, 24), (9, a9, 11, 24)]) (rf := fun _ _ => 0) (S0 := ((fun _ f _ => match f with | 0 => 1 | _ => 0, fun _ _ => 0) : QMem)) hG (k2_of [(1, 11, 24), (2, 11, 24), (3, 11, 24), (4, 11, 24), (5, 11, 24), (6, 11, 24), (7, 11, 24), (8, 11, 24), (9, 11, 24)] rfl (by decide)) rfl (lyA_ob [(1, 11, 24), (2, 11, 24), (3, 11, 24), (4, 11, 24), (5, 11, 24), (6, 11, 24), (7, 11, 24), (8, 11, 24), (9, 11, 24)] rfl (by decide) (by decide) (k2_of [(1, 11, 24), (2, 11, 24), (3, 11, 24), (4, 11, 24), (5, 11, 24), (6, 11, 24), (7, 11, 24), (8, 11, 24), (9, 11, 24)] rfl (by decide)) (c1_of [(1, 11, 24), (2, 11, 24), (3, 11, 24), (4, 11, 24), (5, 11, 24), (6, 11, 24), (7, 11, 24), (8, 11, 24), (9, 11, 24)] rfl (by decide)) (c2_no (by decide))) LyA_E (fun hn hd hL => ?_)
  have hF := nF_ob (S0 := ((fun _ f _ => match f with | 0 => 1 | _ => 0, fun _ _ => 0) : QMem)) hn hd (k2_of [(1, 11, 24), (2, 11, 24), (3, 11, 24), (4, 11, 24), (5, 11, 24), (6, 11, 24), (7, 11, 24), (8, 11, 24), (9, 11, 24)] rfl (by decide)) LyR_E (okQ_E (S := meE)) (fun f i h => absurd rfl h) (fun h => absurd h (by decide))
  have hLA := LyA_M hd hL LyA_E
  have hLy := LyOk hLA hF.1
  have e0 : ∀ (f : Nat) (i : Int), (meM (obL 7 h0 [(1, a1, 11, 24), (2, a2, 11, 24), (3, a3, 11, 24), (4, a4, 11, 24), (5, a5, 11, 24), (6, a6, 11, 24), (7, a7, 11, 24), (8, a8, 11, 24), (9, a9, 11, 24)] (fun _ _ => 0)) ((fun _ f _ => match f with | 0 => 1 | _ => 0, fun _ _ => 0) : QMem) meE).1 h0 f i = (match f with | 0 => 1 | _ => 0) := fun f i => ob_S
  have o0 := hF.2.2
  generalize lyM (obL 7 h0 [(1, a1, 11, 24), (2, a2, 11, 24), (3, a3, 11, 24), (4, a4, 11, 24), (5, a5, 11, 24), (6, a6, 11, 24), (7, a7, 11, 24), (8, a8, 11, 24), (9, a9, 11, 24)] (fun _ _ => 0)) lyE = Λ at hF hLA hLy o0 ⊢
  generalize meM (obL 7 h0 [(1, a1, 11, 24), (2, a2, 11, 24), (3, a3, 11, 24), (4, a4, 11, 24), (5, a5, 11, 24), (6, a6, 11, 24), (7, a7, 11, 24), (8, a8, 11, 24), (9, a9, 11, 24)] (fun _ _ => 0)) ((fun _ f _ => match f with | 0 => 1 | _ => 0, fun _ _ => 0) : QMem) meE = S at hF e0 ⊢
  refine np_walk hG hLy hF.2.1 (Nat.le_of_ble_eq_true rfl) (Nat.le_of_ble_eq_true rfl) (fun G' hG' cv => ?_)
  refine pw_aload_n (pc := 81) hG' d_Tr_init_81 rfl ?_
  refine g7_3 (pc := 82) hG' m_51 d_Tr_init_82 o0 ?_
  refine pw_iconst (pc := 85) hG' d_Tr_init_85 ?_
  refine pw_iconst (pc := 86) hG' d_Tr_init_86 ?_
  refine pw_sI (pc := 87) hG' (q_arr hLy o0 rfl (by decide)) ⟨by decide, by decide⟩ d_Tr_init_87 (fun S1 e1 => ?_)
  refine pw_aload_n (pc := 88) hG' d_Tr_init_88 rfl ?_
  refine g7_8 (pc := 89) hG' m_69 d_Tr_init_89 o0 ?_
  refine pw_iconst (pc := 92) hG' d_Tr_init_92 ?_
  refine pw_iconst (pc := 93) hG' d_Tr_init_93 ?_
  refine pw_sI (pc := 94) hG' (q_arr hLy o0 rfl (by decide)) ⟨by decide, by decide⟩ d_Tr_init_94 (fun S2 e2 => ?_)
  refine cv 95 _ [] S2 (fun hok => ret 95 _ _ _ _ _ d_Tr_init_95 ⟨⟨hF.1, hok, o0⟩, ?_⟩ hLA (Nat.le_of_ble_eq_true rfl) (Nat.le_of_ble_eq_true rfl))
  have z : ∀ (f : Nat) (i : Int), S2.1 h0 f i = if f = 8 ∧ i = 0 then 1 else if f = 3 ∧ i = 0 then -1 else (match f with | 0 => 1 | _ => 0) := fun f i => by
    rw [e2, e1, ← e0 f i]
    simp [q_st]
  refine ⟨z 0 0, fun k k0 k1 => ?_, fun k k0 k1 => ?_⟩
  · have k1 : k < 1 := k1
    have hk : k = 0 := by omega
    rw [hk]
    exact ⟨z 1 0, z 2 0, z 3 0, z 4 0, z 5 0, z 6 0, z 7 0, z 8 0⟩
  · have k1 : k < 1 := k1
    have hk : k = 0 := by omega
    rw [hk]
    exact z 9 0
