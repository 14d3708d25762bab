/-! the reference's script, whole -/
theorem coh_val {W : WW} {km : Int → Int} {kd : Int → Int → Int} {x v : Int} (h : coh W km kd) : coh (valW W x v) km kd := h
theorem coh_lab {W : WW} {km : Int → Int} {kd : Int → Int → Int} {x l v : Int} (h : coh W km kd) : coh (labW W x l v) km kd := h
theorem s_Mo_goesThrough {Λ : QLay} {m : Nat} {y : Int} {S : QMem} {Q : QMem → Prop} {t0 t1 : TT} {Z : ZZ} (hT : mT S m 1 t1) (w1 : wfT t1) (hZ : MZ S m t1 Z) (hI : ZI t0 t1 Z) (y0 : 0 ≤ y) (y1 : y < tn t1) (hr : rm Z (tp t1 y) ≠ -1) (hu : ∀ k, 0 ≤ k → k < tn t1 → tp t1 k = y → zm Z k = 0) (hn : zn Z + un t1 Z ≤ 93)
    (hq : ∀ S', Kp (Pmo m) S S' → MZ S' m t1 (brgZ t1 Z y) → Q S') : w_Mo_goesThrough Λ m y S Q := by
  have n1 := tn_rng w1
  have hty := tp_rng w1 y0 y1
  have hpm := pm_rng w1 y0 y1
  have hlv := w1.2 y y0 y1
  have inlk := inl_ok w1 hI y0 y1 hr
  have bk := (brg_ok w1 hI y0 y1 hr hu).1
  have hrr := ZI_rm w1 hI (y := tp t1 y) (by omega) (by omega) hr
  have fin : ∀ S1, Kp (Pmo m) S S1 → MZ S1 m t1 (inl t1 Z y) → w_Mo_goesThrough_183 Λ Q m y S1 := fun S1 hk1 hZ1 => by
    unfold w_Mo_goesThrough_183
    have := s_Mo_orders (Λ := Λ) (Q := fun S185 => Q S185) (mT_kp hk1 Pmo_n hT) w1 hZ1 inlk.1 (y := y) (by omega) y1 bk.1 bk.2 (by have := inlk.2.2.2; omega) (fun S2 hk2 hZ2 => hq S2 (hk1.tr hk2) hZ2)
    unfold ym at this
    rw [if_neg (by omega)] at this
    exact this
  have hZZ := hZ
  obtain ⟨z1, z2, z3, z4, z5⟩ := hZ
  have o := hT.1.2 y y0 y1
  unfold w_Mo_goesThrough
  refine s_Mo_parentOf hT w1 y0 y1 ⟨by omega, ?_⟩
  intro u hu'
  rw [MZ_rm w1 hZZ y0 y1] at hu'
  rw [hu']
  refine ⟨by omega, ?_⟩
  intro x hx
  rw [(z4 y y0 y1).1] at hx
  rw [hx]
  have hz := hI.2.2.2.1 y y0 y1
  refine ⟨by unfold inR; omega, fun z => ?_, fun z => ?_⟩
  · have zne : zp Z y ≠ -1 := by omega
    have hz2 := hz.resolve_left zne
    have hg2 := hI.2.2.1 _ hz2.1 hz2.2.1 hz2.2.2.1
    have ein : inl t1 Z y = mv1 t1 (upd1 t1 Z y) y := if_neg zne
    have uk := upd1_ok w1 hI y0 y1 zne
    have ruk : rm (upd1 t1 Z y) (tp t1 y) = rm Z (tp t1 y) := by unfold rm; rw [uk.2.1]
    have mid : ∀ S1, Kp (Pmo m) S S1 → MZ S1 m t1 (upd1 t1 Z y) → w_Mo_goesThrough_168 Λ Q m y (rm Z (tp t1 y)) (zp Z y) S1 := fun S1 hk1 hZ1 => by
      have hT1 := mT_kp hk1 Pmo_n hT
      have e0 : zp (upd1 t1 Z y) y = zp Z y := by rw [uk.2.1]
      have hzu := (uk.1.2.2.2.1 y y0 y1).resolve_left (by rw [e0]; exact zne)
      rw [e0] at hzu
      have hwu := (wfW_rng uk.1.2.1 hz2.1 hz2.2.1).resolve_left hzu.2.2.1
      have e25 : S1.1 m 25 (zp Z y) = wa (zw (upd1 t1 Z y)) (zp Z y) := by rw [(hZ1.1.1 _ hz2.1 hz2.2.1).1, a2_p hzu.2.2.1]
      unfold w_Mo_goesThrough_168
      rw [e25]
      refine ⟨by omega, by unfold inR; omega, by unfold inR; omega, fun w => fin S1 hk1 ?_, fun w => ?_⟩
      · rw [ein]; unfold mv1; rw [if_pos (by rw [e0, ruk]; exact w)]; exact hZ1
      · have hn1 : zn (upd1 t1 Z y) ≤ 95 := by have := uk.2.2.2; omega
        refine s_Mo_moves hT1 w1 hZ1 uk.1 y0 y1 (by rw [e0]; exact zne) (by rw [ruk]; exact hr) hn1 (fun S2 hk2 hZ2 => fin S2 (hk1.tr (hk2.mono (fun o f z => ⟨z.1, by have := z.2; omega⟩))) ?_)
        rw [ein]; unfold mv1; rw [if_neg (by rw [e0, ruk]; exact w)]; exact hZ2
    refine ⟨by omega, ?_⟩
    dsimp only [w_Mo_at]
    rw [((z1.1 _ hz2.1 hz2.2.1).2 hz2.2.2.1).2, o.2.1]
    refine ⟨by omega, by unfold inR; omega, by unfold inR; omega, fun w => mid S Kp.rf ?_, fun w => ⟨by omega, by omega, ?_⟩⟩
    · unfold upd1; rw [if_pos w]; exact hZZ
    · intro S1 e1
      have k1 : Kp (fun o f => o = m ∧ f = 27) S S1 := by rw [e1]; exact Kp.rf.st ⟨rfl, rfl⟩
      have v1 : S1.1 m 27 (zp Z y) = tv t1 y := by rw [e1]; simp [q_st]
      rw [v1]
      refine ⟨by omega, ?_⟩
      refine s_Mo_notes (n := zn Z) (by rw [k1.at (by omega)]; exact z2) (by omega) hz2.1 (by omega) (fun S2 hk2 h31 h30 hst => mid S2 ?_ ?_)
      · exact (k1.mono (fun o f z => ⟨z.1, by have := z.2; omega⟩)).tr (hk2.mono (fun o f z => ⟨z.1, by have := z.2; omega⟩))
      · unfold upd1
        rw [if_neg w]
        have M1 : MW S1 m (valW (zw Z) (zp Z y) (tv t1 y)) := by
          refine ⟨fun q q0 q1 => ?_, coh_ext (coh_val z1.2) (fun u _ _ => k1.at (by omega)) (fun u i _ _ _ _ => k1.at (by omega))⟩
          have h1 := z1.1 q q0 q1
          refine ⟨by rw [k1.at (by omega)]; exact h1.1, fun p => ⟨by rw [k1.at (by omega)]; exact (h1.2 p).1, ?_⟩⟩
          show S1.1 m 27 q = up (wv (zw Z)) (zp Z y) (tv t1 y) q
          by_cases qq : q = zp Z y
          · rw [qq, up_s]; exact v1
          · rw [up_n _ _ qq, e1]; simp [q_st, qq]; exact (h1.2 p).2
        refine MZ_add hZZ ?_ h31 (hst _ rfl rfl rfl rfl rfl rfl) (fun i hi => by rw [h30 i hi, k1.at (by omega)]) (fun k k0 k1' => ?_) (by rw [hk2.at (by omega), k1.at (by omega)]; exact z5)
        · rw [ap_0 (W := zw Z) (s := (0, zp Z y, 0, 0, 0, tv t1 y, 0, 0, wv (zw Z) (zp Z y))) rfl]
          exact MW_kp hk2 (fun f f0 f1 z => by have := z.2; omega) M1
        · rw [hk2.at (by omega), hk2.at (by omega), k1.at (by omega), k1.at (by omega)]
          exact z4 k k0 k1'
  · have zeq : zp Z y = -1 := by omega
    have hA := (ZI_ins w1 hI y0 y1 zeq hr).2
    have hab := hI.2.2.2.2.2.1 y y0 y1 zeq
    intro x2 hx2
    rw [hx2]
    refine s_Mo_placeFor hT w1 z1 z4 y0 y1 (fun k k0 k1 => ⟨(hI.2.2.2.2.2.2.1 k k0 (by omega)).1, fun _ e2 => ?_⟩) ?_
    · have hm := (hI.2.2.2.2.2.2.1 k k0 (by omega)).2 e2
      have hk := (hI.2.2.2.1 k k0 (by omega)).resolve_left hm.1
      exact ⟨hk.1, hk.2.1, hk.2.2.1⟩
    · dsimp only [w_Mo_at]
      refine ⟨by omega, by omega, ?_⟩
      rw [o.1]
      intro S1 e1
      have k1 : Kp (fun o f => o = m ∧ (f = 26 ∨ f = 27)) S S1 := by rw [e1]; exact Kp.rf.st ⟨rfl, Or.inl rfl⟩
      rw [k1.at (by omega), o.2.1]
      refine ⟨by omega, by omega, ?_⟩
      intro S2 e2
      have k2 : Kp (fun o f => o = m ∧ (f = 26 ∨ f = 27)) S S2 := by rw [e2]; exact k1.st ⟨rfl, Or.inr rfl⟩
      have M2 : MW S2 m (labW (zw Z) (24 + y) (tl t1 y) (tv t1 y)) := by
        refine ⟨fun q q0 q1 => ?_, coh_ext (coh_lab z1.2) (fun u _ _ => k2.at (by omega)) (fun u i _ _ _ _ => k2.at (by omega))⟩
        have h1 := z1.1 q q0 q1
        refine ⟨by rw [k2.at (by omega)]; exact h1.1, fun p => ?_⟩
        have qq : q ≠ 24 + y := fun e => p (by rw [e]; exact hab)
        show S2.1 m 26 q = up (wl (zw Z)) (24 + y) (tl t1 y) q ∧ S2.1 m 27 q = up (wv (zw Z)) (24 + y) (tv t1 y) q
        rw [up_n _ _ qq, up_n _ _ qq, e2, e1]; simp [q_st, qq]; exact h1.2 p
      have lv2 : S2.1 m 26 (24 + y) = wl (labW (zw Z) (24 + y) (tl t1 y) (tv t1 y)) (24 + y) ∧ S2.1 m 27 (24 + y) = wv (labW (zw Z) (24 + y) (tl t1 y) (tv t1 y)) (24 + y) := by
        show _ = up (wl (zw Z)) (24 + y) (tl t1 y) (24 + y) ∧ _ = up (wv (zw Z)) (24 + y) (tv t1 y) (24 + y)
        rw [up_s, up_s, e2, e1]; simp [q_st]
      refine s_Mo_putsIn M2 (by omega) (by omega) hab hrr.1 hrr.2 hA.1 (okA_km M2.2 hrr.1 hrr.2 hA) lv2 (fun S3 hk3 hM3 _ => ⟨by omega, ?_⟩)
      intro S4 e4
      refine ⟨by omega, ?_⟩
      intro S5 e5
      refine s_Mo_number hrr.1 hrr.2 ?_
      have k45 : Kp (fun o f => o = m ∧ (f = 32 ∨ f = 33)) S3 S5 := by rw [e5, e4]; exact (Kp.rf.st ⟨rfl, Or.inl rfl⟩).st ⟨rfl, Or.inr rfl⟩
      have M5 := MW_kp k45 (fun f f0 f1 z => by have := z.2; omega) hM3
      have pres : wa (putW (labW (zw Z) (24 + y) (tl t1 y) (tv t1 y)) (24 + y) (rm Z (tp t1 y)) (plc t1 (zw Z) (zp Z) (zm Z) y)) (24 + y) ≠ -1 := by rw [put_a, up_s]; omega
      have l5 := (M5.1 (24 + y) (by omega) (by omega)).2 pres
      have l5a : S5.1 m 26 (24 + y) = tl t1 y := by rw [l5.1]; exact up_s _ _ _
      have l5b : S5.1 m 27 (24 + y) = tv t1 y := by rw [l5.2]; exact up_s _ _ _
      rw [l5a, l5b]
      refine ⟨by omega, by omega, ?_⟩
      have K5 : Kp (fun o f => o = m ∧ (f = 32 ∨ f = 33 ∨ (25 ≤ f ∧ f ≤ 29))) S S5 := ((k2.mono (fun o f z => ⟨z.1, by have := z.2; omega⟩)).tr (hk3.mono (fun o f z => ⟨z.1, by have := z.2; omega⟩))).tr (k45.mono (fun o f z => ⟨z.1, by have := z.2; omega⟩))
      refine s_Mo_notes (n := zn Z) (by rw [K5.at (by omega)]; exact z2) (by omega) (by omega) (by omega) (fun S6 hk6 h31 h30 hst => fin S6 ?_ ?_)
      · exact (K5.mono (fun o f z => ⟨z.1, by have := z.2; omega⟩)).tr (hk6.mono (fun o f z => ⟨z.1, by have := z.2; omega⟩))
      · unfold inl
        rw [if_pos zeq]
        have nP : ∀ f, f < 25 ∨ 29 < f → ¬ Pmw m m f := fun f hf z => by have := z.2; omega
        refine MZ_add hZZ ?_ h31 (hst _ rfl rfl rfl rfl rfl rfl) (fun i hi => by rw [h30 i hi, K5.at (by omega)]) (fun k k0 k1' => ?_) ?_
        · rw [ap_1 (W := zw Z) (s := (1, 24 + y, rm Z (tp t1 y), plc t1 (zw Z) (zp Z) (zm Z) y, tl t1 y, tv t1 y, 0, 0, 0)) rfl]
          exact MW_kp hk6 (fun f f0 f1 z => by have := z.2; omega) M5
        · rw [hk6.at (by omega), hk6.at (by omega)]
          have h := z4 k k0 k1'
          have a3 : S3.1 m 32 k = zp Z k ∧ S3.1 m 33 k = zm Z k := by
            rw [hk3.at (nP 32 (by omega)), hk3.at (nP 33 (by omega)), k2.at (by omega), k2.at (by omega)]; exact h
          by_cases q : k = y
          · rw [q, up_s, up_s, e5, e4]; simp [q_st]
          · rw [up_n _ _ q, up_n _ _ q, e5, e4]; simp [q_st, q, a3.1, a3.2]
        · have q24 : ¬ (24 : Int) = y := by omega
          rw [hk6.at (by omega), e5, e4]; simp [q_st, q24]
          rw [hk3.at (nP 32 (by omega)), k2.at (by omega)]; exact z5
theorem s_Mo_level {Λ : QLay} {m : Nat} {y : Int} {S : QMem} {Q : Int → QMem → Prop} {t1 : TT} (hT : mT S m 1 t1) (w1 : wfT t1) (y0 : 0 ≤ y) (y1 : y < tn t1) (hq : Q (dp (tp t1) y) S) : w_Mo_level Λ m y S Q := by
  have n1 := tn_rng w1
  unfold w_Mo_level
  have key : ∀ (f : Nat) (k v : Int), k < f → 0 ≤ k → k < tn t1 → v + dp (tp t1) k = dp (tp t1) y → w_Mo_level_4 Λ Q f m v k S := by
    intro f
    induction f with
    | zero => intro k v a b; omega
    | succ f ih =>
      intro k v a b c d
      have ht := tp_rng w1 b c
      rw [w_Mo_level_4]
      refine ⟨by unfold inR; omega, fun z => ?_, fun z => ?_⟩
      · have e := dp_0 w1.1
        rw [show k = 0 by omega] at d
        rw [show v = dp (tp t1) y by omega]
        exact hq
      · dsimp only [w_Mo_at]
        rw [(hT.1.2 k b c).2.2]
        refine ⟨by omega, ?_⟩
        intro x hx
        have hs := dp_s w1.1 (k := k) (by omega) c
        rw [hx]
        exact ih (tp t1 k) (v + 1) (by omega) (by have := ht.2.2.1; omega) (by omega) (by omega)
  exact ⟨_, key (y.toNat + 1) y 0 (by omega) y0 y1 (by omega)⟩
theorem s_Mo_deletes {Λ : QLay} {m : Nat} {S : QMem} {Q : QMem → Prop} {t0 t1 : TT} {P : MM} {Z : ZZ} (hT : mT S m 0 t0) (w0 : wfT t0) (hpo : ∀ k, 0 ≤ k → k < tn t0 → S.1 m 24 (pix (tn t0) (tp t0) k) = k) (hP : ∀ x, 0 ≤ x → x < tn t0 → S.1 m 21 x = q0 P x ∧ -1 ≤ q0 P x ∧ q0 P x ≤ 24) (hZ : MZ S m t1 Z) (hD : DI t0 P 0 Z)
    (hq : ∀ S', Kp (Pmo m) S S' → MZ S' m t1 (dl t0 P Z (tn t0).toNat) → Q S') : ∃ n124 : Nat, w_Mo_writes_125 Λ Q n124 m 0 S := by
  have n0 := tn_rng w0
  have key : ∀ (f k : Nat) (S1 : QMem), (k : Int) + f = tn t0 → Kp (fun o f => o = m ∧ 25 ≤ f ∧ f ≤ 31) S S1 → MZ S1 m t1 (dl t0 P Z k) → w_Mo_writes_125 Λ Q (f + 1) m (k : Int) S1 := by
    intro f
    induction f with
    | zero =>
      intro k S1 hk hk1 hZ1
      rw [w_Mo_writes_125, hk1.at (by omega), hT.1.1]
      refine ⟨by unfold inR; omega, by unfold inR; omega, fun _ => hq S1 (hk1.mono (fun o f z => ⟨z.1, by have := z.2; omega⟩)) ?_, fun z => by omega⟩
      rw [show (tn t0).toNat = k by omega]
      exact hZ1
    | succ f ih =>
      intro k S1 hk hk1 hZ1
      have ihk := ih (k + 1)
      rw [show ((k + 1 : Nat) : Int) = (k : Int) + 1 by omega] at ihk
      have hn := nAt_ok w0 (i := (k : Int)) (by omega) (by omega)
      obtain ⟨i1, i2, i3, i4, i5⟩ := dl_ok w0 hD k (by omega)
      have ex : ∀ S2, Kp (fun o f => o = m ∧ 25 ≤ f ∧ f ≤ 31) S S2 → S2.1 m 24 (k : Int) = nAt t0 (k : Int) := fun S2 k2 => by
        rw [k2.at (by omega)]; exact nAt_eq w0 (by omega) (by omega) hpo
      have hp := hP _ hn.1 hn.2.1
      rw [w_Mo_writes_125, hk1.at (o := m) (f := 0) (by omega), hT.1.1, ex S1 hk1, hk1.at (o := m) (f := 21) (by omega), hp.1]
      refine ⟨by unfold inR; omega, by unfold inR; omega, fun z => by omega, fun _ => ⟨by omega, by omega, by unfold inR; omega, fun z => ?_, fun z => ⟨by omega, ?_⟩⟩⟩
      · have := ihk S1 (by omega) hk1
        rw [dl_n (by omega)] at this
        exact this hZ1
      · have hx4 := i4 _ hn.1 hn.2.1 (Or.inr (by omega))
        have hZZ := hZ1
        obtain ⟨z1, z2, z3, z4, z5⟩ := hZ1
        refine s_Mo_takesOut z1 hn.1 (by omega) hx4 (fun S2 hk2 hM2 hl2 => ⟨by omega, ?_⟩)
        have K2 : Kp (fun o f => o = m ∧ 25 ≤ f ∧ f ≤ 31) S S2 := hk1.tr (hk2.mono (fun o f z => ⟨z.1, by have := z.2; omega, by have := z.2; omega⟩))
        rw [ex S2 K2]
        refine s_Mo_notes (n := zn (dl t0 P Z k)) (by rw [hk2.at (fun z => by have := z.2; omega)]; exact z2) (by omega) hn.1 (by omega) (fun S3 hk3 h31 h30 hst => ?_)
        have := ihk S3 (by omega) (K2.tr (hk3.mono (fun o f z => ⟨z.1, by have := z.2; omega, by have := z.2; omega⟩)))
        rw [dl_y (by omega)] at this
        refine this (MZ_add hZZ ?_ h31 (hst _ rfl rfl rfl rfl rfl rfl) (fun i hi => by rw [h30 i hi, hk2.at (fun z => by have := z.2; omega)]) (fun k k0 k1' => ?_) ?_)
        · rw [ap_3 (W := zw (dl t0 P Z k)) (s := (3, nAt t0 (k : Int), 0, 0, 0, 0, wa (zw (dl t0 P Z k)) (nAt t0 (k : Int)), wp (zw (dl t0 P Z k)) (nAt t0 (k : Int)), 0)) rfl]
          exact MW_kp hk3 (fun f f0 f1 z => by have := z.2; omega) hM2
        · rw [hk3.at (by omega), hk3.at (by omega), hk2.at (fun z => by have := z.2; omega), hk2.at (fun z => by have := z.2; omega)]
          exact z4 k k0 k1'
        · rw [hk3.at (by omega), hk2.at (fun z => by have := z.2; omega)]; exact z5
  exact ⟨_, key (tn t0).toNat 0 S (by omega) Kp.rf hZ⟩
theorem s_Mo_writes {Λ : QLay} {m : Nat} {S : QMem} {Q : QMem → Prop} {t0 t1 : TT} {P : MM} (hW : WM m S t0 t1) (hC : MX S m P) (hP : MOK t0 t1 P)
    (hq : ∀ S', Kp (Pmo m) S S' → MZ S' m t1 (scF t0 t1 P) → Q S') : w_Mo_writes Λ m S Q := by
  have hWW := hW
  obtain ⟨c0, c1, w0, w1⟩ := hW
  have n0 := tn_rng w0
  have n1 := tn_rng w1
  have T0 : ∀ S', Kp (Pmo m) S S' → mT S' m 0 t0 := fun S' K => mT_kp K Pmo_n c0
  have T1 : ∀ S', Kp (Pmo m) S S' → mT S' m 1 t1 := fun S' K => mT_kp K Pmo_n c1
  unfold w_Mo_writes
  intro S1 e1
  have K1 : Kp (Pmo m) S S1 := by rw [e1]; exact Kp.rf.st ⟨rfl, by omega⟩
  refine s_Mo_copyBegins (T0 S1 K1) w0 (Or.inl rfl) (fun S2 hk2 hM2 => ?_)
  have K2 : Kp (Pmo m) S S2 := K1.tr (hk2.mono (fun o f z => ⟨z.1, by have := z.2; omega⟩))
  have l2 : S2.1 m 31 0 = 0 := by rw [hk2.at (fun z => by have := z.2; omega), e1]; simp [q_st]
  have main : ∀ S3, Kp (Pmo m) S S3 → MZ S3 m t1 (Z0 t0 P) → w_Mo_orders Λ m 24 S3 (fun S69 => ∃ n73 : Nat, w_Mo_writes_74 Λ Q n73 m 0 S69) := fun S3 K3 hZ3 => by
    obtain ⟨z1, z2, z3⟩ := Z0_ok w0 w1 hP
    have := s_Mo_orders (Λ := Λ) (Q := fun S69 => ∃ n73 : Nat, w_Mo_writes_74 Λ Q n73 m 0 S69) (T1 S3 K3) w1 hZ3 z1 (y := -1) (by omega) (by omega) z2 z3 (by have := un_le t1 (Z0 t0 P); have e : zn (Z0 t0 P) = 0 := rfl; omega) (fun S4 hk4 hZ4 => ?_)
    · exact this
    · have hB1 := Z1_ok w0 w1 hP
      have lv : ∀ (g L : Nat) (S5 : QMem), L + g = 24 → Kp (Pmo m) S S5 → MZ S5 m t1 (bf t1 (Z1 t0 t1 P) L) → w_Mo_writes_74 Λ Q (g + 1) m (L : Int) S5 := by
        intro g
        induction g with
        | zero =>
          intro L S5 hL K5 hZ5
          rw [w_Mo_writes_74]
          refine ⟨by unfold inR; omega, fun _ => ?_, fun z => by omega⟩
          have T5 := T0 S5 K5
          rw [show L = 24 by omega] at hZ5
          refine s_Mo_findPost (Or.inl rfl) w0.1 T5.1.1 (fun k k0 k1 => (T5.1.2 k k0 k1).2.2) (fun S6 hk6 hpo => ?_)
          have K6 : Kp (Pmo m) S S6 := K5.tr (hk6.mono (fun o f z => ⟨z.1, by have := z.2; omega⟩))
          refine s_Mo_deletes (T0 S6 K6) w0 hpo (fun x x0 x1 => ⟨?_, ?_⟩) (MZ_kp hk6 (fun f f0 f1 z => by have := z.2; omega) hZ5) (Z2_ok w0 w1 hP) (fun S7 hk7 hZ7 => hq S7 (K6.tr hk7) hZ7)
          · rw [K6.at (fun z => by have := z.2; omega)]; exact (hC x x0 (by omega)).1
          · rcases hP.1 x x0 x1 with z | z <;> omega
        | succ g ih =>
          intro L S5 hL K5 hZ5
          have hBL := bf_ok w1 hB1 L
          have ihL := ih (L + 1)
          rw [show ((L + 1 : Nat) : Int) = (L : Int) + 1 by omega] at ihL
          rw [w_Mo_writes_74]
          refine ⟨by unfold inR; omega, fun z => by omega, fun _ => ?_⟩
          have nodes : ∀ (h k : Nat) (S6 : QMem), (k : Int) + h = tn t1 → Kp (Pmo m) S S6 → MZ S6 m t1 (yl t1 (L : Int) (bf t1 (Z1 t0 t1 P) L) k) → w_Mo_writes_82 Λ (fun v0' v1' S' => w_Mo_writes_74 Λ Q (g + 1) v0' v1' S') Q (h + 1) m (L : Int) (k : Int) S6 := by
            intro h
            induction h with
            | zero =>
              intro k S6 hk K6 hZ6
              rw [w_Mo_writes_82, (T1 S6 K6).1.1]
              refine ⟨by unfold inR; omega, by unfold inR; omega, fun _ => ihL S6 (by omega) K6 ?_, fun z => by omega⟩
              show MZ S6 m t1 (yl t1 (L : Int) (bf t1 (Z1 t0 t1 P) L) (tn t1).toNat)
              rw [show (tn t1).toNat = k by omega]
              exact hZ6
            | succ h ihh =>
              intro k S6 hk K6 hZ6
              have ihk := ihh (k + 1)
              rw [show ((k + 1 : Nat) : Int) = (k : Int) + 1 by omega] at ihk
              have hBk := yl_ok w1 hBL k (by omega)
              have dr := dp_rng w1.1 (k := (k : Int)) (by omega) (by omega)
              rw [w_Mo_writes_82, (T1 S6 K6).1.1]
              refine ⟨by unfold inR; omega, by unfold inR; omega, fun z => by omega, fun _ => ?_⟩
              refine s_Mo_level (T1 S6 K6) w1 (by omega) (by omega) ?_
              refine ⟨by unfold inR; omega, by unfold inR; omega, fun z => ?_, fun z => ?_⟩
              · have := ihk S6 (by omega) K6
                rw [yl_n z] at this
                exact this hZ6
              · obtain ⟨p1, p2, p3⟩ := BI_pre w1 hBk (by omega) (by omega) z
                refine s_Mo_goesThrough (T1 S6 K6) w1 hZ6 hBk.1 (by omega) (by omega) p1 p2 ?_ (fun S7 hk7 hZ7 => ?_)
                · have h4 := hBk.2.2.2
                  have := pcn_lt (t1 := t1) (L := (L : Int)) (y := (k : Int)) (by omega) (by omega) z
                  have := pcn_le t1 w1 (L : Int) ((k : Int) + 1)
                  omega
                · have := ihk S7 (by omega) (K6.tr hk7)
                  rw [yl_y z] at this
                  exact this hZ7
          exact ⟨_, nodes (tn t1).toNat 0 S5 (by omega) K5 hZ5⟩
      exact ⟨_, lv 24 0 S4 (by omega) (K3.tr hk4) hZ4⟩
  have fill : ∀ (f : Nat) (i : Int) (S3 : QMem), 0 ≤ i → i + f = 24 → Kp (fun o f => o = m ∧ (f = 32 ∨ f = 33)) S2 S3 → (∀ y, 0 ≤ y → y < i → y < tn t1 → S3.1 m 32 y = q1 P y ∧ S3.1 m 33 y = 0) → w_Mo_writes_12 Λ Q (f + 1) m i S3 := by
    intro f
    induction f with
    | zero =>
      intro i S3 i0 hi hk3 hy
      rw [w_Mo_writes_12]
      refine ⟨by unfold inR; omega, fun _ => ?_, fun z => by omega⟩
      intro S4 e4
      have k4 : Kp (fun o f => o = m ∧ (f = 32 ∨ f = 33)) S2 S4 := by rw [e4]; exact hk3.st ⟨rfl, Or.inl rfl⟩
      refine main S4 (K2.tr (k4.mono (fun o f z => ⟨z.1, by have := z.2; omega⟩))) ⟨MW_kp k4 (fun f f0 f1 z => by have := z.2; omega) hM2, ?_, fun i hi => absurd hi (Nat.not_lt_zero i), fun y y0 y1 => ?_, by rw [e4]; simp [q_st]⟩
      · rw [k4.at (by omega), l2]; rfl
      · have q24 : ¬ y = 24 := by omega
        rw [e4]; simp [q_st, q24]; exact hy y y0 (by omega) y1
    | succ f ih =>
      intro i S3 i0 hi hk3 hy
      have K3 := K2.tr (hk3.mono (fun o f z => (⟨z.1, by have := z.2; omega⟩ : Pmo m o f)))
      rw [w_Mo_writes_12, (T1 S3 K3).1.1]
      refine ⟨by unfold inR; omega, fun z => by omega, fun _ => ⟨by unfold inR; omega, by unfold inR; omega, fun z => ⟨by omega, ?_⟩, fun z => ⟨by omega, by omega, ?_⟩⟩⟩
      · intro S4 e4
        refine ⟨by omega, ?_⟩
        intro S5 e5
        refine ih (i + 1) S5 (by omega) (by omega) (by rw [e5, e4]; exact (hk3.st ⟨rfl, Or.inl rfl⟩).st ⟨rfl, Or.inr rfl⟩) (fun y y0 y1 y2 => ?_)
        have q : ¬ y = i := by omega
        rw [e5, e4]; simp [q_st, q]; exact hy y y0 (by omega) y2
      · intro S4 e4
        refine ⟨by omega, ?_⟩
        intro S5 e5
        have q2 : S3.1 m 22 i = q1 P i := by
          rw [K3.at (fun z => by have := z.2; omega)]
          exact (hC i i0 (by omega)).2.1
        rw [q2] at e4
        refine ih (i + 1) S5 (by omega) (by omega) (by rw [e5, e4]; exact (hk3.st ⟨rfl, Or.inl rfl⟩).st ⟨rfl, Or.inr rfl⟩) (fun y y0 y1 y2 => ?_)
        by_cases q : y = i
        · rw [e5, e4, q]; simp [q_st]
        · have := hy y y0 (by omega) y2
          rw [e5, e4]; simp [q_st, q, this.1, this.2]
  exact ⟨_, fill 24 0 S2 (by omega) (by omega) Kp.rf (fun y a b => by omega)⟩
/-! steps replayed -/
theorem num_c {x : Int} : (x = 48 ∧ num x = -1) ∨ (x ≠ 48 ∧ x < 24 ∧ num x = x) ∨ (x ≠ 48 ∧ 24 ≤ x ∧ num x = 76 + x) := by
  unfold num
  by_cases q : x = 48
  · rw [if_pos q]; exact Or.inl ⟨q, rfl⟩
  · rw [if_neg q]
    by_cases q2 : x < 24
    · rw [if_pos q2]; exact Or.inr (Or.inl ⟨q, q2, rfl⟩)
    · rw [if_neg q2]; exact Or.inr (Or.inr ⟨q, by omega, rfl⟩)
theorem num_rng {x : Int} (x0 : 0 ≤ x) (x1 : x ≤ 48) : -1 ≤ num x ∧ num x ≤ 123 := by have := num_c (x := x); omega
theorem s_Mo_slot_num {Λ : QLay} {x : Int} {S : QMem} {Q : Int → QMem → Prop} (x0 : 0 ≤ x) (x1 : x ≤ 48) (hq : Q x S) : w_Mo_slot Λ (num x) S Q := by
  have hc := num_c (x := x)
  generalize num x = v at hc
  unfold w_Mo_slot
  refine ⟨by unfold inR; omega, fun z => ?_, fun z => ?_⟩
  · refine s_Mo_in (by unfold inR; omega) (by unfold inR; omega) (by unfold inR; omega) (fun w => ⟨by unfold inR; omega, fun v => by omega, fun _ => ?_⟩) (fun w => ⟨by unfold inR; omega, fun _ => ?_, fun v => absurd rfl v⟩)
    · rw [show v = x by omega]; exact hq
    · refine s_Mo_in (by unfold inR; omega) (by unfold inR; omega) (by unfold inR; omega) (fun w => ⟨by unfold inR; omega, fun v => by omega, fun _ => ?_⟩) (fun w => by omega)
      rw [show v - 76 = x by omega]; exact hq
  · rw [show x = 48 by omega] at hq; exact hq
theorem s_Mo_slot_none {Λ : QLay} {v : Int} {S : QMem} {Q : Int → QMem → Prop} (hv : v = -15) (hq : Q (-1) S) : w_Mo_slot Λ v S Q := by
  unfold w_Mo_slot
  refine ⟨by unfold inR; omega, fun z => ?_, fun z => by omega⟩
  refine s_Mo_in (by unfold inR; omega) (by unfold inR; omega) (by unfold inR; omega) (fun w => by omega) (fun w => ⟨by unfold inR; omega, fun _ => ?_, fun v => absurd rfl v⟩)
  exact s_Mo_in (by unfold inR; omega) (by unfold inR; omega) (by unfold inR; omega) (fun w => by omega) (fun w => ⟨by unfold inR; omega, fun _ => hq, fun v => absurd rfl v⟩)
abbrev Pgt (m : Nat) : Nat → Nat → Prop := fun o f => o = m ∧ (f = 6 ∨ (25 ≤ f ∧ f ≤ 29))
theorem s_Mo_goesTo {Λ : QLay} {m : Nat} {S : QMem} {Q : QMem → Prop} {t0 : TT} {Z : ZZ} {n : Nat} (hT : mT S m 0 t0) (w0 : wfT t0) (hZ : okZ (W0 t0) Z) (hst : ∀ i : Nat, i < zn Z → MSt S m (i : Int) (zs Z i)) (hn : n ≤ zn Z) (h96 : zn Z ≤ 96)
    (hq : ∀ S', Kp (Pgt m) S S' → MW S' m (rn (zs Z) (W0 t0) n) → S'.1 m 6 0 = (n : Int) → Q S') : w_Mo_goesTo Λ m (n : Int) S Q := by
  have hwf := okZ_wf (wfW_W0 w0) (rgW_W0 w0) hZ
  unfold w_Mo_goesTo
  refine s_Mo_copyBegins hT w0 (Or.inl rfl) (fun S1 hk1 hM1 => ?_)
  have key : ∀ (f k : Nat) (S2 : QMem), k + f = n → Kp (Pmw m) S S2 → MW S2 m (rn (zs Z) (W0 t0) k) → w_Mo_goesTo_7 Λ Q (f + 1) m (n : Int) (6 * (k : Int)) S2 := by
    intro f
    induction f with
    | zero =>
      intro k S2 hk k2 hM2
      rw [w_Mo_goesTo_7]
      refine ⟨by unfold inR; omega, by unfold inR; omega, fun _ => ?_, fun z => by omega⟩
      intro S3 e3
      have k3 : Kp (fun o f => o = m ∧ f = 6) S2 S3 := by rw [e3]; exact Kp.rf.st ⟨rfl, rfl⟩
      refine hq S3 ((k2.mono (fun o f z => ⟨z.1, Or.inr z.2⟩)).tr (k3.mono (fun o f z => ⟨z.1, Or.inl z.2⟩))) ?_ (by rw [e3]; simp [q_st])
      rw [show n = k by omega]
      exact MW_kp k3 (fun f f0 f1 z => by have := z.2; omega) hM2
    | succ f ih =>
      intro k S2 hk k2 hM2
      have ihk := ih (k + 1)
      rw [show 6 * ((k + 1 : Nat) : Int) = 6 * (k : Int) + 6 by omega] at ihk
      have ok := hZ.2 k (by omega)
      have ms := hst k (by omega)
      have rd : ∀ S3, Kp (Pmw m) S S3 → ∀ j, 0 ≤ j → j < 6 → S3.1 m 30 (6 * (k : Int) + j) = tl6 (zs Z k) j := fun S3 k3 j j0 j1 => by rw [k3.at (fun z => by have := z.2; omega)]; exact ms j j0 j1
      have hwk := (hwf k (by omega)).1
      have en : rn (zs Z) (W0 t0) (k + 1) = ap (rn (zs Z) (W0 t0) k) (zs Z k) := rfl
      have r0 : ∀ S3, Kp (Pmw m) S S3 → S3.1 m 30 (6 * (k : Int)) = sk (zs Z k) := fun S3 k3 => by
        have := rd S3 k3 0 (by omega) (by omega)
        rw [Int.add_zero] at this
        exact this
      rw [w_Mo_goesTo_7]
      refine ⟨by unfold inR; omega, by unfold inR; omega, fun z => by omega, fun _ => ⟨by omega, ?_⟩⟩
      have r1 := rd S2 k2 1 (by omega) (by omega)
      have t1 : tl6 (zs Z k) 1 = num (sr (zs Z k)) := rfl
      rw [r1, t1]
      refine s_Mo_slot_num ok.1.1 (by have := ok.1.2; omega) ⟨by omega, ?_⟩
      have r2 := rd S2 k2 2 (by omega) (by omega)
      have t2 : tl6 (zs Z k) 2 = if sk (zs Z k) = 1 ∨ sk (zs Z k) = 2 then num (su (zs Z k)) else -15 := rfl
      rw [r2, t2]
      obtain ⟨hr, z | z | z | z⟩ := ok
      · have zk := z.1
        rw [if_neg (by omega)]
        refine s_Mo_slot_none rfl ?_
        rw [r0 S2 k2, zk]
        refine ⟨by omega, by unfold inR; omega, fun w => absurd rfl w, fun _ => ⟨by omega, by omega, ?_⟩⟩
        have r5 := rd S2 k2 5 (by omega) (by omega)
        have t5 : tl6 (zs Z k) 5 = if sk (zs Z k) = 0 ∨ sk (zs Z k) = 1 then sv (zs Z k) else -15 := rfl
        rw [r5, t5, if_pos (Or.inl zk)]
        intro S3 e3
        have k3 : Kp (fun o f => o = m ∧ f = 27) S2 S3 := by rw [e3]; exact Kp.rf.st ⟨rfl, rfl⟩
        refine ihk S3 (by omega) (k2.tr (k3.mono (fun o f z => ⟨z.1, by have := z.2; omega, by have := z.2; omega⟩))) ?_
        rw [en, ap_0 zk]
        refine ⟨fun q q0 q1 => ?_, coh_ext (coh_val hM2.2) (fun u _ _ => k3.at (by omega)) (fun u i _ _ _ _ => k3.at (by omega))⟩
        have h1 := hM2.1 q q0 q1
        refine ⟨by rw [k3.at (by omega)]; exact h1.1, fun p => ⟨by rw [k3.at (by omega)]; exact (h1.2 p).1, ?_⟩⟩
        show S3.1 m 27 q = up (wv (rn (zs Z) (W0 t0) k)) (sr (zs Z k)) (sv (zs Z k)) q
        by_cases qq : q = sr (zs Z k)
        · rw [qq, up_s, e3]; simp [q_st]
        · rw [up_n _ _ qq, e3]; simp [q_st, qq]; exact (h1.2 p).2
      · have zk := z.1
        rw [if_pos (Or.inl zk)]
        refine s_Mo_slot_num z.2.2.1.1 z.2.2.1.2 ?_
        rw [r0 S2 k2, zk]
        refine ⟨by omega, by unfold inR; omega, fun _ => ⟨by omega, by unfold inR; omega, fun w => absurd rfl w, fun _ => ⟨by omega, by omega, ?_⟩⟩, fun w => by omega⟩
        have r4 := rd S2 k2 4 (by omega) (by omega)
        have t4 : tl6 (zs Z k) 4 = if sk (zs Z k) = 1 then sl (zs Z k) else -15 := rfl
        rw [r4, t4, if_pos zk]
        intro S3 e3
        have k3 : Kp (fun o f => o = m ∧ (f = 26 ∨ f = 27)) S2 S3 := by rw [e3]; exact Kp.rf.st ⟨rfl, Or.inl rfl⟩
        have K3 : Kp (Pmw m) S S3 := k2.tr (k3.mono (fun o f z => ⟨z.1, by have := z.2; omega, by have := z.2; omega⟩))
        have r5 := rd S3 K3 5 (by omega) (by omega)
        have t5 : tl6 (zs Z k) 5 = if sk (zs Z k) = 0 ∨ sk (zs Z k) = 1 then sv (zs Z k) else -15 := rfl
        rw [r5, t5, if_pos (Or.inr zk)]
        refine ⟨by omega, by omega, ?_⟩
        intro S4 e4
        have k4 : Kp (fun o f => o = m ∧ (f = 26 ∨ f = 27)) S2 S4 := by rw [e4]; exact k3.st ⟨rfl, Or.inr rfl⟩
        have K4 : Kp (Pmw m) S S4 := k2.tr (k4.mono (fun o f z => ⟨z.1, by have := z.2; omega, by have := z.2; omega⟩))
        have r3 := rd S4 K4 3 (by omega) (by omega)
        have t3 : tl6 (zs Z k) 3 = if sk (zs Z k) = 1 ∨ sk (zs Z k) = 2 then sp (zs Z k) else -15 := rfl
        rw [r3, t3, if_pos (Or.inl zk)]
        have M4 : MW S4 m (labW (rn (zs Z) (W0 t0) k) (sr (zs Z k)) (sl (zs Z k)) (sv (zs Z k))) := by
          refine ⟨fun q q0 q1 => ?_, coh_ext (coh_lab hM2.2) (fun u _ _ => k4.at (by omega)) (fun u i _ _ _ _ => k4.at (by omega))⟩
          have h1 := hM2.1 q q0 q1
          refine ⟨by rw [k4.at (by omega)]; exact h1.1, fun p => ?_⟩
          have qq : q ≠ sr (zs Z k) := fun e => p (by rw [e]; exact z.2.1)
          show S4.1 m 26 q = up (wl (rn (zs Z) (W0 t0) k)) (sr (zs Z k)) (sl (zs Z k)) q ∧ S4.1 m 27 q = up (wv (rn (zs Z) (W0 t0) k)) (sr (zs Z k)) (sv (zs Z k)) q
          rw [up_n _ _ qq, up_n _ _ qq, e4, e3]; simp [q_st, qq]; exact h1.2 p
        have lv4 : S4.1 m 26 (sr (zs Z k)) = wl (labW (rn (zs Z) (W0 t0) k) (sr (zs Z k)) (sl (zs Z k)) (sv (zs Z k))) (sr (zs Z k)) ∧ S4.1 m 27 (sr (zs Z k)) = wv (labW (rn (zs Z) (W0 t0) k) (sr (zs Z k)) (sl (zs Z k)) (sv (zs Z k))) (sr (zs Z k)) := by
          show _ = up (wl (rn (zs Z) (W0 t0) k)) (sr (zs Z k)) (sl (zs Z k)) (sr (zs Z k)) ∧ _ = up (wv (rn (zs Z) (W0 t0) k)) (sr (zs Z k)) (sv (zs Z k)) (sr (zs Z k))
          rw [up_s, up_s, e4, e3]; simp [q_st]
        refine ⟨by omega, s_Mo_putsIn M4 hr.1 hr.2 z.2.1 z.2.2.1.1 z.2.2.1.2 z.2.2.2.1.1 (okA_km M4.2 z.2.2.1.1 z.2.2.1.2 z.2.2.2.1) lv4 (fun S5 hk5 hM5 _ => ihk S5 (by omega) (K4.tr hk5) ?_)⟩
        rw [en, ap_1 zk]
        exact hM5
      · have zk := z.1
        rw [if_pos (Or.inr zk)]
        refine s_Mo_slot_num z.2.2.1.1 z.2.2.1.2 ?_
        rw [r0 S2 k2, zk]
        refine ⟨by omega, by unfold inR; omega, fun _ => ⟨by omega, by unfold inR; omega, fun _ => ?_, fun w => by omega⟩, fun w => by omega⟩
        have cx := (hM2.1 _ hr.1 hr.2).2 z.2.1
        refine s_Mo_takesOut hM2 hr.1 hr.2 z.2.1 (fun S3 hk3 hM3 hl3 => ?_)
        have K3 := k2.tr hk3
        rw [r0 S3 K3, zk]
        refine ⟨by omega, by unfold inR; omega, fun w => absurd rfl w, fun _ => ⟨by omega, ?_⟩⟩
        have r3 := rd S3 K3 3 (by omega) (by omega)
        have t3 : tl6 (zs Z k) 3 = if sk (zs Z k) = 1 ∨ sk (zs Z k) = 2 then sp (zs Z k) else -15 := rfl
        rw [r3, t3, if_pos (Or.inr zk)]
        refine s_Mo_putsIn hM3 hr.1 hr.2 (out_self _ _) z.2.2.1.1 z.2.2.1.2 z.2.2.2.1.1 (okA_km hM3.2 z.2.2.1.1 z.2.2.1.2 z.2.2.2.1) ⟨by rw [hl3 26 _ (Or.inl rfl)]; exact cx.1, by rw [hl3 27 _ (Or.inr rfl)]; exact cx.2⟩ (fun S5 hk5 hM5 _ => ihk S5 (by omega) (K3.tr hk5) ?_)
        rw [en, ap_2 zk]
        exact hM5
      · have zk := z.1
        rw [if_neg (by omega)]
        refine s_Mo_slot_none rfl ?_
        rw [r0 S2 k2, zk]
        refine ⟨by omega, by unfold inR; omega, fun _ => ⟨by omega, by unfold inR; omega, fun _ => ?_, fun w => by omega⟩, fun w => by omega⟩
        refine s_Mo_takesOut hM2 hr.1 hr.2 z.2.1 (fun S3 hk3 hM3 hl3 => ?_)
        have K3 := k2.tr hk3
        rw [r0 S3 K3, zk]
        refine ⟨by omega, by unfold inR; omega, fun _ => ihk S3 (by omega) K3 ?_, fun w => by omega⟩
        rw [en, ap_3 zk]
        exact hM3
  have := key n 0 S1 (by omega) hk1 hM1
  rw [show 6 * ((0 : Nat) : Int) = 0 by omega] at this
  exact ⟨_, this⟩
