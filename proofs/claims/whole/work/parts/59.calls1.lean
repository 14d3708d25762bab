/-! the calls, first part -/
section
variable {Λ : QLay} {T m : Nat} {ix : Nat → Nat} {S : QMem} {t0 t1 : TT} {l p : Int} {n : Nat} {o : OB}
/-- what is asked of a pair of calls -/
def Nxt (Λ : QLay) (T m : Nat) (ix : Nat → Nat) (S : QMem) : Prop := ∃ t0 t1 l p n o, IV Λ T m ix S t0 t1 l p n o
def PCm (k f : Nat) : Prop := (k = 0 ∧ f = 11) ∨ k = 6 ∨ k = 7 ∨ k = 11 ∨ 100 ≤ k
def PFi (k f : Nat) : Prop := k = 1 ∧ (f = 6 ∨ f = 14 ∨ f = 15 ∨ (20 ≤ f ∧ f ≤ 36))
theorem Zs_ok (w0 : wfT t0) (w1 : wfT t1) : okZ (W0 t0) (Zs_ t0 t1 l p) ∧ zn (Zs_ t0 t1 l p) ≤ 96 := scF_ok w0 w1 (matF_ok w0 w1)
theorem Wn_ok (w0 : wfT t0) (w1 : wfT t1) (hn : n ≤ zn (Zs_ t0 t1 l p)) : wfW (Wn_ t0 t1 l p n) ∧ rgW (Wn_ t0 t1 l p n) := okZ_wf (wfW_W0 w0) (rgW_W0 w0) (Zs_ok w0 w1).1 n hn
theorem s_TD_compare {Q : QMem → Prop} (hs : SP Λ T m ix) (hi : IV Λ T m ix S t0 t1 l p n o)
    (hq : ∀ S', IV Λ T m ix S' t0 t1 l p n o → S'.1 T 11 0 = 1 → CM S' (yR Λ T 4 0) t0 (Pm_ t0 t1 l p) → CZ Λ S' (yR Λ T 5 0) t1 (Zs_ t0 t1 l p) → KI ix PCm S S' → Q S') : w_TD_compare Λ T S Q := by
  have hss := hs
  obtain ⟨i1, i2, i3, i4, i5, i6, i7, i8, i9, i10, i11, i12⟩ := hi
  obtain ⟨a0, a1, a2, a3, a4, a5, a6, a7, a8, a9, a10, a11, a12, a13, a14, a15⟩ := hs
  have w0 := i3.2.2.1
  have w1 := i3.2.2.2
  obtain ⟨r0, r1, rne⟩ := iTR_r i2
  unfold w_TD_compare
  rcases i8 with z | ⟨z1, z2, z3⟩
  · rw [z]
    refine ⟨by unfold inR; omega, fun w => absurd rfl w, fun _ => ?_⟩
    have t0ma : S.2 (yR Λ T 1 0) 0 ≠ yR Λ T 4 0 := fun e => by rw [e, a6] at r0; omega
    have t1ma : S.2 (yR Λ T 1 0) 1 ≠ yR Λ T 4 0 := fun e => by rw [e, a6] at r1; omega
    refine s_Ma_find (least := l) (per := p) i3 t0ma t1ma (ix_ne a3 a6 (by decide)) i5.1.1 i5.1.2.2 i5.2.1 i5.2.2.2 (fun S1 hk1 hC1 => ?_)
    have K1 := kiO a6 hk1
    have W1 : WC (yR Λ T 1 0) S1 t0 t1 := WC_sg i2 (K1.sg (fun k f i y => by unfold RTC at y; omega)) i3
    have psc : ∀ {a f : Nat}, (ix a < 7 ∨ (11 < ix a ∧ ix a < 100)) → ¬ Psc Λ (yR Λ T 5 0) a f := fun {a f} ha y => by
      rcases y with y | y | ⟨i, y0, y1, y⟩
      · rw [y, a7] at ha; omega
      · rw [y, a11] at ha; omega
      · rw [y, a15 i y0 y1] at ha; omega
    refine s_Sc_make (SP_sc hss) W1 hC1 (matF_ok w0 w1) (fun f => psc (by rw [hk1.1]; omega)) (fun f => psc (by rw [hk1.1]; omega)) (fun f => psc (by rw [a6]; omega)) (fun S2 hk2 hZ2 => ?_)
    have K2 := kiSc hss hk2
    intro S3 e3
    have K3 := ki1 a0 e3
    have KA : KI ix PCm S S3 := ((K1.mono (fun k f y => Or.inr (Or.inl y))).tr (K2.mono (fun k f y => by omega))).tr (K3.mono (fun k f y => Or.inl y))
    have hC3 : CM S3 (yR Λ T 4 0) t0 (Pm_ t0 t1 l p) := by
      refine CM_sg (fun f i => ?_) hC1
      rw [e3]
      have ne : ¬ yR Λ T 4 0 = T := ix_ne a6 a0 (by decide)
      simp [q_st, ne]
      exact hk2.at (psc (by rw [a6]; omega))
    have hZ3 : CZ Λ S3 (yR Λ T 5 0) t1 (Zs_ t0 t1 l p) := by
      have k3 : Kp (fun o _ => o = T) S2 S3 := by rw [e3]; exact Kp.rf.st rfl
      exact CZ_kp k3 hZ2 (Zs_ok w0 w1).2 (fun f _ => ix_ne a7 a0 (by decide)) (fun f => ix_ne a11 a0 (by decide)) (fun i f i0 i1 => ix_ne (a15 i i0 i1) a0 (by omega))
    have hT3 : S3.1 T 11 0 = 1 := by rw [e3]; simp [q_st]
    refine hq S3 ⟨iTX_sg hss (KA.sg (fun k f i y => by unfold RTX at y; unfold PCm; omega)) i1, iTR_sg KA.1 i2, WC_sg i2 (KA.sg (fun k f i y => by unfold RTC at y; unfold PCm; omega)) i3, WM_sg a1 (KA.sg (fun k f i y => by unfold RTM at y; unfold PCm; omega)) i4, iLP_sg hss (KA.sg (fun k f i y => by unfold RLP at y; unfold PCm; omega)) i5, ⟨iSV_sg (Or.inl rfl) hss i2 (KA.sg (fun k f i y => by unfold RSV at y; unfold PCm; omega)) i6.1, iSV_sg (Or.inr rfl) hss i2 (KA.sg (fun k f i y => by unfold RSV at y; unfold PCm; omega)) i6.2⟩, iRG_sg a1 (KA.sg (fun k f i y => by unfold RRG at y; unfold PCm; omega)) i7, Or.inr ⟨hT3, hC3, hZ3⟩, iAM_sg a1 (KA.sg (fun k f i y => by unfold RAM at y; unfold PCm; omega)) i9, iWK_sg hss (KA.sg (fun k f i y => by unfold RWK at y; unfold PCm; omega)) i10, iDI_sg a0 (KA.sg (fun k f i y => by unfold RDI at y; unfold PCm; omega)) i11, iOU_sg hss (KA.sg (fun k f i y => by unfold ROU at y; unfold PCm; omega)) i12⟩ hT3 hC3 hZ3 KA
  · rw [z1]
    exact ⟨by unfold inR; omega, fun _ => hq S ⟨i1, i2, i3, i4, i5, i6, i7, Or.inr ⟨z1, z2, z3⟩, i9, i10, i11, i12⟩ z1 z2 z3 KI.rf, fun w => by omega⟩
theorem s_Mo_finds {Q : QMem → Prop} (hs : SP Λ T m ix) (hi : IV Λ T m ix S t0 t1 l p n o)
    (hq : ∀ S', IV Λ T m ix S' t0 t1 l p n o → S'.1 m 20 0 = 1 → MX S' m (Pm_ t0 t1 l p) → S'.1 m 31 0 = (zn (Zs_ t0 t1 l p) : Int) → (∀ i : Nat, i < zn (Zs_ t0 t1 l p) → MSt S' m (i : Int) (zs (Zs_ t0 t1 l p) i)) → MW S' m (Wn_ t0 t1 l p n) → KI ix PFi S S' → Q S') : w_Mo_finds Λ m S Q := by
  have hss := hs
  obtain ⟨i1, i2, i3, i4, i5, i6, i7, i8, i9, i10, i11, i12⟩ := hi
  have a0 := hs.1
  have a1 := hs.2.1
  have w0 := i3.2.2.1
  have w1 := i3.2.2.2
  have hP := matF_ok (least := l) (per := p) w0 w1
  have hzs := Zs_ok (l := l) (p := p) w0 w1
  unfold w_Mo_finds
  rcases i9 with z | ⟨z1, z2, z3, z4, z5⟩
  · rw [z]
    refine ⟨by unfold inR; omega, fun _ => ?_, fun w => absurd rfl w⟩
    have n0 := i10.2.2.2.2.2 z
    refine s_Mo_matches (least := l) (per := p) i4 i5.1.2.1 i5.1.2.2 i5.2.2.1 i5.2.2.2 (fun S1 hk1 hX1 _ => ?_)
    have K1 := kiM a1 hk1
    have W1 := WM_kp hk1 Pmt_n i4
    refine s_Mo_writes W1 hX1 hP (fun S2 hk2 hZ2 => ?_)
    have K2 := kiM a1 hk2
    intro S3 e3
    have k3 : Kp (fun o f => o = m ∧ f = 20) S2 S3 := by rw [e3]; exact Kp.rf.st ⟨rfl, rfl⟩
    have K3 := kiM a1 k3
    have W3 : WM m S3 t0 t1 := WM_kp k3 (fun f hf y => by have := y.2; omega) (WM_kp hk2 Pmo_n W1)
    have e6 : S3.1 m 6 0 = ((0 : Nat) : Int) := by
      rw [k3.at (by omega), hk2.at (fun y => by have := y.2; omega), hk1.at (fun y => by have := y.2; omega), i10.2.1, n0]
    rw [e6]
    refine s_Mo_goesTo (Z := Zs_ t0 t1 l p) W3.1 w0 hzs.1 (fun i hi => MSt_kp k3 (by omega) (hZ2.2.2.1 i hi)) (Nat.zero_le _) hzs.2 (fun S4 hk4 hM4 h64 => ?_)
    have K4 := kiM a1 hk4
    have KA : KI ix PFi S S4 := (((K1.mono (fun k f y => by unfold PFi; omega)).tr (K2.mono (fun k f y => by unfold PFi; omega))).tr (K3.mono (fun k f y => by unfold PFi; omega))).tr (K4.mono (fun k f y => by unfold PFi; omega))
    have hX4 : MX S4 m (Pm_ t0 t1 l p) := fun i i0 i1' => by
      rw [hk4.at (by omega), hk4.at (by omega), hk4.at (by omega), k3.at (by omega), k3.at (by omega), k3.at (by omega), hk2.at (by omega), hk2.at (by omega), hk2.at (by omega)]
      exact hX1 i i0 i1'
    have h20 : S4.1 m 20 0 = 1 := by rw [hk4.at (by omega), e3]; simp [q_st]
    have h31 : S4.1 m 31 0 = (zn (Zs_ t0 t1 l p) : Int) := by rw [hk4.at (by omega), k3.at (by omega)]; exact hZ2.2.1
    have hst : ∀ i : Nat, i < zn (Zs_ t0 t1 l p) → MSt S4 m (i : Int) (zs (Zs_ t0 t1 l p) i) := fun i hi => MSt_kp hk4 (by omega) (MSt_kp k3 (by omega) (hZ2.2.2.1 i hi))
    have hMn : MW S4 m (Wn_ t0 t1 l p n) := by rw [n0]; exact hM4
    have e13 : S4.1 T 13 0 = (n : Int) := by rw [KA.at a0 (by unfold PFi; omega)]; exact i10.1
    have kW : Sg ix (fun k _ _ => k = 9) S S4 := KA.sg (fun k f i y => by unfold PFi; omega)
    have a9 := hs.2.2.2.2.2.2.2.2.2.1
    have e9 : ∀ f i, S4.1 (yR Λ T 7 0) f i = S.1 (yR Λ T 7 0) f i := fun f i => kW.2 _ f i a9
    refine hq S4 ⟨iTX_sg hss (KA.sg (fun k f i y => by unfold RTX at y; unfold PFi; omega)) i1, iTR_sg KA.1 i2, WC_sg i2 (KA.sg (fun k f i y => by unfold RTC at y; unfold PFi; omega)) i3, WM_sg a1 (KA.sg (fun k f i y => by unfold RTM at y; unfold PFi; omega)) i4, iLP_sg hss (KA.sg (fun k f i y => by unfold RLP at y; unfold PFi; omega)) i5, ⟨iSV_sg (Or.inl rfl) hss i2 (KA.sg (fun k f i y => by unfold RSV at y; unfold PFi; omega)) i6.1, iSV_sg (Or.inr rfl) hss i2 (KA.sg (fun k f i y => by unfold RSV at y; unfold PFi; omega)) i6.2⟩, iRG_sg a1 (KA.sg (fun k f i y => by unfold RRG at y; unfold PFi; omega)) i7, iAC_sg hss w0 w1 (KA.sg (fun k f i y => by unfold RAC at y; unfold PFi; omega)) i8, Or.inr ⟨h20, hX4, h31, hst, hMn⟩, ⟨e13, by rw [h64, n0], i10.2.2.1, fun x x0 x1 => by rw [e9, e9, e9, e9]; exact i10.2.2.2.1 x x0 x1, fun x x0 x1 => by rw [e9, e9]; exact i10.2.2.2.2.1 x x0 x1, fun y => by omega⟩, iDI_sg a0 (KA.sg (fun k f i y => by unfold RDI at y; unfold PFi; omega)) i11, iOU_sg hss (KA.sg (fun k f i y => by unfold ROU at y; unfold PFi; omega)) i12⟩ h20 hX4 h31 hst hMn KA
  · rw [z1]
    exact ⟨by unfold inR; omega, fun w => by omega, fun _ => hq S ⟨i1, i2, i3, i4, i5, i6, i7, i8, Or.inr ⟨z1, z2, z3, z4, z5⟩, i10, i11, i12⟩ z1 z2 z3 z4 z5 KI.rf⟩
/-! text -/
theorem c_append {c : Int} (hs : SP Λ T m ix) (hc : inR c) (hi : IV Λ T m ix S t0 t1 l p n o) : w_TD_append Λ T c S (fun r S1 => w_Mo_append Λ m c S1 (fun r2 S2 => r = r2 ∧ Nxt Λ T m ix S2)) := by
  have hss := hs
  obtain ⟨a0, a1, a2, _⟩ := hs
  have nx : Nxt Λ T m ix S := ⟨_, _, _, _, _, _, hi⟩
  obtain ⟨len, b1, b2, b3, b4⟩ := hi.1
  have bad : ¬ (0 ≤ c ∧ c ≤ 127) → w_Mo_append Λ m c S (fun r2 S2 => -12 = r2 ∧ Nxt Λ T m ix S2) := fun h => by
    unfold w_Mo_append
    exact s_Mo_in hc (by unfold inR; omega) (by unfold inR; omega) (fun z => absurd z h) (fun _ => ⟨by unfold inR; omega, fun z => absurd rfl z, fun _ => ⟨rfl, nx⟩⟩)
  unfold w_TD_append
  refine ⟨hc, fun z => bad (by omega), fun z => ⟨hc, fun z2 => ?_, fun z2 => bad (by omega)⟩⟩
  unfold w_Tx_add
  rw [b1]
  refine ⟨by unfold inR; omega, fun z3 => ⟨by omega, ?_⟩, fun z3 => ⟨by unfold inR; omega, fun _ => ?_, fun y => absurd rfl y⟩⟩
  · intro S1 e1 S2 e2
    refine ⟨by unfold inR; omega, fun y => by omega, fun _ => ?_⟩
    have l1 : S1.1 (yR Λ T 0 0) 1 0 = len := by rw [e1]; simp [q_st, b1]
    rw [l1] at e2
    have r2 : S2.1 (yR Λ T 0 0) 1 0 = len + 1 := by rw [e2]; simp [q_st]
    rw [r2]
    have nm : ¬ m = yR Λ T 0 0 := ix_ne a1 a2 (by decide)
    have nm' : ¬ yR Λ T 0 0 = m := ix_ne a2 a1 (by decide)
    have l2 : S2.1 m 10 0 = len := by rw [e2, e1]; simp [q_st, nm, b2]
    unfold w_Mo_append
    refine s_Mo_in hc (by unfold inR; omega) (by unfold inR; omega) (fun _ => ⟨by unfold inR; omega, fun _ => ?_, fun y => by omega⟩) (fun y => absurd ⟨by omega, z2⟩ y)
    rw [l2]
    refine ⟨by unfold inR; omega, fun _ => ⟨by omega, ?_⟩, fun y => by omega⟩
    intro S3 e3 S4 e4
    have l3 : S3.1 m 10 0 = len := by rw [e3]; simp [q_st, l2]
    rw [l3] at e4
    have r4 : S4.1 m 10 0 = len + 1 := by rw [e4]; simp [q_st]
    rw [r4]
    have K : KI ix (fun k f => (k = 2 ∧ f ≤ 1) ∨ (k = 1 ∧ (f = 9 ∨ f = 10))) S S4 := by
      refine ((((ki1 a2 e1).mono (fun k f y => ?_)).tr ((ki1 a2 e2).mono (fun k f y => ?_))).tr ((ki1 a1 e3).mono (fun k f y => ?_))).tr ((ki1 a1 e4).mono (fun k f y => ?_)) <;> omega
    obtain ⟨i1, i2, i3, i4, i5, i6, i7, i8, i9, i10, i11, i12⟩ := hi
    refine ⟨rfl, _, _, _, _, _, _, ⟨len + 1, ?_, r4, by omega, fun k k0 k1 => ?_⟩, iTR_sg K.1 i2, WC_sg i2 (K.sg (fun k f i y => by unfold RTC at y; omega)) i3, WM_sg a1 (K.sg (fun k f i y => by unfold RTM at y; omega)) i4, iLP_sg hss (K.sg (fun k f i y => by unfold RLP at y; omega)) i5, ⟨iSV_sg (Or.inl rfl) hss i2 (K.sg (fun k f i y => by unfold RSV at y; omega)) i6.1, iSV_sg (Or.inr rfl) hss i2 (K.sg (fun k f i y => by unfold RSV at y; omega)) i6.2⟩, iRG_sg a1 (K.sg (fun k f i y => by unfold RRG at y; omega)) i7, iAC_sg hss i3.2.2.1 i3.2.2.2 (K.sg (fun k f i y => by unfold RAC at y; omega)) i8, iAM_sg a1 (K.sg (fun k f i y => by unfold RAM at y; omega)) i9, iWK_sg hss (K.sg (fun k f i y => by unfold RWK at y; omega)) i10, iDI_sg a0 (K.sg (fun k f i y => by unfold RDI at y; omega)) i11, iOU_sg hss (K.sg (fun k f i y => by unfold ROU at y; omega)) i12⟩
    · rw [e4, e3, e2]; simp [q_st, nm']
    · by_cases q : k = len
      · rw [e4, e3, e2, e1, q]; simp [q_st, nm, nm']; omega
      · have h := b4 k k0 (by omega)
        rw [e4, e3, e2, e1]; simp [q_st, nm, nm', q]; exact h
  · unfold w_Mo_append
    refine s_Mo_in hc (by unfold inR; omega) (by unfold inR; omega) (fun _ => ⟨by unfold inR; omega, fun _ => ?_, fun y => by omega⟩) (fun y => absurd ⟨by omega, z2⟩ y)
    rw [b2]
    exact ⟨by unfold inR; omega, fun y => by omega, fun _ => ⟨rfl, nx⟩⟩
theorem c_clearText (hs : SP Λ T m ix) (hi : IV Λ T m ix S t0 t1 l p n o) : w_TD_clearText Λ T S (fun r S1 => w_Mo_clearText Λ m S1 (fun r2 S2 => r = r2 ∧ Nxt Λ T m ix S2)) := by
  have hss := hs
  obtain ⟨a0, a1, a2, _⟩ := hs
  obtain ⟨len, b1, b2, b3, b4⟩ := hi.1
  unfold w_TD_clearText
  intro r hr S1 e1
  unfold w_Mo_clearText
  intro r2 hr2 S2 e2
  have nm : ¬ m = yR Λ T 0 0 := ix_ne a1 a2 (by decide)
  have nm' : ¬ yR Λ T 0 0 = m := ix_ne a2 a1 (by decide)
  have K : KI ix (fun k f => (k = 2 ∧ f ≤ 1) ∨ (k = 1 ∧ (f = 9 ∨ f = 10))) S S2 := by
    refine ((ki1 a2 e1).mono (fun k f y => ?_)).tr ((ki1 a1 e2).mono (fun k f y => ?_)) <;> omega
  obtain ⟨i1, i2, i3, i4, i5, i6, i7, i8, i9, i10, i11, i12⟩ := hi
  refine ⟨?_, _, _, _, _, _, _, ⟨0, ?_, ?_, by omega, fun k k0 k1 => by omega⟩, iTR_sg K.1 i2, WC_sg i2 (K.sg (fun k f i y => by unfold RTC at y; omega)) i3, WM_sg a1 (K.sg (fun k f i y => by unfold RTM at y; omega)) i4, iLP_sg hss (K.sg (fun k f i y => by unfold RLP at y; omega)) i5, ⟨iSV_sg (Or.inl rfl) hss i2 (K.sg (fun k f i y => by unfold RSV at y; omega)) i6.1, iSV_sg (Or.inr rfl) hss i2 (K.sg (fun k f i y => by unfold RSV at y; omega)) i6.2⟩, iRG_sg a1 (K.sg (fun k f i y => by unfold RRG at y; omega)) i7, iAC_sg hss i3.2.2.1 i3.2.2.2 (K.sg (fun k f i y => by unfold RAC at y; omega)) i8, iAM_sg a1 (K.sg (fun k f i y => by unfold RAM at y; omega)) i9, iWK_sg hss (K.sg (fun k f i y => by unfold RWK at y; omega)) i10, iDI_sg a0 (K.sg (fun k f i y => by unfold RDI at y; omega)) i11, iOU_sg hss (K.sg (fun k f i y => by unfold ROU at y; omega)) i12⟩
  · rw [hr, hr2, e1]; simp [q_st, nm]; omega
  · rw [e2, e1]; simp [q_st, nm']
  · rw [e2]; simp [q_st]
/-- the reader's run depends on the bytes before the end alone -/
theorem prun_ext {b b' : Int → Int} : ∀ (k : Nat) (i : Int) (q : PS), (∀ j, i ≤ j → j < i + k → b j = b' j) → prun b k i q = prun b' k i q
  | 0, _, _, _ => rfl
  | k + 1, i, q, h => by
    unfold prun
    rw [h i (Int.le_refl _) (by omega)]
    cases pstep q (b' i) with
    | none => rfl
    | some q' => exact prun_ext k (i + 1) q' (fun j a b => h j (by omega) (by omega))
theorem c_fault (hs : SP Λ T m ix) (hi : IV Λ T m ix S t0 t1 l p n o) {Q : Int → QMem → Prop}
    (hq : ∀ (r : Int × PS) (len : Int) (S1 : QMem), IV Λ T m ix S1 t0 t1 l p n o → wfP r.2 → (0 ≤ r.1 ∧ r.1 ≤ len ∧ len ≤ 100) → RT Λ (yR Λ T 0 0) S1 r.2 → (∀ Q2 : Int → QMem → Prop, (∀ S2, IV Λ T m ix S2 t0 t1 l p n o → KM m S1 S2 → RM m S2 r.2 → S2.1 m 13 0 = r.1 → Q2 (if pans len r = -15 then 1 else 0) S2) → w_Mo_isText Λ m S1 Q2) → Q (pans len r) S1) : w_Tx_findFault Λ (yR Λ T 0 0) S Q := by
  have hss := hs
  obtain ⟨a0, a1, a2, a3, a4, a5, a6, a7, a8, a9, a10, a11, a12, a13, a14, a15⟩ := hs
  obtain ⟨len, b1, b2, b3, b4⟩ := hi.1
  refine s_Tx_findFault (b := S.1 m 9) (len := len) (ix_ne a2 a14 (by decide)) b1 b3 b4 (fun la va pa S1 hk1 hR1 => ?_)
  have K1 : KI ix NR S S1 := Kp.mono hk1 (fun o f z => by
    rcases z with z | z
    · rw [z.1, a2]; exact Or.inl ⟨rfl, by omega⟩
    · rw [z.1, a14]; unfold NR; omega)
  have I1 := IV_nr hss K1 hi
  have hw := prun_wf (b := S.1 m 9) (len := len) (fun k k0 k1 => (b4 k k0 k1).2) len.toNat 0 (p0 la va pa) (by omega) (by omega) (wfP_0 la va pa)
  refine hq _ len S1 I1 hw.1 ⟨hw.2.1, hw.2.2, b3.2⟩ hR1 (fun Q2 hq2 => ?_)
  have e9 : ∀ i, S1.1 m 9 i = S.1 m 9 i := fun i => K1.at a1 (by unfold NR; omega)
  have e10 : S1.1 m 10 0 = len := by rw [K1.at a1 (by unfold NR; omega)]; exact b2
  refine s_Mo_isText (b := S.1 m 9) (len := len) e10 b3 (fun k k0 k1 => ⟨e9 k, (b4 k k0 k1).2⟩) la va pa (fun S2 hk2 hM2 h13 => ?_)
  exact hq2 S2 (IV_km hss hk2 I1) hk2 hM2 h13
theorem c_faultPosition (hs : SP Λ T m ix) (hi : IV Λ T m ix S t0 t1 l p n o) : w_TD_faultPosition Λ T S (fun r S1 => w_Mo_faultPosition Λ m S1 (fun r2 S2 => r = r2 ∧ Nxt Λ T m ix S2)) := by
  unfold w_TD_faultPosition
  refine c_fault hs hi (fun r len S1 I1 hw hb hR hM => ?_)
  unfold w_Mo_faultPosition
  refine hM _ (fun S2 I2 hk2 hR2 h13 => ?_)
  by_cases q : pans len r = -15
  · rw [if_pos q]
    exact ⟨by unfold inR; omega, fun y => by omega, fun _ => ⟨q, _, _, _, _, _, _, I2⟩⟩
  · rw [if_neg q]
    refine ⟨by unfold inR; omega, fun _ => ⟨?_, _, _, _, _, _, _, I2⟩, fun y => absurd rfl y⟩
    rw [h13]
    by_cases q2 : r.1 = len ∧ r.2.2.2.1 = 0 ∧ ¬ r.2.1 = 0
    · exact absurd (pans_1 q2) q
    · exact pans_2 q2
theorem c_faultDepth (hs : SP Λ T m ix) (hi : IV Λ T m ix S t0 t1 l p n o) : w_TD_faultDepth Λ T S (fun r S1 => w_Mo_faultDepth Λ m S1 (fun r2 S2 => r = r2 ∧ Nxt Λ T m ix S2)) := by
  unfold w_TD_faultDepth
  refine c_fault hs hi (fun r len S1 I1 hw hb hR hM => ?_)
  have pr : inR (pans len r) := by
    unfold pans
    split <;> unfold inR <;> omega
  obtain ⟨rk, st, nd, op, cu, la, va, pa⟩ := r
  have e3 : S1.1 (yR Λ T 0 0) 3 0 = op := hR.2.2.1
  refine ⟨pr, fun z => ?_, fun z => ?_⟩
  · unfold w_Mo_faultDepth
    refine hM _ (fun S2 I2 hk2 hR2 h13 => ?_)
    rw [if_neg z]
    have e15 : S2.1 m 15 0 = op := hR2.2.2.2.1
    exact ⟨by unfold inR; omega, fun _ => ⟨by rw [e3, e15], _, _, _, _, _, _, I2⟩, fun y => absurd rfl y⟩
  · unfold w_Mo_faultDepth
    refine hM _ (fun S2 I2 hk2 hR2 h13 => ?_)
    rw [if_pos z]
    exact ⟨by unfold inR; omega, fun y => by omega, fun _ => ⟨rfl, _, _, _, _, _, _, I2⟩⟩
/-! nodes -/
theorem s_TD_isTree {x : Int} {Q : Int → QMem → Prop} (hx : inR x) (h1 : x = 0 ∨ x = 1 → Q 1 S) (h0 : ¬ (x = 0 ∨ x = 1) → Q 0 S) : w_TD_isTree Λ x S Q := by
  unfold w_TD_isTree
  exact ⟨hx, fun z => h1 (Or.inl z), fun z => ⟨hx, fun w => h0 (by omega), fun w => h1 (Or.inr w)⟩⟩
theorem s_Se_treeOf {se : Nat} {x : Int} {Q : Nat → QMem → Prop} (hx : x = 0 ∨ x = 1) (hq : Q (S.2 se x.toNat) S) : w_Se_treeOf Λ se x S Q := by
  unfold w_Se_treeOf
  rcases hx with e | e <;> rw [e] at hq ⊢
  · exact ⟨by unfold inR; omega, fun z => absurd rfl z, fun _ t ht => by rw [ht]; exact hq⟩
  · exact ⟨by unfold inR; omega, fun _ t ht => by rw [ht]; exact hq, fun z => by omega⟩
def tx_ (t0 t1 : TT) (x : Int) : TT := if x = 0 then t0 else t1
theorem IV_c {x : Int} (hx : x = 0 ∨ x = 1) (hi : IV Λ T m ix S t0 t1 l p n o) : cT S (S.2 (yR Λ T 1 0) x.toNat) (tx_ t0 t1 x) ∧ mT S m x (tx_ t0 t1 x) ∧ wfT (tx_ t0 t1 x) := by
  obtain ⟨i1, i2, i3, i4, _⟩ := hi
  rcases hx with e | e <;> rw [e]
  · exact ⟨i3.1, i4.1, i3.2.2.1⟩
  · exact ⟨i3.2.1, i4.2.1, i3.2.2.2⟩
theorem s_TD_isNode {x k : Int} {Q : Int → QMem → Prop} (hx : inR x) (hk : inR k) (hi : IV Λ T m ix S t0 t1 l p n o) (h1 : (x = 0 ∨ x = 1) → 0 ≤ k → k < tn (tx_ t0 t1 x) → Q 1 S) (h0 : ¬ ((x = 0 ∨ x = 1) ∧ 0 ≤ k ∧ k < tn (tx_ t0 t1 x)) → Q 0 S) : w_TD_isNode Λ T x k S Q := by
  unfold w_TD_isNode
  refine s_TD_isTree hx (fun z => ⟨by unfold inR; omega, fun w => by omega, fun _ => ⟨hk, fun w => h0 (by omega), fun w => ?_⟩⟩) (fun z => ⟨by unfold inR; omega, fun _ => h0 (fun w => z w.1), fun w => absurd rfl w⟩)
  obtain ⟨c, mt, hw⟩ := IV_c z hi
  have n1 := tn_rng hw
  refine s_Se_treeOf z ?_
  rw [c.1]
  exact ⟨hk, by unfold inR; omega, fun y => h0 (by omega), fun y => h1 z (by omega) (by omega)⟩
theorem s_Mo_isNode {x k : Int} {Q : Int → QMem → Prop} (hx : inR x) (hk : inR k) (hi : IV Λ T m ix S t0 t1 l p n o) (h1 : (x = 0 ∨ x = 1) → 0 ≤ k → k < tn (tx_ t0 t1 x) → Q 1 S) (h0 : ¬ ((x = 0 ∨ x = 1) ∧ 0 ≤ k ∧ k < tn (tx_ t0 t1 x)) → Q 0 S) : w_Mo_isNode Λ m x k S Q := by
  unfold w_Mo_isNode
  refine s_Mo_in hx (by unfold inR; omega) (by unfold inR; omega) (fun z => ⟨by unfold inR; omega, fun w => by omega, fun _ => ⟨by omega, ?_⟩⟩) (fun z => ⟨by unfold inR; omega, fun _ => h0 (fun w => by omega), fun w => absurd rfl w⟩)
  have z' : x = 0 ∨ x = 1 := by omega
  obtain ⟨c, mt, hw⟩ := IV_c z' hi
  have n1 := tn_rng hw
  rw [mt.1.1]
  exact s_Mo_in hk (by unfold inR; omega) (by unfold inR; omega) (fun w => ⟨by unfold inR; omega, fun y => by omega, fun _ => h1 z' (by omega) (by omega)⟩) (fun w => ⟨by unfold inR; omega, fun _ => h0 (by omega), fun y => absurd rfl y⟩)
theorem c_nodes {x : Int} (hx : inR x) (hi : IV Λ T m ix S t0 t1 l p n o) : w_TD_nodes Λ T x S (fun r S1 => w_Mo_nodes Λ m x S1 (fun r2 S2 => r = r2 ∧ Nxt Λ T m ix S2)) := by
  have nx : Nxt Λ T m ix S := ⟨_, _, _, _, _, _, hi⟩
  unfold w_TD_nodes
  refine s_TD_isTree hx (fun z => ⟨by unfold inR; omega, fun w => by omega, fun _ => ?_⟩) (fun z => ⟨by unfold inR; omega, fun _ => ?_, fun w => absurd rfl w⟩)
  · obtain ⟨c, mt, hw⟩ := IV_c z hi
    refine s_Se_treeOf z ?_
    unfold w_Mo_nodes
    refine s_Mo_in hx (by unfold inR; omega) (by unfold inR; omega) (fun _ => ⟨by unfold inR; omega, fun w => by omega, fun _ => ⟨by omega, ?_⟩⟩) (fun w => by omega)
    rw [c.1, mt.1.1]
    exact ⟨rfl, nx⟩
  · unfold w_Mo_nodes
    exact s_Mo_in hx (by unfold inR; omega) (by unfold inR; omega) (fun w => by omega) (fun _ => ⟨by unfold inR; omega, fun _ => ⟨rfl, nx⟩, fun w => absurd rfl w⟩)
theorem c_node {x k w : Int} (hx : inR x) (hk : inR k) (hw' : inR w) (hi : IV Λ T m ix S t0 t1 l p n o) : w_TD_node Λ T x k w S (fun r S1 => w_Mo_node Λ m x k w S1 (fun r2 S2 => r = r2 ∧ Nxt Λ T m ix S2)) := by
  have nx : Nxt Λ T m ix S := ⟨_, _, _, _, _, _, hi⟩
  unfold w_TD_node
  refine s_TD_isNode hx hk hi (fun z k0 k1 => ⟨by unfold inR; omega, fun _ => ?_, fun y => by omega⟩) (fun z => ⟨by unfold inR; omega, fun y => absurd rfl y, fun _ => ?_⟩)
  · obtain ⟨c, mt, hw⟩ := IV_c z hi
    have n1 := tn_rng hw
    obtain ⟨c1, c2, c3, c4, c5, c6, c7, c8⟩ := c.2.1 k k0 k1
    refine s_Se_treeOf z ?_
    have go : ∀ v, (w = 0 → v = tl (tx_ t0 t1 x) k) → (w = 1 → v = tv (tx_ t0 t1 x) k) → (w = 2 → v = tp (tx_ t0 t1 x) k) → (w = 3 → v = cnt (tp (tx_ t0 t1 x)) k (tn (tx_ t0 t1 x))) → (w = 4 → v = th (tx_ t0 t1 x) k) → (w = 5 → v = te (tx_ t0 t1 x) k - k - 1) → (w < 0 ∨ 5 < w → v = -12) → w_Mo_node Λ m x k w S (fun r2 S2 => v = r2 ∧ Nxt Λ T m ix S2) := fun v v0 v1 v2 v3 v4 v5 v6 => by
      unfold w_Mo_node
      refine s_Mo_isNode hx hk hi (fun _ _ _ => ⟨by unfold inR; omega, fun _ => ?_, fun y => by omega⟩) (fun y => absurd ⟨z, k0, k1⟩ y)
      dsimp only [w_Mo_at]
      rw [(mt.1.2 k k0 k1).1, (mt.1.2 k k0 k1).2.1, (mt.1.2 k k0 k1).2.2]
      exact ⟨hw', fun y => ⟨by omega, v0 y, nx⟩, fun y => ⟨by omega, v1 y, nx⟩, fun y => ⟨by omega, v2 y, nx⟩, fun y => s_Mo_children mt hw z k0 k1 ⟨v3 y, nx⟩, fun y => s_Mo_height mt hw z k0 k1 ⟨v4 y, nx⟩, fun y => s_Mo_size mt hw z k0 k1 ⟨v5 y, nx⟩, fun y => ⟨v6 y, nx⟩⟩
    refine ⟨hw', fun y => ⟨by omega, ?_⟩, fun y => ⟨by omega, ?_⟩, fun y => ⟨by omega, ?_⟩, fun y => ⟨by omega, ?_⟩, fun y => ⟨by omega, ?_⟩, fun y => ⟨by omega, ?_⟩, fun y => ?_⟩
    · rw [c1]; exact go _ (fun _ => rfl) (fun q => by omega) (fun q => by omega) (fun q => by omega) (fun q => by omega) (fun q => by omega) (fun q => by omega)
    · rw [c2]; exact go _ (fun q => by omega) (fun _ => rfl) (fun q => by omega) (fun q => by omega) (fun q => by omega) (fun q => by omega) (fun q => by omega)
    · rw [c3]; exact go _ (fun q => by omega) (fun q => by omega) (fun _ => rfl) (fun q => by omega) (fun q => by omega) (fun q => by omega) (fun q => by omega)
    · rw [c6]; exact go _ (fun q => by omega) (fun q => by omega) (fun q => by omega) (fun _ => rfl) (fun q => by omega) (fun q => by omega) (fun q => by omega)
    · rw [c8]; exact go _ (fun q => by omega) (fun q => by omega) (fun q => by omega) (fun q => by omega) (fun _ => rfl) (fun q => by omega) (fun q => by omega)
    · rw [c7]; exact go _ (fun q => by omega) (fun q => by omega) (fun q => by omega) (fun q => by omega) (fun q => by omega) (fun _ => rfl) (fun q => by omega)
    · exact go _ (fun q => by omega) (fun q => by omega) (fun q => by omega) (fun q => by omega) (fun q => by omega) (fun q => by omega) (fun _ => rfl)
  · unfold w_Mo_node
    exact s_Mo_isNode hx hk hi (fun a b c => absurd ⟨a, b, c⟩ z) (fun _ => ⟨by unfold inR; omega, fun y => absurd rfl y, fun _ => ⟨rfl, nx⟩⟩)
theorem c_child {x k w : Int} (hx : inR x) (hk : inR k) (hw' : inR w) (hi : IV Λ T m ix S t0 t1 l p n o) : w_TD_child Λ T x k w S (fun r S1 => w_Mo_child Λ m x k w S1 (fun r2 S2 => r = r2 ∧ Nxt Λ T m ix S2)) := by
  have nx : Nxt Λ T m ix S := ⟨_, _, _, _, _, _, hi⟩
  unfold w_TD_child
  refine s_TD_isNode hx hk hi (fun z k0 k1 => ⟨by unfold inR; omega, fun _ => ?_, fun y => by omega⟩) (fun z => ⟨by unfold inR; omega, fun y => absurd rfl y, fun _ => ?_⟩)
  · obtain ⟨c, mt, hw⟩ := IV_c z hi
    refine s_Se_treeOf z ?_
    refine s_Tr_childAt c hw k0 k1 hw' (fun j j0 j1 e1 e2 => ?_) (fun hn => ?_)
    · unfold w_Mo_child
      refine s_Mo_isNode hx hk hi (fun _ _ _ => ⟨by unfold inR; omega, fun y => by omega, fun _ => ?_⟩) (fun y => absurd ⟨z, k0, k1⟩ y)
      exact s_Mo_childAt mt hw z k0 k1 hw' (fun j' j0' j1' e1' e2' => ⟨pl_uniq k0 j0 j0' e1 e1' (by rw [e2, e2']), nx⟩) (fun hn => absurd e2 (hn j j0 j1 e1))
    · unfold w_Mo_child
      refine s_Mo_isNode hx hk hi (fun _ _ _ => ⟨by unfold inR; omega, fun y => by omega, fun _ => ?_⟩) (fun y => absurd ⟨z, k0, k1⟩ y)
      exact s_Mo_childAt mt hw z k0 k1 hw' (fun j' j0' j1' e1' e2' => absurd e2' (hn j' j0' j1' e1')) (fun _ => ⟨rfl, nx⟩)
  · unfold w_Mo_child
    exact s_Mo_isNode hx hk hi (fun a b c => absurd ⟨a, b, c⟩ z) (fun _ => ⟨by unfold inR; omega, fun _ => ⟨rfl, nx⟩, fun y => absurd rfl y⟩)
theorem c_equal {x y : Int} (hx : inR x) (hy : inR y) (hi : IV Λ T m ix S t0 t1 l p n o) : w_TD_equal Λ T x y S (fun r S1 => w_Mo_equal Λ m x y S1 (fun r2 S2 => r = r2 ∧ Nxt Λ T m ix S2)) := by
  have nx : Nxt Λ T m ix S := ⟨_, _, _, _, _, _, hi⟩
  have z0 : inR (0 : Int) := by unfold inR; omega
  have z1 : inR (1 : Int) := by unfold inR; omega
  have bad0 : ¬ (0 ≤ x ∧ x < tn t0) → w_Mo_equal Λ m x y S (fun r2 S2 => -11 = r2 ∧ Nxt Λ T m ix S2) := fun h => by
    unfold w_Mo_equal
    exact s_Mo_isNode z0 hx hi (fun _ b c => absurd ⟨b, c⟩ h) (fun _ => ⟨z0, fun _ => ⟨rfl, nx⟩, fun w => absurd rfl w⟩)
  have bad1 : 0 ≤ x ∧ x < tn t0 → ¬ (0 ≤ y ∧ y < tn t1) → w_Mo_equal Λ m x y S (fun r2 S2 => -11 = r2 ∧ Nxt Λ T m ix S2) := fun g h => by
    unfold w_Mo_equal
    exact s_Mo_isNode z0 hx hi (fun _ b c => ⟨z1, fun w => by omega, fun _ => s_Mo_isNode z1 hy hi (fun _ b c => absurd ⟨b, c⟩ h) (fun _ => ⟨z0, fun w => absurd rfl w, fun _ => ⟨rfl, nx⟩⟩)⟩) (fun w => absurd ⟨Or.inl rfl, g⟩ w)
  have good : ∀ v, 0 ≤ x ∧ x < tn t0 → 0 ≤ y ∧ y < tn t1 → (eqT t0 t1 x y → v = 1) → (¬ eqT t0 t1 x y → v = 0) → w_Mo_equal Λ m x y S (fun r2 S2 => v = r2 ∧ Nxt Λ T m ix S2) := fun v g h e1 e0 => by
    unfold w_Mo_equal
    refine s_Mo_isNode z0 hx hi (fun _ _ _ => ⟨z1, fun w => by omega, fun _ => s_Mo_isNode z1 hy hi (fun _ _ _ => ⟨z1, fun _ => ?_, fun w => by omega⟩) (fun w => absurd ⟨Or.inr rfl, h⟩ w)⟩) (fun w => absurd ⟨Or.inl rfl, g⟩ w)
    exact s_Mo_areEqual hi.2.2.2.1 g.1 g.2 h.1 h.2 (fun e => ⟨z1, fun w => by omega, fun _ => ⟨e1 e, nx⟩⟩) (fun e => ⟨z0, fun _ => ⟨e0 e, nx⟩, fun w => absurd rfl w⟩)
  unfold w_TD_equal
  refine s_TD_isNode z0 hx hi (fun _ b c => ⟨z1, fun w => by omega, fun _ => ?_⟩) (fun w => ⟨z0, fun _ => bad0 (fun q => w ⟨Or.inl rfl, q⟩), fun q => absurd rfl q⟩)
  refine s_TD_isNode z1 hy hi (fun _ b' c' => ⟨z1, fun _ => ?_, fun w => by omega⟩) (fun w => ⟨z0, fun q => absurd rfl q, fun _ => bad1 ⟨b, c⟩ (fun q => w ⟨Or.inr rfl, q⟩)⟩)
  exact s_Se_areEqual hi.2.2.1 b c b' c' (fun e => ⟨z1, fun w => by omega, fun _ => good 1 ⟨b, c⟩ ⟨b', c'⟩ (fun _ => rfl) (fun q => absurd e q)⟩) (fun e => ⟨z0, fun _ => good 0 ⟨b, c⟩ ⟨b', c'⟩ (fun q => absurd q e) (fun _ => rfl), fun w => absurd rfl w⟩)
end
