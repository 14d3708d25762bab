/-! the calls, third part -/
section
variable {Λ : QLay} {T m : Nat} {ix : Nat → Nat} {S : QMem} {t0 t1 : TT} {l p : Int} {n : Nat} {o : OB}
def PPr (k f : Nat) : Prop := k = 10 ∨ k = 12 ∨ (k = 1 ∧ (f = 6 ∨ f = 11 ∨ f = 12 ∨ f = 14 ∨ f = 15 ∨ (20 ≤ f ∧ f ≤ 36) ∨ 41 ≤ f))
/-- both have printed the same tree -/
theorem IV_print {S' : QMem} {o' : OB} (hs : SP Λ T m ix) (hi : IV Λ T m ix S t0 t1 l p n o) (K : KI ix PPr S S') (h20 : S'.1 m 20 0 = 1) (hX : MX S' m (Pm_ t0 t1 l p)) (h31 : S'.1 m 31 0 = (zn (Zs_ t0 t1 l p) : Int)) (hst : ∀ i : Nat, i < zn (Zs_ t0 t1 l p) → MSt S' m (i : Int) (zs (Zs_ t0 t1 l p) i)) (hM : MW S' m (Wn_ t0 t1 l p n)) (h6 : S'.1 m 6 0 = (n : Int)) (hO : iOU Λ T m S' o') : IV Λ T m ix S' t0 t1 l p n o' := by
  have hss := hs
  obtain ⟨a0, a1, a2, a3, a4, a5, a6, a7, a8, a9, _⟩ := hs
  obtain ⟨i1, i2, i3, i4, i5, i6, i7, i8, i9, i10, i11, i12⟩ := hi
  have e9 : ∀ f i, S'.1 (yR Λ T 7 0) f i = S.1 (yR Λ T 7 0) f i := fun f i => K.at a9 (by unfold PPr; omega)
  exact ⟨iTX_sg hss (K.sg (fun k f i y => by unfold RTX at y; unfold PPr; omega)) i1, iTR_sg K.1 i2, WC_sg i2 (K.sg (fun k f i y => by unfold RTC at y; unfold PPr; omega)) i3, WM_sg a1 (K.sg (fun k f i y => by unfold RTM at y; unfold PPr; omega)) i4, iLP_sg hss (K.sg (fun k f i y => by unfold RLP at y; unfold PPr; omega)) i5, ⟨iSV_sg (Or.inl rfl) hss i2 (K.sg (fun k f i y => by unfold RSV at y; unfold PPr; omega)) i6.1, iSV_sg (Or.inr rfl) hss i2 (K.sg (fun k f i y => by unfold RSV at y; unfold PPr; omega)) i6.2⟩, iRG_sg a1 (K.sg (fun k f i y => by unfold RRG at y; unfold PPr; omega)) i7, iAC_sg hss i3.2.2.1 i3.2.2.2 (K.sg (fun k f i y => by unfold RAC at y; unfold PPr; omega)) i8, Or.inr ⟨h20, hX, h31, hst, hM⟩, ⟨by rw [K.at a0 (by unfold PPr; omega)]; exact i10.1, h6, i10.2.2.1, fun x x0 x1 => by rw [e9, e9, e9, e9]; exact i10.2.2.2.1 x x0 x1, fun x x0 x1 => by rw [e9, e9]; exact i10.2.2.2.2.1 x x0 x1, fun y => by omega⟩, iDI_sg a0 (K.sg (fun k f i y => by unfold RDI at y; unfold PPr; omega)) i11, hO⟩
/-- the reference's print, when the class has printed W -/
theorem c_print2 {S1 S2 : QMem} {W : WW} (hs : SP Λ T m ix) (hi : IV Λ T m ix S t0 t1 l p n o) (K1 : KI ix (fun k _ => k = 10 ∨ k = 12) S S1) (hO : OM S1 (yR Λ T 9 0) 0 1 (outO W)) (K2 : KI ix (fun k f => k = 1 ∧ (f = 6 ∨ f = 14 ∨ f = 15 ∨ (20 ≤ f ∧ f ≤ 36))) S1 S2) (h20 : S2.1 m 20 0 = 1) (hX : MX S2 m (Pm_ t0 t1 l p)) (h31 : S2.1 m 31 0 = (zn (Zs_ t0 t1 l p) : Int)) (hst : ∀ i : Nat, i < zn (Zs_ t0 t1 l p) → MSt S2 m (i : Int) (zs (Zs_ t0 t1 l p) i)) (h6 : S2.1 m 6 0 = (n : Int)) (W2 : WM m S2 t0 t1) (hM : MW S2 m W) (hg : rgW W) : w_Mo_print_26 Λ (fun r2 S2 => (outO W).2 = r2 ∧ Nxt Λ T m ix S2) m S2 := by
  have hss := hs
  obtain ⟨a0, a1, a2, a3, a4, a5, a6, a7, a8, a9, a10, a11, a12, _⟩ := hs
  have w0 := W2.2.2.1
  have w1 := W2.2.2.2
  have hz := Zs_ok (l := l) (p := p) w0 w1
  have hn := hi.2.2.2.2.2.2.2.2.2.1.2.2.1
  have rg' := outO_rng (W := W)
  unfold w_Mo_print_26
  refine s_Mo_drafts hM hg (fun S3 hk3 hO3 => ?_)
  have e6 : S3.1 m 6 0 = (n : Int) := by rw [hk3.at (fun y => by have := y.2; omega)]; exact h6
  rw [e6]
  have st3 : ∀ i : Nat, i < zn (Zs_ t0 t1 l p) → MSt S3 m (i : Int) (zs (Zs_ t0 t1 l p) i) := fun i h => MSt_kp hk3 (fun y => by have := y.2; omega) (hst i h)
  have W3 : WM m S3 t0 t1 := WM_kp hk3 (fun f hf y => by have := y.2; omega) W2
  refine s_Mo_goesTo (Z := Zs_ t0 t1 l p) W3.1 w0 hz.1 st3 hn hz.2 (fun S4 hk4 hM4 h64 => ?_)
  have O4 : OM S4 m 41 42 (outO W) := OM_kp hk4 (fun y => by have := y.2; omega) (fun y => by have := y.2; omega) hO3
  have key : ∀ (f : Nat) (i : Int) (S5 : QMem), 0 ≤ i → i + f = (outO W).2 → Kp (fun o f => o = m ∧ f = 11) S4 S5 → (∀ j, 0 ≤ j → j < i → S5.1 m 11 j = (outO W).1 j) → w_Mo_print_40 Λ (fun r2 S2 => (outO W).2 = r2 ∧ Nxt Λ T m ix S2) (f + 1) m i S5 := by
    intro f
    induction f with
    | zero =>
      intro i S5 i0 hii k5 hj
      rw [w_Mo_print_40, k5.at (by omega), O4.1]
      refine ⟨by unfold inR; omega, by unfold inR; omega, fun _ => ?_, fun z => by omega⟩
      intro S6 e6'
      have k6 : Kp (fun o f => o = m ∧ (f = 11 ∨ f = 12)) S4 S6 := by rw [e6']; exact (k5.mono (fun o f y => ⟨y.1, Or.inl y.2⟩)).st ⟨rfl, Or.inr rfl⟩
      have r6 : S6.1 m 12 0 = (outO W).2 := by rw [e6']; simp [q_st]
      have OM6 : OM S6 m 11 12 (outO W) := ⟨r6, fun j j0 j1 => by rw [e6']; simp [q_st]; exact hj j j0 (by omega)⟩
      have KA : KI ix PPr S S6 := ((((K1.mono (fun k f y => by unfold PPr; omega)).tr (K2.mono (fun k f y => by unfold PPr; omega))).tr ((kiM a1 hk3).mono (fun k f y => by unfold PPr; omega))).tr ((kiM a1 hk4).mono (fun k f y => by unfold PPr; omega))).tr ((kiM a1 k6).mono (fun k f y => by unfold PPr; omega))
      have ee : ∀ f i, (20 ≤ f ∧ f ≤ 24) ∨ f = 30 ∨ f = 31 → S6.1 m f i = S2.1 m f i := fun f i hf => by
        rw [k6.at (by omega), hk4.at (by omega), hk3.at (fun y => by have := y.2; omega)]
      have n12 : ∀ f i, S6.1 (yR Λ T 9 0) f i = S1.1 (yR Λ T 9 0) f i := fun f i => by
        rw [(kiM a1 k6).at a12 (by omega), (kiM a1 hk4).at a12 (by omega), (kiM a1 hk3).at a12 (by omega), K2.at a12 (by omega)]
      rw [r6]
      refine ⟨rfl, _, _, _, _, _, _, IV_print hss hi KA (by rw [ee 20 0 (by omega)]; exact h20) (fun i i0 i1 => by rw [ee 21 i (by omega), ee 22 i (by omega), ee 23 i (by omega)]; exact hX i i0 i1) (by rw [ee 31 0 (by omega)]; exact h31) (fun i h j j0 j1 => by rw [ee 30 _ (by omega)]; exact hst i h j j0 j1) (MW_kp k6 (fun f f0 f1 y => by have := y.2; omega) hM4) (by rw [k6.at (by omega)]; exact h64) ⟨⟨by rw [n12]; exact hO.1, fun j j0 j1 => by rw [n12]; exact hO.2 j j0 j1⟩, OM6, rg'⟩⟩
    | succ f ih =>
      intro i S5 i0 hii k5 hj
      rw [w_Mo_print_40, k5.at (o := m) (f := 42) (by omega), O4.1, k5.at (o := m) (f := 41) (by omega), O4.2 i i0 (by omega)]
      refine ⟨by unfold inR; omega, by unfold inR; omega, fun z => by omega, fun _ => ⟨by omega, by omega, ?_⟩⟩
      intro S6 e6'
      refine ih (i + 1) S6 (by omega) (by omega) (by rw [e6']; exact k5.st ⟨rfl, rfl⟩) (fun j j0 j1 => ?_)
      by_cases q : j = i
      · rw [q, e6']; simp [q_st]
      · rw [e6']; simp [q_st, q]; exact hj j j0 (by omega)
  exact ⟨_, key (outO W).2.toNat 0 S4 (by omega) (by omega) Kp.rf (fun j a b => by omega)⟩
theorem c_print {v : Int} (hs : SP Λ T m ix) (hv : inR v) (hi : IV Λ T m ix S t0 t1 l p n o) : w_TD_print Λ T v S (fun r S1 => w_Mo_print Λ m v S1 (fun r2 S2 => r = r2 ∧ Nxt Λ T m ix S2)) := by
  have hss := hs
  obtain ⟨a0, a1, a2, a3, a4, a5, a6, a7, a8, a9, a10, a11, a12, _⟩ := hs
  have w0 := hi.2.2.1.2.2.1
  have w1 := hi.2.2.1.2.2.2
  have i10 := hi.2.2.2.2.2.2.2.2.2.1
  have wfn := Wn_ok (n := n) (l := l) (p := p) w0 w1 i10.2.2.1
  unfold w_TD_print
  refine ⟨hv, fun z => ?_, fun z => ?_⟩
  · refine s_TD_isTree hv (fun z2 => ⟨by unfold inR; omega, fun _ => ?_, fun y => by omega⟩) (fun z2 => ⟨by unfold inR; omega, fun y => absurd rfl y, fun _ => ?_⟩)
    · obtain ⟨c, mt, hw⟩ := IV_c z2 hi
      refine s_Se_treeOf z2 ?_
      obtain ⟨r0, r1, _⟩ := iTR_r hi.2.1
      have hne : S.2 (yR Λ T 1 0) v.toNat ≠ yR Λ T 8 0 := fun e => by
        have e' := congrArg ix e
        rw [a10] at e'
        rcases z2 with q | q <;> rw [q] at e'
        · have e' : ix (S.2 (yR Λ T 1 0) 0) = 10 := e'
          omega
        · have e' : ix (S.2 (yR Λ T 1 0) 1) = 10 := e'
          omega
      refine s_Wt_load c hw hne (fun S1 hk1 hC1 => ?_)
      refine s_Ou_write (ix_ne a10 a12 (by decide)) hC1 (wfW_W0 hw) (rgW_W0 hw) (fun S2 hk2 hO2 => ?_)
      have KA : KI ix (fun k _ => k = 10 ∨ k = 12) S S2 := ((kiO a10 hk1).mono (fun k f y => Or.inl y)).tr ((kiO a12 hk2).mono (fun k f y => Or.inr y))
      rw [hO2.1]
      unfold w_Mo_print
      refine s_Mo_in hv (by unfold inR; omega) (by unfold inR; omega) (fun _ => ⟨by unfold inR; omega, fun _ => ?_, fun y => by omega⟩) (fun y => by omega)
      refine s_Mo_findsC a1 hi (KA.sg (fun k f i y => by omega)) (fun S3 K3 h20 hX h31 hst _ h6 W3 => ⟨hv, fun y => by omega, fun _ => ?_⟩)
      have mt3 : mT S3 m v (tx_ t0 t1 v) := by
        rcases z2 with q | q <;> rw [q]
        · exact W3.1
        · exact W3.2.1
      refine s_Mo_copyBegins mt3 hw z2 (fun S4 hk4 hM4 => ?_)
      refine c_print2 hss hi KA hO2 ((K3.mono (fun k f y => by unfold PFi at y; omega)).tr ((kiM a1 hk4).mono (fun k f y => by omega))) (by rw [hk4.at (fun y => by have := y.2; omega)]; exact h20) (fun i i0 i1 => by rw [hk4.at (fun y => by have := y.2; omega), hk4.at (fun y => by have := y.2; omega), hk4.at (fun y => by have := y.2; omega)]; exact hX i i0 i1) (by rw [hk4.at (fun y => by have := y.2; omega)]; exact h31) (fun i h => MSt_kp hk4 (fun y => by have := y.2; omega) (hst i h)) (by rw [hk4.at (fun y => by have := y.2; omega)]; exact h6) (WM_kp hk4 (fun f hf y => by have := y.2; omega) W3) hM4 (rgW_W0 hw)
    · unfold w_Mo_print
      exact s_Mo_in hv (by unfold inR; omega) (by unfold inR; omega) (fun y => by omega) (fun _ => ⟨by unfold inR; omega, fun y => absurd rfl y, fun _ => ⟨rfl, _, _, _, _, _, _, hi⟩⟩)
  · refine s_Ou_write (ix_ne a9 a12 (by decide)) i10.2.2.2.1 wfn.1 wfn.2 (fun S2 hk2 hO2 => ?_)
    have KA : KI ix (fun k _ => k = 10 ∨ k = 12) S S2 := (kiO a12 hk2).mono (fun k f y => Or.inr y)
    rw [hO2.1]
    unfold w_Mo_print
    refine s_Mo_in hv (by unfold inR; omega) (by unfold inR; omega) (fun _ => ⟨by unfold inR; omega, fun _ => ?_, fun y => by omega⟩) (fun y => by omega)
    refine s_Mo_findsC a1 hi (KA.sg (fun k f i y => by omega)) (fun S3 K3 h20 hX h31 hst hM h6 W3 => ⟨hv, fun _ => ?_, fun y => by omega⟩)
    exact c_print2 hss hi KA hO2 (K3.mono (fun k f y => by unfold PFi at y; omega)) h20 hX h31 hst h6 W3 hM wfn.2
theorem c_printed {v : Int} (hv : inR v) (hi : IV Λ T m ix S t0 t1 l p n o) : w_TD_printed Λ T v S (fun r S1 => w_Mo_printed Λ m v S1 (fun r2 S2 => r = r2 ∧ Nxt Λ T m ix S2)) := by
  have nx : Nxt Λ T m ix S := ⟨_, _, _, _, _, _, hi⟩
  obtain ⟨o1, o2, o3⟩ := hi.2.2.2.2.2.2.2.2.2.2.2
  have bad : ¬ (0 ≤ v ∧ v < o.2) → w_Mo_printed Λ m v S (fun r2 S2 => -11 = r2 ∧ Nxt Λ T m ix S2) := fun h => by
    unfold w_Mo_printed
    rw [o2.1]
    exact s_Mo_in hv (by unfold inR; omega) (by unfold inR; omega) (fun z => by omega) (fun _ => ⟨by unfold inR; omega, fun _ => ⟨rfl, nx⟩, fun y => absurd rfl y⟩)
  unfold w_TD_printed
  rw [o1.1]
  refine ⟨hv, fun z => bad (by omega), fun z => ⟨hv, by unfold inR; omega, fun z2 => ⟨by omega, ?_⟩, fun z2 => bad (by omega)⟩⟩
  rw [o1.2 v (by omega) z2]
  unfold w_Mo_printed
  dsimp only
  rw [o2.1]
  refine s_Mo_in hv (by unfold inR; omega) (by unfold inR; omega) (fun _ => ⟨by unfold inR; omega, fun y => by omega, fun _ => ⟨by omega, ?_⟩⟩) (fun y => by omega)
  rw [o2.2 v (by omega) z2]
  exact ⟨rfl, nx⟩
/-! the checksum -/
def fl (f : Int → Int) : Nat → Int → Int
  | 0, h => h
  | k + 1, h => 31 * fl f k h + f (k : Int)
def fp (P : MM) : Nat → Int → Int
  | 0, h => h
  | k + 1, h => 31 * (31 * fp P k h + on_ (q0 P (k : Int))) + on_ (qh P (k : Int))
def f6 (Z : ZZ) (k : Int) : Int := tl6 (zs Z (k / 6).toNat) (k % 6)
def ck3 (W : OB) (d h : Int) : Int := fl W.1 W.2.toNat (31 * (31 * h + d) + W.2)
def ck2 (Z : ZZ) (h : Int) : Int := fl (f6 Z) (6 * zn Z) (31 * h + (zn Z : Int))
def ck1 (t0 t1 : TT) (P : MM) : Int := fp P (tn t0).toNat (31 * (31 * 71 + tn t0) + tn t1)
theorem s_Mo_ckOut {S1 : QMem} {Q : Int → QMem → Prop} {b : OB} {h : Int} (hO : OM S1 m 41 42 b) (hb : 0 ≤ b.2 ∧ b.2 ≤ 288) (hc : OC b) (hq : Q (fl b.1 b.2.toNat h) S1) : ∃ n140 : Nat, w_Mo_checksum_141 Λ Q n140 m h 0 S1 := by
  have key : ∀ (f i : Nat), (i : Int) + f = b.2 → w_Mo_checksum_141 Λ Q (f + 1) m (fl b.1 i h) (i : Int) S1 := by
    intro f
    induction f with
    | zero =>
      intro i hii
      rw [w_Mo_checksum_141, hO.1]
      refine ⟨by unfold inR; omega, by unfold inR; omega, fun _ => ?_, fun z => by omega⟩
      rw [show b.2.toNat = i by omega] at hq
      exact hq
    | succ f ih =>
      intro i hii
      have ihk := ih (i + 1) (by omega)
      rw [show ((i + 1 : Nat) : Int) = (i : Int) + 1 by omega] at ihk
      have cr := hc (i : Int) (by omega) (by omega)
      rw [w_Mo_checksum_141, hO.1, hO.2 (i : Int) (by omega) (by omega)]
      refine ⟨by unfold inR; omega, by unfold inR; omega, fun z => by omega, fun _ => ⟨by omega, ?_⟩⟩
      unfold w_Mo_more
      refine ⟨by unfold inR; omega, ?_⟩
      intro x hx
      rw [hx]
      exact ihk
  exact ⟨_, key b.2.toNat 0 (by omega)⟩
theorem s_TD_ckOut {S1 : QMem} {Q : Int → QMem → Prop} {b : OB} {h : Int} (hO : OM S1 (yR Λ T 10 0) 0 1 b) (hb : 0 ≤ b.2 ∧ b.2 ≤ 288) (hc : OC b) (hq : Q (fl b.1 b.2.toNat h) S1) : ∃ n216 : Nat, w_TD_checksum_217 Λ Q n216 T h 0 S1 := by
  have key : ∀ (f i : Nat), (i : Int) + f = b.2 → w_TD_checksum_217 Λ Q (f + 1) T (fl b.1 i h) (i : Int) S1 := by
    intro f
    induction f with
    | zero =>
      intro i hii
      rw [w_TD_checksum_217, hO.1]
      refine ⟨by unfold inR; omega, by unfold inR; omega, fun _ => ?_, fun z => by omega⟩
      rw [show b.2.toNat = i by omega] at hq
      exact hq
    | succ f ih =>
      intro i hii
      have ihk := ih (i + 1) (by omega)
      rw [show ((i + 1 : Nat) : Int) = (i : Int) + 1 by omega] at ihk
      have cr := hc (i : Int) (by omega) (by omega)
      rw [w_TD_checksum_217, hO.1, hO.2 (i : Int) (by omega) (by omega)]
      refine ⟨by unfold inR; omega, by unfold inR; omega, fun z => by omega, fun _ => ⟨by omega, by unfold inR; omega, ?_⟩⟩
      intro x hx
      rw [hx]
      exact ihk
  exact ⟨_, key b.2.toNat 0 (by omega)⟩
theorem c_checksum (hs : SP Λ T m ix) (hi : IV Λ T m ix S t0 t1 l p n o) : w_TD_checksum Λ T S (fun r S1 => w_Mo_checksum Λ m S1 (fun r2 S2 => r = r2 ∧ Nxt Λ T m ix S2)) := by
  have hss := hs
  obtain ⟨a0, a1, a2, a3, a4, a5, a6, a7, a8, a9, a10, a11, a12, a13, a14, a15⟩ := hs
  have w0 := hi.2.2.1.2.2.1
  have w1 := hi.2.2.1.2.2.2
  have n0 := tn_rng w0
  have n1 := tn_rng w1
  have hz := Zs_ok (l := l) (p := p) w0 w1
  have hwf := okZ_wf (wfW_W0 w0) (rgW_W0 w0) hz.1
  have hr := MOK_r w0 w1 (matF_ok (least := l) (per := p) w0 w1)
  have hr : (∀ x, 0 ≤ x → x < tn t0 → (-1 ≤ q0 (Pm_ t0 t1 l p) x ∧ q0 (Pm_ t0 t1 l p) x ≤ 24) ∧ (-1 ≤ qh (Pm_ t0 t1 l p) x ∧ qh (Pm_ t0 t1 l p) x ≤ 24)) ∧ _ := hr
  have i10 := hi.2.2.2.2.2.2.2.2.2.1
  have wfn := Wn_ok (n := n) (l := l) (p := p) w0 w1 i10.2.2.1
  have oc := outO_oc wfn.2
  have org := outO_rng (W := Wn_ t0 t1 l p n)
  have f6r : ∀ k : Nat, k < 6 * zn (Zs_ t0 t1 l p) → -15 ≤ f6 (Zs_ t0 t1 l p) (k : Int) ∧ f6 (Zs_ t0 t1 l p) (k : Int) ≤ 200 := fun k hk => by
    have hlt : ((k : Int) / 6).toNat < zn (Zs_ t0 t1 l p) := by omega
    exact tl6_rng (hwf _ (by omega)).1 (hz.1.2 _ hlt) _
  -- the reference
  have modl : ∀ (d : Int) (S1 : QMem), IV Λ T m ix S1 t0 t1 l p n o → isDist t0 t1 d → w_Mo_checksum Λ m S1 (fun r2 S2 => ck3 (outO (Wn_ t0 t1 l p n)) d (ck2 (Zs_ t0 t1 l p) (ck1 t0 t1 (Pm_ t0 t1 l p))) = r2 ∧ Nxt Λ T m ix S2) := fun d S1 I1 hd => by
    have dr : 0 ≤ d ∧ d ≤ 48 := by have := isD_le hd; have := hd.2; omega
    unfold w_Mo_checksum w_Mo_more
    dsimp only
    rw [I1.2.2.2.1.1.1.1, I1.2.2.2.1.2.1.1.1]
    refine ⟨by unfold inR; omega, by unfold inR; omega, ?_⟩
    intro h0 hh0
    refine s_Mo_finds hss I1 (fun S2 I2 _ hX h31 hst hM _ => ?_)
    have fin : ∀ h, w_Mo_distance Λ m S2 (fun (r119 : Int) (S119 : QMem) => w_Mo_more Λ h r119 S119 (fun (r122 : Int) (S122 : QMem) => ∀ x125 : Int, x125 = r122 → w_Mo_drafts Λ m S122 (fun (S127 : QMem) => w_Mo_more Λ x125 (S127.1 m 42 0) S127 (fun (r135 : Int) (S135 : QMem) => ∀ x138 : Int, x138 = r135 → ∃ n140 : Nat, w_Mo_checksum_141 Λ (fun r2 S2 => ck3 (outO (Wn_ t0 t1 l p n)) d h = r2 ∧ Nxt Λ T m ix S2) n140 m x138 0 S135)))) := fun h => by
      refine s_Mo_distance I2.2.2.2.1 (fun d' S3 hk3 hu hd' => ?_)
      unfold w_Mo_more
      rw [hu d hd]
      refine ⟨by unfold inR; omega, ?_⟩
      intro h1 hh1
      have I3 := IV_nr hss ((kiM a1 hk3).mono (fun k f y => by unfold NR; omega)) I2
      have M3 : MW S3 m (Wn_ t0 t1 l p n) := MW_kp hk3 (fun f f0 f1 y => by have := y.2; omega) hM
      refine s_Mo_drafts M3 wfn.2 (fun S4 hk4 hO4 => ?_)
      rw [hO4.1]
      refine ⟨by unfold inR; omega, ?_⟩
      intro h2 hh2
      have I4 := IV_nr hss ((kiM a1 hk4).mono (fun k f y => by unfold NR; omega)) I3
      refine s_Mo_ckOut hO4 org oc ⟨?_, _, _, _, _, _, _, I4⟩
      rw [hh2, hh1]
      rfl
    have flat : ∀ (f k : Nat) (h : Int), k + f = 6 * zn (Zs_ t0 t1 l p) → w_Mo_checksum_89 Λ (fun r2 S2 => ck3 (outO (Wn_ t0 t1 l p n)) d (fl (f6 (Zs_ t0 t1 l p)) (6 * zn (Zs_ t0 t1 l p)) h) = r2 ∧ Nxt Λ T m ix S2) (f + 1) m (fl (f6 (Zs_ t0 t1 l p)) k h) (k : Int) S2 := by
      intro f
      induction f with
      | zero =>
        intro k h hk
        rw [w_Mo_checksum_89, h31]
        refine ⟨by unfold inR; omega, by unfold inR; omega, fun _ => ?_, fun z => by omega⟩
        rw [show k = 6 * zn (Zs_ t0 t1 l p) by omega]
        exact fin _
      | succ f ih =>
        intro k h hk
        have ihk := ih (k + 1) h (by omega)
        rw [show ((k + 1 : Nat) : Int) = (k : Int) + 1 by omega] at ihk
        have rr := f6r k (by omega)
        have rd : S2.1 m 30 (k : Int) = f6 (Zs_ t0 t1 l p) (k : Int) := by
          have hlt : ((k : Int) / 6).toNat < zn (Zs_ t0 t1 l p) := by omega
          have := hst _ hlt ((k : Int) % 6) (by omega) (by omega)
          rw [show 6 * ((((k : Int) / 6).toNat : Nat) : Int) + (k : Int) % 6 = (k : Int) by omega] at this
          exact this
        rw [w_Mo_checksum_89, h31, rd]
        refine ⟨by unfold inR; omega, by unfold inR; omega, fun z => by omega, fun _ => ⟨by omega, ?_⟩⟩
        unfold w_Mo_more
        refine ⟨by unfold inR; omega, ?_⟩
        intro x hx
        rw [hx]
        exact ihk
    have nodes : ∀ (f k : Nat), (k : Int) + f = tn t0 → w_Mo_checksum_28 Λ (fun r2 S2 => ck3 (outO (Wn_ t0 t1 l p n)) d (ck2 (Zs_ t0 t1 l p) (ck1 t0 t1 (Pm_ t0 t1 l p))) = r2 ∧ Nxt Λ T m ix S2) (f + 1) m (fp (Pm_ t0 t1 l p) k (31 * (31 * 71 + tn t0) + tn t1)) (k : Int) S2 := by
      intro f
      induction f with
      | zero =>
        intro k hk
        rw [w_Mo_checksum_28, I2.2.2.2.1.1.1.1, h31]
        refine ⟨by unfold inR; omega, by unfold inR; omega, fun _ => ?_, fun z => by omega⟩
        unfold w_Mo_more
        refine ⟨by unfold inR; omega, ?_⟩
        intro x hx
        rw [hx]
        have := flat (6 * zn (Zs_ t0 t1 l p)) 0 (31 * ck1 t0 t1 (Pm_ t0 t1 l p) + (zn (Zs_ t0 t1 l p) : Int)) (by omega)
        have ec : ck1 t0 t1 (Pm_ t0 t1 l p) = fp (Pm_ t0 t1 l p) k (31 * (31 * 71 + tn t0) + tn t1) := by unfold ck1; rw [show (tn t0).toNat = k by omega]
        rw [← ec]
        exact ⟨_, this⟩
      | succ f ih =>
        intro k hk
        have ihk := ih (k + 1) (by omega)
        rw [show ((k + 1 : Nat) : Int) = (k : Int) + 1 by omega] at ihk
        have rk := hr.1 (k : Int) (by omega) (by omega)
        have o1 := on_rng (v := q0 (Pm_ t0 t1 l p) (k : Int)) (by omega)
        have o2 := on_rng (v := qh (Pm_ t0 t1 l p) (k : Int)) (by omega)
        obtain ⟨x1, _, x3⟩ := hX (k : Int) (by omega) (by omega)
        have x3 : S2.1 m 23 (k : Int) = on_ (qh (Pm_ t0 t1 l p) (k : Int)) := x3
        have tail : ∀ v, v = on_ (q0 (Pm_ t0 t1 l p) (k : Int)) → w_Mo_checksum_59 Λ (fun v0' v1' v3' S' => w_Mo_checksum_28 Λ (fun r2 S2 => ck3 (outO (Wn_ t0 t1 l p n)) d (ck2 (Zs_ t0 t1 l p) (ck1 t0 t1 (Pm_ t0 t1 l p))) = r2 ∧ Nxt Λ T m ix S2) (f + 1) v0' v1' v3' S') (fun r2 S2 => ck3 (outO (Wn_ t0 t1 l p n)) d (ck2 (Zs_ t0 t1 l p) (ck1 t0 t1 (Pm_ t0 t1 l p))) = r2 ∧ Nxt Λ T m ix S2) m (k : Int) (fp (Pm_ t0 t1 l p) k (31 * (31 * 71 + tn t0) + tn t1)) v S2 := fun v hv => by
          unfold w_Mo_checksum_59 w_Mo_more
          dsimp only
          rw [x3, hv]
          refine ⟨by unfold inR; omega, by omega, by unfold inR; omega, ?_⟩
          intro x hx
          rw [hx]
          exact ihk
        rw [w_Mo_checksum_28, I2.2.2.2.1.1.1.1, x1]
        refine ⟨by unfold inR; omega, by unfold inR; omega, fun z => by omega, fun _ => ⟨by omega, by unfold inR; omega, fun z => ⟨by omega, tail _ (by unfold on_; rw [if_neg (by omega)])⟩, fun z => tail _ (by unfold on_; rw [if_pos (by omega)])⟩⟩
    rw [hh0]
    exact ⟨_, nodes (tn t0).toNat 0 (by omega)⟩
  -- the class
  unfold w_TD_checksum
  refine s_TD_compare hss hi (fun S1 I1 _ hC hZ _ => ?_)
  have i10' := I1.2.2.2.2.2.2.2.2.2.1
  intro h0 hh0 a ha
  rw [ha, I1.2.2.1.1.1]
  refine ⟨by unfold inR; omega, ?_⟩
  intro h1 hh1 b hb
  rw [hb, I1.2.2.1.2.1.1]
  refine ⟨by unfold inR; omega, ?_⟩
  intro h2 hh2
  have fin : ∀ h, w_TD_distance Λ T S1 (fun (r183 : Int) (S183 : QMem) => inR r183 ∧ ∀ x188 : Int, x188 = ((31 * h) + r183) → w_Ou_write Λ (yR Λ T 10 0) (yR Λ T 7 0) S183 (fun (S197 : QMem) => inR (S197.1 (yR Λ T 10 0) 1 0) ∧ ∀ x214 : Int, x214 = ((31 * x188) + (S197.1 (yR Λ T 10 0) 1 0)) → ∃ n216 : Nat, w_TD_checksum_217 Λ (fun r S1 => w_Mo_checksum Λ m S1 (fun r2 S2 => r = r2 ∧ Nxt Λ T m ix S2)) n216 T x214 0 S197)) ∨ h ≠ ck2 (Zs_ t0 t1 l p) (ck1 t0 t1 (Pm_ t0 t1 l p)) := fun h => by
    by_cases q : h = ck2 (Zs_ t0 t1 l p) (ck1 t0 t1 (Pm_ t0 t1 l p))
    · left
      refine s_TD_distance hss I1 (fun d S2 I2 hd _ => ?_)
      have dr : 0 ≤ d ∧ d ≤ 48 := by have := isD_le hd; have := hd.2; omega
      refine ⟨by unfold inR; omega, ?_⟩
      intro h3 hh3
      have C2 := I2.2.2.2.2.2.2.2.2.2.1.2.2.2.1
      refine s_Ou_write (ix_ne a9 a13 (by decide)) C2 wfn.1 wfn.2 (fun S3 hk3 hO3 => ?_)
      have I3 := IV_nr hss ((kiO a13 hk3).mono (fun k f y => by unfold NR; omega)) I2
      rw [hO3.1]
      refine ⟨by unfold inR; omega, ?_⟩
      intro h4 hh4
      refine s_TD_ckOut hO3 org oc ?_
      have := modl d S3 I3 hd
      rw [hh4, hh3, q]
      exact this
    · exact Or.inr q
  have steps : ∀ (f i : Nat), i + f = zn (Zs_ t0 t1 l p) → w_TD_checksum_123 Λ (fun r S1 => w_Mo_checksum Λ m S1 (fun r2 S2 => r = r2 ∧ Nxt Λ T m ix S2)) (f + 1) T (fl (f6 (Zs_ t0 t1 l p)) (6 * i) (31 * ck1 t0 t1 (Pm_ t0 t1 l p) + (zn (Zs_ t0 t1 l p) : Int))) (i : Int) S1 := by
    intro f
    induction f with
    | zero =>
      intro i hii
      rw [w_TD_checksum_123, hZ.2.1]
      refine ⟨by unfold inR; omega, by unfold inR; omega, fun _ => ?_, fun z => by omega⟩
      have := fin (fl (f6 (Zs_ t0 t1 l p)) (6 * i) (31 * ck1 t0 t1 (Pm_ t0 t1 l p) + (zn (Zs_ t0 t1 l p) : Int)))
      rcases this with y | y
      · exact y
      · exact absurd (by unfold ck2; rw [show zn (Zs_ t0 t1 l p) = i by omega]) y
    | succ f ih =>
      intro i hii
      have ihk := ih (i + 1) (by omega)
      rw [show ((i + 1 : Nat) : Int) = (i : Int) + 1 by omega] at ihk
      rw [w_TD_checksum_123, hZ.2.1]
      refine ⟨by unfold inR; omega, by unfold inR; omega, fun z => by omega, fun _ => ?_⟩
      have cs := hZ.2.2.1 i (by omega)
      have okk := hz.1.2 i (by omega)
      have wfk := (hwf i (by omega)).1
      have inner : ∀ (g j : Nat), j + g = 6 → w_TD_checksum_137 Λ (fun v0' v1' v3' S' => w_TD_checksum_123 Λ (fun r S1 => w_Mo_checksum Λ m S1 (fun r2 S2 => r = r2 ∧ Nxt Λ T m ix S2)) (f + 1) v0' v1' v3' S') (fun r S1 => w_Mo_checksum Λ m S1 (fun r2 S2 => r = r2 ∧ Nxt Λ T m ix S2)) (g + 1) T (fl (f6 (Zs_ t0 t1 l p)) (6 * i + j) (31 * ck1 t0 t1 (Pm_ t0 t1 l p) + (zn (Zs_ t0 t1 l p) : Int))) (i : Int) (j : Int) S1 := by
        intro g
        induction g with
        | zero =>
          intro j hj
          rw [w_TD_checksum_137]
          refine ⟨by unfold inR; omega, fun _ => ?_, fun z => by omega⟩
          rw [show 6 * i + j = 6 * (i + 1) by omega]
          exact ihk
        | succ g ihg =>
          intro j hj
          have ihj := ihg (j + 1) (by omega)
          rw [show ((j + 1 : Nat) : Int) = (j : Int) + 1 by omega] at ihj
          have tr := tl6_rng wfk okk (j : Int)
          have e6 : f6 (Zs_ t0 t1 l p) ((6 * i + j : Nat) : Int) = tl6 (zs (Zs_ t0 t1 l p) i) (j : Int) := by
            unfold f6
            rw [show (((6 * i + j : Nat) : Int) / 6).toNat = i by omega, show ((6 * i + j : Nat) : Int) % 6 = (j : Int) by omega]
          have el : fl (f6 (Zs_ t0 t1 l p)) (6 * i + (j + 1)) (31 * ck1 t0 t1 (Pm_ t0 t1 l p) + (zn (Zs_ t0 t1 l p) : Int)) = 31 * fl (f6 (Zs_ t0 t1 l p)) (6 * i + j) (31 * ck1 t0 t1 (Pm_ t0 t1 l p) + (zn (Zs_ t0 t1 l p) : Int)) + f6 (Zs_ t0 t1 l p) ((6 * i + j : Nat) : Int) := rfl
          rw [el, e6] at ihj
          rw [w_TD_checksum_137]
          refine ⟨by unfold inR; omega, fun z => by omega, fun _ => ⟨by omega, s_Sp_tell cs wfk okk (by unfold inR; omega) (fun _ _ => ⟨by unfold inR; omega, ?_⟩) (fun y => by omega)⟩⟩
          intro x hx
          rw [hx]
          exact ihj
      exact ⟨_, inner 6 0 (by omega)⟩
  have nodes : ∀ (f k : Nat), (k : Int) + f = tn t0 → w_TD_checksum_46 Λ (fun r S1 => w_Mo_checksum Λ m S1 (fun r2 S2 => r = r2 ∧ Nxt Λ T m ix S2)) (f + 1) T (fp (Pm_ t0 t1 l p) k (31 * (31 * 71 + tn t0) + tn t1)) (k : Int) S1 := by
    intro f
    induction f with
    | zero =>
      intro k hk
      rw [w_TD_checksum_46]
      intro a2 ha2
      rw [ha2, I1.2.2.1.1.1, hZ.2.1]
      refine ⟨by unfold inR; omega, by unfold inR; omega, fun _ => ⟨by unfold inR; omega, ?_⟩, fun z => by omega⟩
      intro x hx
      rw [hx]
      have ec : ck1 t0 t1 (Pm_ t0 t1 l p) = fp (Pm_ t0 t1 l p) k (31 * (31 * 71 + tn t0) + tn t1) := by unfold ck1; rw [show (tn t0).toNat = k by omega]
      rw [← ec]
      exact ⟨_, steps (zn (Zs_ t0 t1 l p)) 0 (by omega)⟩
    | succ f ih =>
      intro k hk
      have ihk := ih (k + 1) (by omega)
      rw [show ((k + 1 : Nat) : Int) = (k : Int) + 1 by omega] at ihk
      have rk := hr.1 (k : Int) (by omega) (by omega)
      have o1 := on_rng (v := q0 (Pm_ t0 t1 l p) (k : Int)) (by omega)
      have o2 := on_rng (v := qh (Pm_ t0 t1 l p) (k : Int)) (by omega)
      obtain ⟨x1, _, x3⟩ := hC.1 (k : Int) (by omega) (by omega)
      rw [w_TD_checksum_46]
      intro a2 ha2
      rw [ha2, I1.2.2.1.1.1, x1]
      refine ⟨by unfold inR; omega, by unfold inR; omega, fun z => by omega, fun _ => ⟨by omega, s_TD_orNone (by unfold inR; omega) ⟨by unfold inR; omega, ?_⟩⟩⟩
      intro x hx
      rw [x3]
      refine ⟨by omega, s_TD_orNone (by unfold inR; omega) ⟨by unfold inR; omega, ?_⟩⟩
      intro y hy
      rw [hy, hx]
      exact ihk
  rw [hh2, hh1, hh0]
  exact ⟨_, nodes (tn t0).toNat 0 (by omega)⟩
end
