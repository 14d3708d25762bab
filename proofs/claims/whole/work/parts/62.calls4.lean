/-! the calls, fourth part: the trees change -/
section
variable {Λ : QLay} {T m : Nat} {ix : Nat → Nat} {S S' : QMem} {t0 t1 : TT} {l p : Int} {n : Nat} {o : OB}
/-- what a changed tree leaves -/
def iRS (Λ : QLay) (T m : Nat) (S : QMem) (o : OB) : Prop := iTX Λ T m S ∧ (iSV Λ T m S 0 ∧ iSV Λ T m S 1) ∧ iOU Λ T m S o
def RRS (k f : Nat) (i : Int) : Prop := RTX k f i ∨ RSV k f i ∨ ROU k f i
theorem iRS_sg (hs : SP Λ T m ix) (hr : iTR Λ T ix S) (h : Sg ix RRS S S') (hi : iRS Λ T m S o) : iRS Λ T m S' o :=
  ⟨iTX_sg hs (h.mono (fun k f i y => Or.inl y)) hi.1, ⟨iSV_sg (Or.inl rfl) hs hr (h.mono (fun k f i y => Or.inr (Or.inl y))) hi.2.1.1, iSV_sg (Or.inr rfl) hs hr (h.mono (fun k f i y => Or.inr (Or.inl y))) hi.2.1.2⟩, iOU_sg hs (h.mono (fun k f i y => Or.inr (Or.inr y))) hi.2.2⟩
theorem IV_new (tr : iTR Λ T ix S) (wc : WC (yR Λ T 1 0) S t0 t1) (wm : WM m S t0 t1) (lp : iLP Λ T m S l p) (rg : iRG m S) (h11 : S.1 T 11 0 = 0) (h12 : S.1 T 12 0 = -1) (h13 : S.1 T 13 0 = 0) (h6 : S.1 m 6 0 = 0) (h20 : S.1 m 20 0 = 0) (hC : CW S (yR Λ T 7 0) (W0 t0)) (rs : iRS Λ T m S o) : IV Λ T m ix S t0 t1 l p 0 o :=
  ⟨rs.1, tr, wc, wm, lp, rs.2.1, rg, Or.inl h11, Or.inl h20, ⟨h13, h6, Nat.zero_le _, hC, CL_W0 hC wc.2.2.1, fun _ => rfl⟩, Or.inl h12, rs.2.2⟩
theorem Kq.sg {P : Nat → Nat → Int → Prop} {R : Nat → Nat → Int → Prop} (h : Kq P S S') (hn : ∀ o f i, P o f i → ¬ R (ix o) f i) : Sg ix R S S' := ⟨h.1, fun o f i z => h.2 o f i (fun y => hn o f i y z)⟩
def PFo (k f : Nat) : Prop := k = 9 ∨ (k = 0 ∧ (f = 11 ∨ f = 12 ∨ f = 13))
theorem s_TD_forget {Q : QMem → Prop} (hs : SP Λ T m ix) (tr : iTR Λ T ix S) (wc : WC (yR Λ T 1 0) S t0 t1)
    (hq : ∀ S', KI ix PFo S S' → S'.1 T 11 0 = 0 → S'.1 T 12 0 = -1 → S'.1 T 13 0 = 0 → CW S' (yR Λ T 7 0) (W0 t0) → Q S') : w_TD_forgetAnswers Λ T S Q := by
  obtain ⟨a0, a1, a2, a3, a4, a5, a6, a7, a8, a9, _⟩ := hs
  obtain ⟨r0, r1, _⟩ := iTR_r tr
  unfold w_TD_forgetAnswers
  intro S1 e1 S2 e2
  unfold w_TD_rewind
  intro a ha
  have K1 := ki1 a0 e1
  have K2 := ki1 a0 e2
  have K12 : KI ix (fun k f => k = 0 ∧ (f = 11 ∨ f = 12)) S S2 := (K1.mono (fun k f y => by omega)).tr (K2.mono (fun k f y => by omega))
  have wc2 : WC (yR Λ T 1 0) S2 t0 t1 := WC_sg tr (K12.sg (fun k f i y => by unfold RTC at y; omega)) wc
  rw [ha]
  refine s_Wt_load wc2.1 wc.2.2.1 (fun e => by rw [K12.1] at e; rw [e, a9] at r0; omega) (fun S3 hk3 hC3 => ?_)
  intro S4 e4
  have K3 := kiO a9 hk3
  have K4 := ki1 a0 e4
  refine hq S4 (((K12.mono (fun k f y => by unfold PFo; omega)).tr (K3.mono (fun k f y => by unfold PFo; omega))).tr (K4.mono (fun k f y => by unfold PFo; omega))) ?_ ?_ ?_ ?_
  · rw [K4.at a0 (by omega), K3.at a0 (by omega), K2.at a0 (by omega), e1]; simp [q_st]
  · rw [K4.at a0 (by omega), K3.at a0 (by omega), e2]; simp [q_st]
  · rw [e4]; simp [q_st]
  · have k4 : Kp (fun o _ => o = T) S3 S4 := by rw [e4]; exact Kp.rf.st rfl
    exact CW_kp k4 (fun f => ix_ne a9 a0 (by decide)) hC3
def PCh (k f : Nat) : Prop := k = 1 ∧ (f = 6 ∨ f = 18 ∨ f = 19 ∨ f = 20)
theorem s_Mo_changes {Q : QMem → Prop} (hm : ix m = 1) (w0 : wfT t0) (w1 : wfT t1) (h0 : MT S m 0 (tn t0) (tl t0) (tv t0) (tp t0)) (h1 : MT S m 1 (tn t1) (tl t1) (tv t1) (tp t1))
    (hq : ∀ S', KI ix PCh S S' → S'.1 m 20 0 = 0 → S'.1 m 6 0 = 0 → WM m S' t0 t1 → Q S') : w_Mo_changes Λ m S Q := by
  have n0 := tn_rng w0
  have n1 := tn_rng w1
  unfold w_Mo_changes
  intro S1 e1 S2 e2
  have K1 := ki1 hm e1
  have K2 := ki1 hm e2
  have K12 : KI ix (fun k f => k = 1 ∧ (f = 20 ∨ f = 6)) S S2 := (K1.mono (fun k f y => by omega)).tr (K2.mono (fun k f y => by omega))
  have e : ∀ f i, f < 4 → S2.1 m f i = S.1 m f i := fun f i hf => K12.at hm (by omega)
  refine s_Mo_measures (t := 0) (n := tn t0) (pa := tp t0) (Or.inl rfl) w0.1 (by rw [e 0 0 (by omega)]; exact h0.1) (fun k k0 k1 => by rw [e 3 _ (by omega)]; exact (h0.2 k k0 k1).2.2) (fun S3 k3 M3 => ?_)
  have e3 : ∀ f i, f < 4 → S3.1 m f i = S2.1 m f i := fun f i hf => k3.at (by unfold Pm; omega)
  refine s_Mo_measures (t := 1) (n := tn t1) (pa := tp t1) (Or.inr rfl) w1.1 (by rw [e3 0 1 (by omega), e 0 1 (by omega)]; exact h1.1) (fun k k0 k1 => by rw [e3 3 _ (by omega), e 3 _ (by omega)]; exact (h1.2 k k0 k1).2.2) (fun S4 k4 M4 => ?_)
  have e4 : ∀ f i, f < 4 → S4.1 m f i = S3.1 m f i := fun f i hf => k4.at (by unfold Pm; omega)
  have K3 : KI ix PCh S2 S3 := ⟨k3.1, fun o f i z => k3.2 o f i (fun y => z ⟨by rw [y.1]; exact hm, by have := y.2.1; omega⟩)⟩
  have K4 : KI ix PCh S3 S4 := ⟨k4.1, fun o f i z => k4.2 o f i (fun y => z ⟨by rw [y.1]; exact hm, by have := y.2.1; omega⟩)⟩
  have ea : ∀ f i, f < 4 → S4.1 m f i = S.1 m f i := fun f i hf => by rw [e4 f i hf, e3 f i hf, e f i hf]
  refine hq S4 (((K12.mono (fun k f y => by unfold PCh; omega)).tr K3).tr K4) ?_ ?_ ⟨⟨⟨?_, fun k k0 k1 => ?_⟩, fun k k0 k1 => ?_⟩, ⟨⟨?_, fun k k0 k1 => ?_⟩, M4⟩, w0, w1⟩
  · rw [k4.at (by unfold Pm; omega), k3.at (by unfold Pm; omega), K2.at hm (by omega), e1]; simp [q_st]
  · rw [k4.at (by unfold Pm; omega), k3.at (by unfold Pm; omega), e2]; simp [q_st]
  · rw [ea 0 0 (by omega)]; exact h0.1
  · rw [ea 1 _ (by omega), ea 2 _ (by omega), ea 3 _ (by omega)]; exact h0.2 k k0 k1
  · rw [k4.at (by unfold Pm; omega), k4.at (by unfold Pm; omega)]; exact M3 k k0 k1
  · rw [ea 0 1 (by omega)]; exact h1.1
  · rw [ea 1 _ (by omega), ea 2 _ (by omega), ea 3 _ (by omega)]; exact h1.2 k k0 k1
theorem c_setMatching {a b : Int} (hs : SP Λ T m ix) (ha : inR a) (hb : inR b) (hi : IV Λ T m ix S t0 t1 l p n o) : w_TD_setMatching Λ T a b S (fun r S1 => w_Mo_setMatching Λ m a b S1 (fun r2 S2 => r = r2 ∧ Nxt Λ T m ix S2)) := by
  have hss := hs
  obtain ⟨a0, a1, a2, a3, a4, a5, a6, a7, a8, a9, _⟩ := hs
  have bad : ¬ ((1 ≤ a ∧ a ≤ 9) ∧ (0 ≤ b ∧ b ≤ 100)) → w_Mo_setMatching Λ m a b S (fun r2 S2 => -12 = r2 ∧ Nxt Λ T m ix S2) := fun h => by
    unfold w_Mo_setMatching
    exact s_Mo_in ha (by unfold inR; omega) (by unfold inR; omega) (fun z => ⟨by unfold inR; omega, fun y => by omega, fun _ => s_Mo_in hb (by unfold inR; omega) (by unfold inR; omega) (fun z2 => absurd ⟨z, z2⟩ h) (fun z2 => ⟨by unfold inR; omega, fun y => absurd rfl y, fun _ => ⟨rfl, _, _, _, _, _, _, hi⟩⟩)⟩) (fun z => ⟨by unfold inR; omega, fun _ => ⟨rfl, _, _, _, _, _, _, hi⟩, fun y => absurd rfl y⟩)
  obtain ⟨i1, i2, i3, i4, i5, i6, i7, i8, i9, i10, i11, i12⟩ := hi
  unfold w_TD_setMatching
  refine ⟨ha, fun z => bad (by omega), fun z => ⟨ha, fun z2 => bad (by omega), fun z2 => ⟨hb, fun z3 => bad (by omega), fun z3 => ⟨hb, fun z4 => ?_, fun z4 => bad (by omega)⟩⟩⟩⟩
  intro x hx S1 e1 S2 e2
  have K1 := ki1 a3 e1
  have K2 := ki1 a3 e2
  have K12 : KI ix (fun k f => k = 3 ∧ (f = 2 ∨ f = 3)) S S2 := (K1.mono (fun k f y => by omega)).tr (K2.mono (fun k f y => by omega))
  refine s_TD_forget hss (iTR_sg K12.1 i2) (WC_sg i2 (K12.sg (fun k f i y => by unfold RTC at y; omega)) i3) (fun S3 K3 h11 h12 h13 hC => ?_)
  unfold w_Mo_setMatching
  refine s_Mo_in ha (by unfold inR; omega) (by unfold inR; omega) (fun _ => ⟨by unfold inR; omega, fun y => by omega, fun _ => s_Mo_in hb (by unfold inR; omega) (by unfold inR; omega) (fun _ => ⟨by unfold inR; omega, fun _ => ?_, fun y => by omega⟩) (fun y => by omega)⟩) (fun y => by omega)
  intro x2 hx2 S4 e4 S5 e5
  have K4 := ki1 a1 e4
  have K5 := ki1 a1 e5
  have K45 : KI ix (fun k f => k = 1 ∧ (f = 4 ∨ f = 5)) S3 S5 := (K4.mono (fun k f y => by omega)).tr (K5.mono (fun k f y => by omega))
  have K03 : KI ix (fun k f => (k = 3 ∧ (f = 2 ∨ f = 3)) ∨ PFo k f) S S3 := (K12.mono (fun k f y => Or.inl y)).tr (K3.mono (fun k f y => Or.inr y))
  have WM5 : WM m S5 t0 t1 := WM_sg a1 (K45.sg (fun k f i y => by unfold RTM at y; omega)) (WM_sg a1 (K03.sg (fun k f i y => by unfold RTM at y; unfold PFo; omega)) i4)
  refine s_Mo_changes a1 i3.2.2.1 i3.2.2.2 WM5.1.1 WM5.2.1.1 (fun S6 K6 h20 h6 W6 => ?_)
  have KA : KI ix (fun k f => (k = 3 ∧ (f = 2 ∨ f = 3)) ∨ PFo k f ∨ (k = 1 ∧ (f = 4 ∨ f = 5)) ∨ PCh k f) S S6 := ((K03.mono (fun k f y => y.elim Or.inl (fun z => Or.inr (Or.inl z)))).tr (K45.mono (fun k f y => Or.inr (Or.inr (Or.inl y))))).tr (K6.mono (fun k f y => Or.inr (Or.inr (Or.inr y))))
  have eT : ∀ f i, S6.1 T f i = S3.1 T f i := fun f i => by rw [K6.at a0 (by unfold PCh; omega), K45.at a0 (by omega)]
  have e9 : ∀ f i, S6.1 (yR Λ T 7 0) f i = S3.1 (yR Λ T 7 0) f i := fun f i => by rw [K6.at a9 (by unfold PCh; omega), K45.at a9 (by omega)]
  refine ⟨?_, t0, t1, a, b, 0, o, IV_new (iTR_sg KA.1 i2) (WC_sg i2 (KA.sg (fun k f i y => by unfold RTC at y; unfold PFo PCh; omega)) i3) W6 ⟨⟨?_, ?_, by omega, by omega⟩, ?_, ?_, by omega, by omega⟩ (iRG_sg a1 (KA.sg (fun k f i y => by unfold RRG at y; unfold PFo PCh; omega)) i7) (by rw [eT]; exact h11) (by rw [eT]; exact h12) (by rw [eT]; exact h13) h6 h20 (fun x x0 x1 => by rw [e9, e9, e9, e9]; exact hC x x0 x1) (iRS_sg hss i2 (KA.sg (fun k f i y => by unfold RRS RTX RSV ROU at y; unfold PFo PCh; omega)) ⟨i1, i6, i12⟩)⟩
  · rw [hx, hx2, K03.at a1 (by unfold PFo; omega), K03.at a1 (by unfold PFo; omega), i5.1.1, i5.1.2.1, i5.2.1, i5.2.2.1]
  · rw [K6.at a3 (by unfold PCh; omega), K45.at a3 (by omega), K3.at a3 (by unfold PFo; omega), K2.at a3 (by omega), e1]; simp [q_st]
  · rw [K6.at a1 (by unfold PCh; omega), K5.at a1 (by omega), e4]; simp [q_st]
  · rw [K6.at a3 (by unfold PCh; omega), K45.at a3 (by omega), K3.at a3 (by unfold PFo; omega), e2]; simp [q_st]
  · rw [K6.at a1 (by unfold PCh; omega), e5]; simp [q_st]
theorem cT_eq {a : Nat} {t : TT} (h : S'.1 = S.1) (c : cT S a t) : cT S' a t := by
  unfold cT CT at c ⊢
  rw [h]
  exact c
theorem iRS_pt (h1 : S'.1 = S.1) (h2 : ∀ x, S'.2 (yR Λ T 2 0) x = S.2 (yR Λ T 2 0) x) (h3 : ∀ x, S'.2 (yR Λ T 2 1) x = S.2 (yR Λ T 2 1) x) (hi : iRS Λ T m S o) : iRS Λ T m S' o := by
  unfold iRS iTX iSV iOU OM WC KK cT CT at hi ⊢
  simp only [h1, h2, h3]
  exact hi
theorem iRG_cp {a t : Int} (ha : 0 ≤ a ∧ a < 3) (ht : 0 ≤ t ∧ t < 3) (hk : Kq (Pcp m t) S S') (hc : ∀ (f : Nat) (k : Int), f = 1 ∨ f = 2 ∨ f = 3 → 0 ≤ k → k < 24 → S'.1 m f (24 * t + k) = S.1 m f (24 * a + k)) (hi : iRG m S) : iRG m S' := fun i i0 i1 => by
  by_cases q : 24 * t ≤ i ∧ i < 24 * t + 24
  · have h1 := hc 1 (i - 24 * t) (by omega) (by omega) (by omega)
    have h2 := hc 2 (i - 24 * t) (by omega) (by omega) (by omega)
    have h := hi (24 * a + (i - 24 * t)) (by omega) (by omega)
    rw [show 24 * t + (i - 24 * t) = i by omega] at h1 h2
    rw [h1, h2]
    exact h
  · rw [hk.at (by unfold Pcp; omega), hk.at (by unfold Pcp; omega)]
    exact hi i i0 i1
theorem c_exchange (hs : SP Λ T m ix) (hi : IV Λ T m ix S t0 t1 l p n o) : w_TD_exchange Λ T S (fun r S1 => w_Mo_exchange Λ m S1 (fun r2 S2 => r = r2 ∧ Nxt Λ T m ix S2)) := by
  have hss := hs
  obtain ⟨a0, a1, a2, a3, a4, a5, a6, a7, a8, a9, _⟩ := hs
  obtain ⟨i1, i2, i3, i4, i5, i6, i7, i8, i9, i10, i11, i12⟩ := hi
  have n0 := tn_rng i3.2.2.1
  have n1 := tn_rng i3.2.2.2
  unfold w_TD_exchange w_Se_swapTrees
  intro u0 hu0 u1 hu1 Sa ea S1 e1
  have f1 : S1.1 = S.1 := by rw [e1, ea]; rfl
  have p0 : S1.2 (yR Λ T 1 0) 0 = S.2 (yR Λ T 1 0) 1 := by rw [e1, ea, hu1]; simp [q_pt]
  have p1 : S1.2 (yR Λ T 1 0) 1 = S.2 (yR Λ T 1 0) 0 := by rw [e1, ea, hu0]; simp [q_pt]
  have pn : ∀ a x, a ≠ yR Λ T 1 0 → S1.2 a x = S.2 a x := fun a x h => by rw [e1, ea]; simp [q_pt, h]
  have p4 : ∀ x, S1.2 (yR Λ T 2 0) x = S.2 (yR Λ T 2 0) x := fun x => pn _ x (ix_ne a4 a3 (by decide))
  have p5 : ∀ x, S1.2 (yR Λ T 2 1) x = S.2 (yR Λ T 2 1) x := fun x => pn _ x (ix_ne a5 a3 (by decide))
  have tr1 : iTR Λ T ix S1 := by
    unfold iTR
    rw [p0, p1, p4, p4, p5, p5]
    refine ⟨?_, i2.2⟩
    rcases i2.1 with z | z
    · exact Or.inr ⟨z.2, z.1⟩
    · exact Or.inl ⟨z.2, z.1⟩
  have wc1 : WC (yR Λ T 1 0) S1 t1 t0 := ⟨by rw [p0]; exact cT_eq f1 i3.2.1, by rw [p1]; exact cT_eq f1 i3.1, i3.2.2.2, i3.2.2.1⟩
  have rs1 : iRS Λ T m S1 o := iRS_pt f1 p4 p5 ⟨i1, i6, i12⟩
  refine s_TD_forget hss tr1 wc1 (fun S2 K2 h11 h12 h13 hC => ?_)
  intro a ha
  have wc2 : WC (yR Λ T 1 0) S2 t1 t0 := WC_sg tr1 (K2.sg (fun k f i y => by unfold RTC at y; unfold PFo; omega)) wc1
  rw [ha, wc2.1.1]
  have em : ∀ f i, S2.1 m f i = S.1 m f i := fun f i => by rw [K2.at a1 (by unfold PFo; omega), f1]
  unfold w_Mo_exchange
  refine s_Mo_copiesTree (a := 0) (t := 2) (by omega) (by omega) (by omega) (fun S3 k3 q3 c3 => ?_)
  refine s_Mo_copiesTree (a := 1) (t := 0) (by omega) (by omega) (by omega) (fun S4 k4 q4 c4 => ?_)
  refine s_Mo_copiesTree (a := 2) (t := 1) (by omega) (by omega) (by omega) (fun S5 k5 q5 c5 => ?_)
  have M0 := i4.1.1
  have M1 := i4.2.1.1
  have x0 : ∀ (f : Nat) (k : Int), f = 1 ∨ f = 2 ∨ f = 3 → 0 ≤ k → k < 24 → S5.1 m f (24 * 0 + k) = S.1 m f (24 * 1 + k) := fun f k hf k0 k1 => by
    rw [k5.at (by unfold Pcp; omega), c4 f k hf k0 k1, k3.at (by unfold Pcp; omega), em]
  have x1 : ∀ (f : Nat) (k : Int), f = 1 ∨ f = 2 ∨ f = 3 → 0 ≤ k → k < 24 → S5.1 m f (24 * 1 + k) = S.1 m f (24 * 0 + k) := fun f k hf k0 k1 => by
    rw [c5 f k hf k0 k1, k4.at (by unfold Pcp; omega), c3 f k hf k0 k1, em]
  have y0 : S5.1 m 0 0 = tn t1 := by rw [k5.at (by unfold Pcp; omega), q4, k3.at (by unfold Pcp; omega), em]; exact M1.1
  have y1 : S5.1 m 0 1 = tn t0 := by rw [q5, k4.at (by unfold Pcp; omega), q3, em]; exact M0.1
  refine s_Mo_changes (t0 := t1) (t1 := t0) a1 i3.2.2.2 i3.2.2.1 ⟨y0, fun k k0 k1 => ?_⟩ ⟨y1, fun k k0 k1 => ?_⟩ (fun S6 K6 h20 h6 W6 => ?_)
  · rw [x0 1 k (by omega) k0 (by omega), x0 2 k (by omega) k0 (by omega), x0 3 k (by omega) k0 (by omega)]; exact M1.2 k k0 k1
  · rw [x1 1 k (by omega) k0 (by omega), x1 2 k (by omega) k0 (by omega), x1 3 k (by omega) k0 (by omega)]; exact M0.2 k k0 k1
  · have rg2 : iRG m S2 := fun i i0 i1 => by rw [em, em]; exact i7 i i0 i1
    have rg5 : iRG m S5 := iRG_cp (a := 2) (t := 1) (by omega) (by omega) k5 c5 (iRG_cp (a := 1) (t := 0) (by omega) (by omega) k4 c4 (iRG_cp (a := 0) (t := 2) (by omega) (by omega) k3 c3 rg2))
    have K35 : KI ix (fun k f => k = 1 ∧ f ≤ 3) S2 S5 := by
      refine ⟨(k5.1.trans k4.1).trans k3.1, fun o f i z => ?_⟩
      have nn : ∀ t, ¬ Pcp m t o f i := fun t y => z ⟨by rw [y.1]; exact a1, by have := y.2; omega⟩
      rw [k5.at (nn 1), k4.at (nn 0), k3.at (nn 2)]
    have K36 : KI ix (fun k f => k = 1 ∧ (f ≤ 3 ∨ f = 6 ∨ f = 18 ∨ f = 19 ∨ f = 20)) S2 S6 := (K35.mono (fun k f y => by omega)).tr (K6.mono (fun k f y => by unfold PCh at y; omega))
    have tr2 : iTR Λ T ix S2 := iTR_sg K2.1 tr1
    have eT : ∀ f i, S6.1 T f i = S2.1 T f i := fun f i => K36.at a0 (by omega)
    have e9 : ∀ f i, S6.1 (yR Λ T 7 0) f i = S2.1 (yR Λ T 7 0) f i := fun f i => K36.at a9 (by omega)
    have lp2 : iLP Λ T m S2 l p := iLP_sg hss (K2.sg (fun k f i y => by unfold RLP at y; unfold PFo; omega)) (by unfold iLP; rw [f1]; exact i5)
    have rs2 : iRS Λ T m S2 o := iRS_sg hss tr1 (K2.sg (fun k f i y => by unfold RRS RTX RSV ROU at y; unfold PFo; omega)) rs1
    refine ⟨W6.1.1.1.symm, t1, t0, l, p, 0, o, IV_new (iTR_sg K36.1 tr2) (WC_sg tr2 (K36.sg (fun k f i y => by unfold RTC at y; omega)) wc2) W6 (iLP_sg hss (K36.sg (fun k f i y => by unfold RLP at y; omega)) lp2) (iRG_sg a1 (K6.sg (fun k f i y => by unfold RRG at y; unfold PCh; omega)) rg5) (by rw [eT]; exact h11) (by rw [eT]; exact h12) (by rw [eT]; exact h13) h6 h20 (fun x x0 x1 => by rw [e9, e9, e9, e9]; exact hC x x0 x1) (iRS_sg hss tr2 (K36.sg (fun k f i y => by unfold RRS RTX RSV ROU at y; omega)) rs2)⟩
end
