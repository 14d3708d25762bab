/-! the calls, fifth part: read, save, restore -/
section
variable {Λ : QLay} {T m : Nat} {ix : Nat → Nat} {S S' : QMem} {t0 t1 : TT} {l p : Int} {n : Nat} {o : OB}
theorem KM.sg {R : Nat → Nat → Int → Prop} (hm : ix m = 1) (h : KM m S S') (hn : ∀ k f i, R k f i → k = 1 → ¬ ((13 ≤ f ∧ f ≤ 17) ∨ (f = 0 ∧ i = 2) ∨ ((f = 1 ∨ f = 2 ∨ f = 3) ∧ 48 ≤ i))) : Sg ix R S S' := by
  refine ⟨h.1, fun o f i z => ?_⟩
  by_cases q : o = m
  · rw [q, hm] at z
    have g := hn 1 f i z rfl
    exact h.2.1 o f i (fun w => by have := w.2; omega) (fun w => by have := w.2; omega) (fun w => by have := w.2; omega)
  · exact h.2.1 o f i (fun w => q w.1) (fun w => q w.1) (fun w => q w.1)
theorem iRG_km (h : KM m S S') (hi : iRG m S) : iRG m S' := fun i i0 i1 => by
  have g := hi i i0 i1
  have r1 := h.2.2 1 i ⟨fun _ => g.1, fun z => by omega, fun z => by omega⟩
  have r2 := h.2.2 2 i ⟨fun z => by omega, fun _ => g.2, fun z => by omega⟩
  exact ⟨r1.1 rfl, r2.2.1 rfl⟩
def nt0 (x : Int) (u t : TT) : TT := if x = 0 then u else t
def nt1 (x : Int) (u t : TT) : TT := if x = 1 then u else t
theorem c_read {x : Int} (hs : SP Λ T m ix) (hx : inR x) (hi : IV Λ T m ix S t0 t1 l p n o) : w_TD_read Λ T x S (fun r S1 => w_Mo_read Λ m x S1 (fun r2 S2 => r = r2 ∧ Nxt Λ T m ix S2)) := by
  have hss := hs
  obtain ⟨a0, a1, a2, a3, a4, a5, a6, a7, a8, a9, a10, a11, a12, a13, a14, a15⟩ := hs
  unfold w_TD_read
  refine s_TD_isTree hx (fun z => ⟨by unfold inR; omega, fun _ => ?_, fun y => by omega⟩) (fun z => ⟨by unfold inR; omega, fun y => absurd rfl y, fun _ => ?_⟩)
  · obtain ⟨len, b1, b2, b3, b4⟩ := hi.1
    refine s_Tx_findFault (b := S.1 m 9) (len := len) (ix_ne a2 a14 (by decide)) b1 b3 b4 (fun la va pa S1 hk1 hR1 => ?_)
    have K1 : KI ix (fun k f => (k = 2 ∧ 3 ≤ f) ∨ k = 14) S S1 := Kp.mono hk1 (fun o f z => by
      rcases z with z | z
      · rw [z.1, a2]; exact Or.inl ⟨rfl, by omega⟩
      · rw [z.1, a14]; exact Or.inr rfl)
    have I1 : IV Λ T m ix S1 t0 t1 l p n o := IV_nr hss (K1.mono (fun k f y => by unfold NR; omega)) hi
    have hw := prun_wf (b := S.1 m 9) (len := len) (fun k k0 k1 => (b4 k k0 k1).2) len.toNat 0 (p0 la va pa) (by omega) (by omega) (wfP_0 la va pa)
    generalize hr : prun (S.1 m 9) len.toNat 0 (p0 la va pa) = r at hR1 hw ⊢
    have pr : inR (pans len r) := by
      unfold pans
      split <;> unfold inR <;> omega
    refine ⟨pr, fun e => ?_, fun e => ?_⟩
    · have q : r.1 = len ∧ r.2.2.2.1 = 0 ∧ ¬ r.2.1 = 0 := Classical.byContradiction (fun y => by rw [pans_2 y] at e; omega)
      obtain ⟨rk, st, nd, op, cu, L, V, P⟩ := r
      obtain ⟨g1, g2, g3, g4, g5, g6, g7, g8, g9, g10, g11, g12, g13⟩ := hw.1
      obtain ⟨f1, f2, f3, f4, f5⟩ := hR1
      have q3 : ¬ st = 0 := q.2.2
      have n1 := g5 q3
      obtain ⟨u, hu⟩ : ∃ u : TT, u = (nd, L, V, P) := ⟨_, rfl⟩
      have un : tn u = nd := by rw [hu]; rfl
      have ul : tl u = L := by rw [hu]; rfl
      have uv : tv u = V := by rw [hu]; rfl
      have up' : tp u = P := by rw [hu]; rfl
      have wu : wfT u := by
        unfold wfT
        rw [un, ul, uv, up']
        exact ⟨⟨⟨n1, g2.2⟩, (g8 0 (by omega) (by omega)).2.2.2.1 rfl, fun k k0 k1 => ⟨(g8 k (by omega) k1).2.2.2.2 k0, (g8 k (by omega) k1).2.2.1⟩, g11⟩, fun k k0 k1 => ⟨(g8 k k0 k1).1, (g8 k k0 k1).2.1⟩⟩
      obtain ⟨i1, i2, i3, i4, i5, i6, i7, i8, i9, i10, i11, i12⟩ := I1
      have w0 := i3.2.2.1
      have w1 := i3.2.2.2
      have N0 := tn_rng w0
      have N1 := tn_rng w1
      obtain ⟨r0, r1, rne⟩ := iTR_r i2
      refine s_Se_treeOf z ?_
      obtain ⟨a, ha⟩ : ∃ a, a = S1.2 (yR Λ T 1 0) x.toNat := ⟨_, rfl⟩
      rw [← ha]
      have ia : ix a = 15 ∨ ix a = 16 := by
        rw [ha]
        rcases z with y | y <;> rw [y]
        · exact r0
        · exact r1
      refine s_Tr_copy (fun y => by rw [y, a14] at ia; omega) (fun S2 k2 h20 c2 => ?_)
      refine s_Tr_complete (n := nd) (pa := P) (by rw [← un, ← up']; exact wu.1) (by rw [h20]; exact f2) (fun k k0 k1 => by rw [c2 3 k (by omega) (by omega) k0 (by omega)]; exact (f5 k k0 k1).2.2) (fun S3 k3 m3 p3 => ?_)
      have k13 : Kp (fun o _ => o = a) S1 S3 := k2.tr (k3.mono (fun o f y => y.1))
      have K13 : KI ix (fun k _ => k = 15 ∨ k = 16) S1 S3 := Kp.mono k13 (fun o f y => by rw [y]; exact ia)
      have ca : cT S3 a u := by
        unfold cT
        rw [un, ul, uv, up']
        refine ⟨by rw [k3.at (by unfold PC; omega), h20]; exact f2, fun k k0 k1 => ?_, p3⟩
        rw [k3.at (f := 1) (by unfold PC; omega), k3.at (f := 2) (by unfold PC; omega), k3.at (f := 3) (by unfold PC; omega), c2 1 k (by omega) (by omega) k0 (by omega), c2 2 k (by omega) (by omega) k0 (by omega), c2 3 k (by omega) (by omega) k0 (by omega)]
        obtain ⟨y1, y2, y3⟩ := f5 k k0 k1
        exact ⟨y1, y2, y3, m3 k k0 k1⟩
      have tr3 : iTR Λ T ix S3 := iTR_sg K13.1 i2
      have wc3 : WC (yR Λ T 1 0) S3 (nt0 x u t0) (nt1 x u t1) := by
        unfold WC
        rw [K13.1]
        rcases z with y | y
        · have y0 : x.toNat = 0 := by omega
          rw [y0] at ha
          have e0 : nt0 x u t0 = u := if_pos y
          have e1 : nt1 x u t1 = t1 := if_neg (by omega)
          rw [e0, e1, ← ha]
          exact ⟨ca, cT_kp k13 (fun f yy => rne (by rw [yy, ha])) i3.2.1, wu, w1⟩
        · have y0 : x.toNat = 1 := by omega
          rw [y0] at ha
          have e0 : nt0 x u t0 = t0 := if_neg (by omega)
          have e1 : nt1 x u t1 = u := if_pos y
          rw [e0, e1, ← ha]
          exact ⟨cT_kp k13 (fun f yy => rne (by rw [yy, ha])) i3.1, ca, w0, wu⟩
      refine s_TD_forget hss tr3 wc3 (fun S4 K4 h11 h12 h13 hC => ?_)
      have ka4 : S4.1 a 0 0 = nd := by rw [K4.at (k := ix a) rfl (by unfold PFo; omega), ca.1, un]
      rw [ka4]
      have em : ∀ f i, S4.1 m f i = S1.1 m f i := fun f i => by rw [K4.at a1 (by unfold PFo; omega), K13.at a1 (by omega)]
      have em0 : ∀ f i, S4.1 m f i = S.1 m f i := fun f i => by rw [em, K1.at a1 (by omega)]
      unfold w_Mo_read
      refine s_Mo_in hx (by unfold inR; omega) (by unfold inR; omega) (fun _ => ⟨by unfold inR; omega, fun _ => ?_, fun y => by omega⟩) (fun y => by omega)
      refine s_Mo_isText (b := S.1 m 9) (len := len) (by rw [em0]; exact b2) b3 (fun k k0 k1 => ⟨em0 9 k, (b4 k k0 k1).2⟩) la va pa (fun S5 k5 R5 _ => ?_)
      rw [hr] at R5 ⊢
      rw [if_pos e]
      refine ⟨by unfold inR; omega, fun _ => ?_, fun y => by omega⟩
      obtain ⟨s1, s2, s3, s4, s5, s6⟩ := R5
      refine s_Mo_copiesTree (a := 2) (t := x) (by omega) (by omega) (by omega) (fun S6 k6 q6 c6 => ?_)
      have T45 : ∀ f i, ((f = 0 ∧ i < 2) ∨ ((f = 1 ∨ f = 2 ∨ f = 3) ∧ i < 48)) → S5.1 m f i = S1.1 m f i := fun f i h => by
        rw [k5.2.1 m f i (fun w => by have := w.2; omega) (fun w => by have := w.2; omega) (fun w => by have := w.2; omega), em]
      have Mu : MT S6 m x (tn u) (tl u) (tv u) (tp u) := by
        rw [un, ul, uv, up']
        refine ⟨by rw [q6]; exact s3, fun k k0 k1 => ?_⟩
        rw [c6 1 k (by omega) k0 (by omega), c6 2 k (by omega) k0 (by omega), c6 3 k (by omega) k0 (by omega)]
        exact s6 k k0 k1
      have M0 : MT S6 m 0 (tn (nt0 x u t0)) (tl (nt0 x u t0)) (tv (nt0 x u t0)) (tp (nt0 x u t0)) := by
        rcases z with y | y
        · have e0 : nt0 x u t0 = u := if_pos y
          rw [e0, ← y]
          exact Mu
        · have e0 : nt0 x u t0 = t0 := if_neg (by omega)
          rw [e0]
          refine ⟨by rw [k6.at (by unfold Pcp; omega), T45 0 0 (by omega)]; exact i4.1.1.1, fun k k0 k1 => ?_⟩
          rw [k6.at (f := 1) (by unfold Pcp; omega), k6.at (f := 2) (by unfold Pcp; omega), k6.at (f := 3) (by unfold Pcp; omega), T45 1 _ (by omega), T45 2 _ (by omega), T45 3 _ (by omega)]
          exact i4.1.1.2 k k0 k1
      have M1 : MT S6 m 1 (tn (nt1 x u t1)) (tl (nt1 x u t1)) (tv (nt1 x u t1)) (tp (nt1 x u t1)) := by
        rcases z with y | y
        · have e0 : nt1 x u t1 = t1 := if_neg (by omega)
          rw [e0]
          refine ⟨by rw [k6.at (by unfold Pcp; omega), T45 0 1 (by omega)]; exact i4.2.1.1.1, fun k k0 k1 => ?_⟩
          rw [k6.at (f := 1) (by unfold Pcp; omega), k6.at (f := 2) (by unfold Pcp; omega), k6.at (f := 3) (by unfold Pcp; omega), T45 1 _ (by omega), T45 2 _ (by omega), T45 3 _ (by omega)]
          exact i4.2.1.1.2 k k0 k1
        · have e0 : nt1 x u t1 = u := if_pos y
          rw [e0]
          rw [y] at Mu
          exact Mu
      refine s_Mo_changes a1 wc3.2.2.1 wc3.2.2.2 M0 M1 (fun S7 K7 h20' h6 W7 => ⟨by omega, ?_⟩)
      have K6 : KI ix (fun k f => k = 1 ∧ f ≤ 3) S5 S6 := ⟨k6.1, fun o f i z => k6.2 o f i (fun y => z ⟨by rw [y.1]; exact a1, by have := y.2; omega⟩)⟩
      have K67 : KI ix (fun k f => k = 1 ∧ (f ≤ 3 ∨ f = 6 ∨ f = 18 ∨ f = 19 ∨ f = 20)) S5 S7 := (K6.mono (fun k f y => by omega)).tr (K7.mono (fun k f y => by unfold PCh at y; omega))
      have K14 : KI ix (fun k f => k = 15 ∨ k = 16 ∨ PFo k f) S1 S4 := (K13.mono (fun k f y => by omega)).tr (K4.mono (fun k f y => Or.inr (Or.inr y)))
      have tr4 : iTR Λ T ix S4 := iTR_sg K4.1 tr3
      have tr5 : iTR Λ T ix S5 := iTR_sg k5.1 tr4
      have wc4 : WC (yR Λ T 1 0) S4 (nt0 x u t0) (nt1 x u t1) := WC_sg tr3 (K4.sg (fun k f i y => by unfold RTC at y; unfold PFo; omega)) wc3
      have wc5 : WC (yR Λ T 1 0) S5 (nt0 x u t0) (nt1 x u t1) := WC_sg tr4 (k5.sg a1 (fun k f i y => by unfold RTC at y; omega)) wc4
      have lp5 : iLP Λ T m S5 l p := iLP_sg hss (k5.sg a1 (fun k f i y => by unfold RLP at y; omega)) (iLP_sg hss (K14.sg (fun k f i y => by unfold RLP at y; unfold PFo; omega)) i5)
      have rs5 : iRS Λ T m S5 o := iRS_sg hss tr4 (k5.sg a1 (fun k f i y => by unfold RRS RTX RSV ROU at y; omega)) (iRS_sg hss i2 (K14.sg (fun k f i y => by unfold RRS RTX RSV ROU at y; unfold PFo; omega)) ⟨i1, i6, i12⟩)
      have rg4 : iRG m S4 := fun i i0 i1 => by rw [em, em]; exact i7 i i0 i1
      have rg6 : iRG m S6 := iRG_cp (a := 2) (t := x) (by omega) (by omega) k6 c6 (iRG_km k5 rg4)
      have e5T : ∀ a f i, ix a ≠ 1 → S7.1 a f i = S4.1 a f i := fun a f i h => by
        rw [K67.at (k := ix a) rfl (by omega), k5.2.1 a f i (fun w => h (by rw [w.1]; exact a1)) (fun w => h (by rw [w.1]; exact a1)) (fun w => h (by rw [w.1]; exact a1))]
      have eT : ∀ f i, S7.1 T f i = S4.1 T f i := fun f i => e5T T f i (by omega)
      have e9 : ∀ f i, S7.1 (yR Λ T 7 0) f i = S4.1 (yR Λ T 7 0) f i := fun f i => e5T _ f i (by omega)
      refine ⟨?_, nt0 x u t0, nt1 x u t1, l, p, 0, o, IV_new (iTR_sg K67.1 tr5) (WC_sg tr5 (K67.sg (fun k f i y => by unfold RTC at y; omega)) wc5) W7 (iLP_sg hss (K67.sg (fun k f i y => by unfold RLP at y; omega)) lp5) (iRG_sg a1 (K7.sg (fun k f i y => by unfold RRG at y; unfold PCh; omega)) rg6) (by rw [eT]; exact h11) (by rw [eT]; exact h12) (by rw [eT]; exact h13) h6 h20' (fun x x0 x1 => by rw [e9, e9, e9, e9]; exact hC x x0 x1) (iRS_sg hss tr5 (K67.sg (fun k f i y => by unfold RRS RTX RSV ROU at y; omega)) rs5)⟩
      rw [K7.at a1 (by unfold PCh; omega), Mu.1, un]
    · unfold w_Mo_read
      refine s_Mo_in hx (by unfold inR; omega) (by unfold inR; omega) (fun _ => ⟨by unfold inR; omega, fun _ => ?_, fun y => by omega⟩) (fun y => by omega)
      have em0 : ∀ f i, S1.1 m f i = S.1 m f i := fun f i => K1.at a1 (by omega)
      refine s_Mo_isText (b := S.1 m 9) (len := len) (by rw [em0]; exact b2) b3 (fun k k0 k1 => ⟨em0 9 k, (b4 k k0 k1).2⟩) la va pa (fun S5 k5 R5 _ => ?_)
      rw [hr, if_neg e]
      exact ⟨by unfold inR; omega, fun y => absurd rfl y, fun _ => ⟨rfl, _, _, _, _, _, _, IV_km hss k5 I1⟩⟩
  · unfold w_Mo_read
    exact s_Mo_in hx (by unfold inR; omega) (by unfold inR; omega) (fun y => by omega) (fun _ => ⟨by unfold inR; omega, fun y => absurd rfl y, fun _ => ⟨rfl, _, _, _, _, _, _, hi⟩⟩)
end
