/-! the calls, seventh part: restore -/
section
variable {Λ : QLay} {T m : Nat} {ix : Nat → Nat} {S S' : QMem} {t0 t1 : TT} {l p : Int} {n : Nat} {o : OB}
theorem c_restore {j : Int} (hs : SP Λ T m ix) (hj : inR j) (hi : IV Λ T m ix S t0 t1 l p n o) : w_TD_restore Λ T j S (fun r S1 => w_Mo_restore Λ m j S1 (fun r2 S2 => r = r2 ∧ Nxt Λ T m ix S2)) := by
  have hss := hs
  obtain ⟨a0, a1, a2, a3, a4, a5, a6, a7, a8, a9, _⟩ := hs
  unfold w_TD_restore
  refine s_TD_isSlot hj (fun z => ⟨by unfold inR; omega, fun _ => ⟨by omega, ?_⟩, fun y => by omega⟩) (fun z => ⟨by unfold inR; omega, fun y => absurd rfl y, fun _ => ?_⟩)
  · have sv : iSV Λ T m S j := by
      rcases z with y | y <;> rw [y]
      · exact hi.2.2.2.2.2.1.1
      · exact hi.2.2.2.2.2.1.2
    rcases sv with ⟨v1, v2⟩ | ⟨v1, v2, u0, u1, l', p', wc, g2, g3, kk⟩
    · rw [v1]
      refine ⟨by unfold inR; omega, fun y => absurd rfl y, fun _ => ?_⟩
      unfold w_Mo_restore
      refine s_Mo_in hj (by unfold inR; omega) (by unfold inR; omega) (fun _ => ⟨by unfold inR; omega, fun _ => ⟨by omega, ?_⟩, fun y => by omega⟩) (fun y => by omega)
      rw [v2]
      exact ⟨by unfold inR; omega, fun y => absurd rfl y, fun _ => ⟨rfl, _, _, _, _, _, _, hi⟩⟩
    · rw [v1]
      refine ⟨by unfold inR; omega, fun _ => ⟨by omega, ?_⟩, fun y => by omega⟩
      obtain ⟨i1, i2, i3, i4, i5, i6, i7, i8, i9, i10, i11, i12⟩ := hi
      have w0 := wc.2.2.1
      have w1 := wc.2.2.2
      have n0 := tn_rng w0
      have n1 := tn_rng w1
      obtain ⟨r0, r1, rne⟩ := iTR_r i2
      obtain ⟨s4, s5, s6⟩ := slot_ix z hss i2
      refine s_Se_copy wc (fun y => by have := congrArg ix y; omega) (fun y => by have := congrArg ix y; omega) (fun y => by have := congrArg ix y; omega) rne (fun y => by have := congrArg ix y; omega) (fun y => by have := congrArg ix y; omega) (fun y => by have := congrArg ix y; omega) (fun y => by have := congrArg ix y; omega) (fun y => by have := congrArg ix y; omega) (fun S1 k1 wc1 q2 q3 => ?_)
      have K1 : KI ix (fun k f => k = 15 ∨ k = 16 ∨ (k = 3 ∧ (f = 2 ∨ f = 3))) S S1 := Kp.mono k1 (fun o f y => by
        show ix o = 15 ∨ ix o = 16 ∨ (ix o = 3 ∧ (f = 2 ∨ f = 3))
        rcases y with y | y | y
        · rw [y]; omega
        · rw [y]; omega
        · rw [y.1]; omega)
      have tr1 : iTR Λ T ix S1 := iTR_sg K1.1 i2
      refine s_TD_forget hss tr1 wc1 (fun S2 K2 h11 h12 h13 hC => ?_)
      intro a ha
      have tr2 : iTR Λ T ix S2 := iTR_sg K2.1 tr1
      have wc2 : WC (yR Λ T 1 0) S2 u0 u1 := WC_sg tr1 (K2.sg (fun k f i y => by unfold RTC at y; unfold PFo; omega)) wc1
      rw [ha, wc2.1.1]
      have em : ∀ f i, S2.1 m f i = S.1 m f i := fun f i => by rw [K2.at a1 (by unfold PFo; omega), K1.at a1 (by omega)]
      have rs2 : iRS Λ T m S2 o := iRS_sg hss tr1 (K2.sg (fun k f i y => by unfold RRS RTX RSV ROU at y; unfold PFo; omega)) (iRS_sg hss i2 (K1.sg (fun k f i y => by unfold RRS RTX RSV ROU at y; omega)) ⟨i1, i6, i12⟩)
      unfold w_Mo_restore
      refine s_Mo_in hj (by unfold inR; omega) (by unfold inR; omega) (fun _ => ⟨by unfold inR; omega, fun _ => ⟨by omega, ?_⟩, fun y => by omega⟩) (fun y => by omega)
      rw [em 8 j, v2]
      refine ⟨by unfold inR; omega, fun _ => ?_, fun y => by omega⟩
      intro x hx
      obtain ⟨⟨x0, x1, x2, x3⟩, xr, xa, xb⟩ := kk
      rw [← hx] at x0 x1 x2 x3 xr xa xb
      refine ⟨by omega, ?_⟩
      intro S3 e3
      refine ⟨by omega, ?_⟩
      intro S4 e4
      refine ⟨by omega, ?_⟩
      intro S5 e5
      refine ⟨by omega, ?_⟩
      intro S6 e6
      have k26 : Kq (fun o f i => o = m ∧ ((f = 0 ∧ i < 2) ∨ f = 4 ∨ f = 5)) S2 S6 := by
        rw [e6, e5, e4, e3]
        exact (((Kq.rf.st ⟨rfl, by omega⟩).st ⟨rfl, by omega⟩).st ⟨rfl, by omega⟩).st ⟨rfl, by omega⟩
      have e7 : ∀ i, S6.1 m 7 i = S.1 m 7 i := fun i => by rw [k26.at (by omega), em]
      have b0 : S6.1 m 0 0 = tn u0 := by
        have h : S6.1 m 0 0 = S2.1 m 7 x := by rw [e6, e5, e4, e3]; simp [q_st]
        rw [h, em]; exact x0
      have b1 : S6.1 m 0 1 = tn u1 := by
        have h : S6.1 m 0 1 = S2.1 m 7 (x + 1) := by rw [e6, e5, e4, e3]; simp [q_st]
        rw [h, em]; exact x1
      have b2 : S6.1 m 4 0 = l' := by
        have h : S6.1 m 4 0 = S2.1 m 7 (x + 2) := by rw [e6, e5, e4, e3]; simp [q_st]
        rw [h, em]; exact x2
      have b3 : S6.1 m 5 0 = p' := by
        have h : S6.1 m 5 0 = S2.1 m 7 (x + 3) := by rw [e6, e5, e4, e3]; simp [q_st]
        rw [h, em]; exact x3
      have key : ∀ (f : Nat) (i : Int) (S7 : QMem), 0 ≤ i → i + f = 48 → Kq (fun o f i => o = m ∧ (f = 1 ∨ f = 2 ∨ f = 3) ∧ 0 ≤ i ∧ i < 48) S6 S7 → (∀ k, 0 ≤ k → k < i → S7.1 m 1 k = S.1 m 7 (x + 4 + k) / 100 ∧ S7.1 m 2 k = S.1 m 7 (x + 4 + k) % 100 ∧ S7.1 m 3 k = S.1 m 7 (x + 52 + k)) → w_Mo_restore_82 Λ (fun r2 S2 => tn u0 = r2 ∧ Nxt Λ T m ix S2) (f + 1) m x i S7 := by
        intro f
        induction f with
        | zero =>
          intro i S7 j0 hii k7 hk
          have i48 : i = 48 := by omega
          rw [w_Mo_restore_82]
          refine ⟨by unfold inR; omega, fun _ => ?_, fun y => by omega⟩
          have M0 : MT S7 m 0 (tn u0) (tl u0) (tv u0) (tp u0) := by
            refine ⟨by rw [k7.at (by omega)]; exact b0, fun k k0 k1 => ?_⟩
            rw [show (24 * 0 + k : Int) = k by omega]
            obtain ⟨h1, h2, h3⟩ := hk k k0 (by omega)
            obtain ⟨y1, y2⟩ := xa k k0 k1
            have wr := w0.2 k k0 k1
            rw [h1, h2, h3, y1, y2]
            exact ⟨by omega, by omega, rfl⟩
          have M1 : MT S7 m 1 (tn u1) (tl u1) (tv u1) (tp u1) := by
            refine ⟨by rw [k7.at (by omega)]; exact b1, fun k k0 k1 => ?_⟩
            rw [show (24 * 1 + k : Int) = 24 + k by omega]
            obtain ⟨h1, h2, h3⟩ := hk (24 + k) (by omega) (by omega)
            obtain ⟨y1, y2⟩ := xb k k0 k1
            have wr := w1.2 k k0 k1
            rw [h1, h2, h3, y1, y2]
            exact ⟨by omega, by omega, rfl⟩
          have rg7 : iRG m S7 := fun i i0 i1 => by
            by_cases q : i < 48
            · obtain ⟨h1, h2, h3⟩ := hk i i0 (by omega)
              have := xr i i0 q
              rw [h1, h2]
              omega
            · rw [k7.at (by omega), k7.at (by omega), k26.at (by omega), k26.at (by omega), em, em]
              exact i7 i i0 i1
          refine s_Mo_changes a1 w0 w1 M0 M1 (fun S8 K8 h20 h6 W8 => ?_)
          have K27 : KI ix (fun k f => k = 1 ∧ f ≤ 5) S2 S7 := by
            refine ⟨k7.1.trans k26.1, fun o f i w => ?_⟩
            rw [k7.at (fun y => w ⟨by rw [y.1]; exact a1, by have := y.2.1; omega⟩), k26.at (fun y => w ⟨by rw [y.1]; exact a1, by have := y.2; omega⟩)]
          have K28 : KI ix (fun k f => k = 1 ∧ (f ≤ 6 ∨ f = 18 ∨ f = 19 ∨ f = 20)) S2 S8 := (K27.mono (fun k f y => by omega)).tr (K8.mono (fun k f y => by unfold PCh at y; omega))
          have eT : ∀ f i, S8.1 T f i = S2.1 T f i := fun f i => K28.at a0 (by omega)
          have e9 : ∀ f i, S8.1 (yR Λ T 7 0) f i = S2.1 (yR Λ T 7 0) f i := fun f i => K28.at a9 (by omega)
          refine ⟨W8.1.1.1.symm, u0, u1, l', p', 0, o, IV_new (iTR_sg K28.1 tr2) (WC_sg tr2 (K28.sg (fun k f i y => by unfold RTC at y; omega)) wc2) W8 ⟨⟨?_, ?_, g2.2⟩, ?_, ?_, g3.2⟩ (iRG_sg a1 (K8.sg (fun k f i y => by unfold RRG at y; unfold PCh; omega)) rg7) (by rw [eT]; exact h11) (by rw [eT]; exact h12) (by rw [eT]; exact h13) h6 h20 (fun x x0 x1 => by rw [e9, e9, e9, e9]; exact hC x x0 x1) (iRS_sg hss tr2 (K28.sg (fun k f i y => by unfold RRS RTX RSV ROU at y; omega)) rs2)⟩
          · rw [K28.at a3 (by omega), K2.at a3 (by unfold PFo; omega), q2]; exact g2.1
          · rw [K8.at a1 (by unfold PCh; omega), k7.at (by omega)]; exact b2
          · rw [K28.at a3 (by omega), K2.at a3 (by unfold PFo; omega), q3]; exact g3.1
          · rw [K8.at a1 (by unfold PCh; omega), k7.at (by omega)]; exact b3
        | succ f ih =>
          intro i S7 j0 hii k7 hk
          have rr := xr i j0 (by omega)
          have c7 : ∀ i, S7.1 m 7 i = S.1 m 7 i := fun i => by rw [k7.at (by omega), e7]
          rw [w_Mo_restore_82, c7]
          refine ⟨by unfold inR; omega, fun y => by omega, fun _ => ⟨by omega, ⟨by omega, by unfold inR; omega⟩, by omega, ?_⟩⟩
          intro S8 e8
          have c8 : ∀ i, S8.1 m 7 i = S.1 m 7 i := fun i => by rw [e8]; simp [q_st]; exact c7 i
          rw [c8]
          refine ⟨by omega, ⟨by omega, by unfold inR; omega⟩, by omega, ?_⟩
          intro S9 e9
          have c9 : ∀ i, S9.1 m 7 i = S.1 m 7 i := fun i => by rw [e9]; simp [q_st]; exact c8 i
          refine ⟨by omega, by omega, ?_⟩
          rw [c9]
          intro Sa ea
          refine ih (i + 1) Sa (by omega) (by omega) (by rw [ea, e9, e8]; exact ((k7.st ⟨rfl, by omega, by omega, by omega⟩).st ⟨rfl, by omega, by omega, by omega⟩).st ⟨rfl, by omega, by omega, by omega⟩) (fun k k0 k1 => ?_)
          by_cases q : k = i
          · rw [q, ea, e9, e8]
            refine ⟨?_, ?_, ?_⟩
            · rw [q_st_ne (by omega), q_st_ne (by omega), q_st_eq]
            · rw [q_st_ne (by omega), q_st_eq]
            · rw [q_st_eq]
          · have h := hk k k0 (by omega)
            rw [ea, e9, e8]
            refine ⟨?_, ?_, ?_⟩
            · rw [q_st_ne (by omega), q_st_ne (by omega), q_st_ne (by omega)]; exact h.1
            · rw [q_st_ne (by omega), q_st_ne (by omega), q_st_ne (by omega)]; exact h.2.1
            · rw [q_st_ne (by omega), q_st_ne (by omega), q_st_ne (by omega)]; exact h.2.2
      exact ⟨_, key 48 0 S6 (by omega) (by omega) Kq.rf (fun k a b => by omega)⟩
  · unfold w_Mo_restore
    exact s_Mo_in hj (by unfold inR; omega) (by unfold inR; omega) (fun y => by omega) (fun _ => ⟨by unfold inR; omega, fun y => absurd rfl y, fun _ => ⟨rfl, _, _, _, _, _, _, hi⟩⟩)
end
