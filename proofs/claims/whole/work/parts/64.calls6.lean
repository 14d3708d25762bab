/-! the calls, sixth part: save, restore -/
section
variable {Λ : QLay} {T m : Nat} {ix : Nat → Nat} {S S' : QMem} {t0 t1 : TT} {l p : Int} {n : Nat} {o : OB}
theorem cT_cp {a b : Nat} {t : TT} (hw : wfT t) (h0 : S'.1 a 0 0 = S.1 b 0 0) (hc : ∀ (f : Nat) (k : Int), 1 ≤ f → f ≤ 9 → 0 ≤ k → k < 24 → S'.1 a f k = S.1 b f k) (h : cT S b t) : cT S' a t := by
  have n := tn_rng hw
  obtain ⟨h1, h2, h3⟩ := h
  refine ⟨by rw [h0]; exact h1, fun k k0 k1 => ?_, fun k k0 k1 => ?_⟩
  · have c : ∀ f, 1 ≤ f → f ≤ 9 → S'.1 a f k = S.1 b f k := fun f f1 f9 => hc f k f1 f9 k0 (by omega)
    rw [c 1 (by omega) (by omega), c 2 (by omega) (by omega), c 3 (by omega) (by omega), c 4 (by omega) (by omega), c 5 (by omega) (by omega), c 6 (by omega) (by omega), c 7 (by omega) (by omega), c 8 (by omega) (by omega)]
    exact h2 k k0 k1
  · have r := pix_rng hw.1 k0 k1
    rw [hc 9 _ (by omega) (by omega) r.1 (by omega)]
    exact h3 k k0 k1
theorem s_Se_copy {d s : Nat} {u0 u1 : TT} {Q : QMem → Prop} (h : WC s S u0 u1) (n00 : S.2 d 0 ≠ S.2 s 0) (n01 : S.2 d 0 ≠ S.2 s 1) (n11 : S.2 d 1 ≠ S.2 s 1) (nd : S.2 d 0 ≠ S.2 d 1) (ns0 : s ≠ S.2 d 0) (ns1 : s ≠ S.2 d 1) (nds : d ≠ s) (d0 : d ≠ S.2 d 0) (d1 : d ≠ S.2 d 1)
    (hq : ∀ S', Kp (fun o f => o = S.2 d 0 ∨ o = S.2 d 1 ∨ (o = d ∧ (f = 2 ∨ f = 3))) S S' → WC d S' u0 u1 → S'.1 d 2 0 = S.1 s 2 0 → S'.1 d 3 0 = S.1 s 3 0 → Q S') : w_Se_copy Λ d s S Q := by
  unfold w_Se_copy
  intro x0 hx0 y0 hy0
  rw [hx0, hy0]
  refine s_Tr_copy n00 (fun S1 k1 z1 c1 => ?_)
  intro x1 hx1 y1 hy1
  rw [hx1, hy1, k1.1]
  refine s_Tr_copy n11 (fun S2 k2 z2 c2 => ?_)
  intro S3 e3 S4 e4
  have k3 : Kp (fun o f => o = d ∧ (f = 2 ∨ f = 3)) S2 S3 := by rw [e3]; exact Kp.rf.st ⟨rfl, Or.inl rfl⟩
  have k4 : Kp (fun o f => o = d ∧ (f = 2 ∨ f = 3)) S3 S4 := by rw [e4]; exact Kp.rf.st ⟨rfl, Or.inr rfl⟩
  have k34 := k3.tr k4
  have g0 : cT S2 (S.2 d 0) u0 := cT_kp k2 (fun f => nd) (cT_cp h.2.2.1 z1 c1 h.1)
  have g1 : cT S2 (S.2 d 1) u1 := cT_cp h.2.2.2 z2 c2 (cT_kp k1 (fun f y => n01 y.symm) h.2.1)
  refine hq S4 (((k1.mono (fun o f y => Or.inl y)).tr (k2.mono (fun o f y => Or.inr (Or.inl y)))).tr (k34.mono (fun o f y => Or.inr (Or.inr y)))) ⟨?_, ?_, h.2.2⟩ ?_ ?_
  · rw [k34.1, k2.1, k1.1]; exact cT_kp k34 (fun f y => d0 y.1.symm) g0
  · rw [k34.1, k2.1, k1.1]; exact cT_kp k34 (fun f y => d1 y.1.symm) g1
  · have q4 : S4.1 d 2 0 = S3.1 d 2 0 := by rw [e4]; simp [q_st]
    have q3 : S3.1 d 2 0 = S2.1 s 2 0 := by rw [e3]; simp [q_st]
    rw [q4, q3, k2.at ns1, k1.at ns0]
  · have q4 : S4.1 d 3 0 = S3.1 s 3 0 := by rw [e4]; simp [q_st]
    rw [q4, k3.at (fun y => nds y.1.symm), k2.at ns1, k1.at ns0]
theorem s_TD_isSlot {x : Int} {Q : Int → QMem → Prop} (hx : inR x) (h1 : x = 0 ∨ x = 1 → Q 1 S) (h0 : ¬ (x = 0 ∨ x = 1) → Q 0 S) : w_TD_isSlot Λ x S Q := by
  unfold w_TD_isSlot
  exact ⟨hx, fun z => h0 (by omega), fun z => ⟨hx, fun w => h0 (by omega), fun w => h1 (by omega)⟩⟩
theorem slot_ix {j : Int} (hj : j = 0 ∨ j = 1) (hs : SP Λ T m ix) (hr : iTR Λ T ix S) : ix (yR Λ T 2 j) = 4 + j.toNat ∧ ix (S.2 (yR Λ T 2 j) 0) = 17 + 2 * j.toNat ∧ ix (S.2 (yR Λ T 2 j) 1) = 18 + 2 * j.toNat := by
  obtain ⟨a0, a1, a2, a3, a4, a5, _⟩ := hs
  rcases hj with z | z <;> rw [z]
  · exact ⟨a4, hr.2.1.1, hr.2.1.2⟩
  · exact ⟨a5, hr.2.2.1, hr.2.2.2⟩
theorem iSV_keep {j : Int} (h2 : S'.2 = S.2) (hT : S'.1 T 3 j = S.1 T 3 j) (h8 : S'.1 m 8 j = S.1 m 8 j) (h7 : ∀ i, 150 * j ≤ i → i < 150 * j + 150 → S'.1 m 7 i = S.1 m 7 i) (hc : ∀ f i, S'.1 (yR Λ T 2 j) f i = S.1 (yR Λ T 2 j) f i) (h0 : ∀ f i, S'.1 (S.2 (yR Λ T 2 j) 0) f i = S.1 (S.2 (yR Λ T 2 j) 0) f i) (h1 : ∀ f i, S'.1 (S.2 (yR Λ T 2 j) 1) f i = S.1 (S.2 (yR Λ T 2 j) 1) f i) (hi : iSV Λ T m S j) : iSV Λ T m S' j := by
  unfold iSV
  rw [hT, h8]
  rcases hi with z | ⟨z1, z2, u0, u1, l, p, z3, z4, z5, z6⟩
  · exact Or.inl z
  · have n0 := tn_rng z3.2.2.1
    have n1 := tn_rng z3.2.2.2
    obtain ⟨y1, y2, y3, y4⟩ := z6
    refine Or.inr ⟨z1, z2, u0, u1, l, p, ⟨?_, ?_, z3.2.2⟩, by rw [hc]; exact z4, by rw [hc]; exact z5, ⟨?_, fun i i0 i1 => ?_, fun i i0 i1 => ?_, fun i i0 i1 => ?_⟩⟩
    · rw [h2]
      unfold cT CT
      simp only [h0]
      exact z3.1
    · rw [h2]
      unfold cT CT
      simp only [h1]
      exact z3.2.1
    · rw [h7 (150 * j) (by omega) (by omega), h7 (150 * j + 1) (by omega) (by omega), h7 (150 * j + 2) (by omega) (by omega), h7 (150 * j + 3) (by omega) (by omega)]; exact y1
    · rw [h7 (150 * j + 4 + i) (by omega) (by omega)]; exact y2 i i0 i1
    · rw [h7 (150 * j + 4 + i) (by omega) (by omega), h7 (150 * j + 52 + i) (by omega) (by omega)]; exact y3 i i0 i1
    · rw [h7 (150 * j + 4 + (24 + i)) (by omega) (by omega), h7 (150 * j + 52 + (24 + i)) (by omega) (by omega)]; exact y4 i i0 i1
def PSv (k f : Nat) : Prop := (17 ≤ k ∧ k ≤ 20) ∨ ((k = 4 ∨ k = 5) ∧ (f = 2 ∨ f = 3)) ∨ (k = 0 ∧ f = 3) ∨ (k = 1 ∧ (f = 7 ∨ f = 8))
theorem IV_save (hs : SP Λ T m ix) (hi : IV Λ T m ix S t0 t1 l p n o) (K : KI ix PSv S S') (v0 : iSV Λ T m S' 0) (v1 : iSV Λ T m S' 1) : IV Λ T m ix S' t0 t1 l p n o := by
  have hss := hs
  obtain ⟨a0, a1, _⟩ := hs
  obtain ⟨i1, i2, i3, i4, i5, i6, i7, i8, i9, i10, i11, i12⟩ := hi
  exact ⟨iTX_sg hss (K.sg (fun k f i y => by unfold RTX at y; unfold PSv; omega)) i1, iTR_sg K.1 i2, WC_sg i2 (K.sg (fun k f i y => by unfold RTC at y; unfold PSv; omega)) i3, WM_sg a1 (K.sg (fun k f i y => by unfold RTM at y; unfold PSv; omega)) i4, iLP_sg hss (K.sg (fun k f i y => by unfold RLP at y; unfold PSv; omega)) i5, ⟨v0, v1⟩, iRG_sg a1 (K.sg (fun k f i y => by unfold RRG at y; unfold PSv; omega)) i7, iAC_sg hss i3.2.2.1 i3.2.2.2 (K.sg (fun k f i y => by unfold RAC at y; unfold PSv; omega)) i8, iAM_sg a1 (K.sg (fun k f i y => by unfold RAM at y; unfold PSv; omega)) i9, iWK_sg hss (K.sg (fun k f i y => by unfold RWK at y; unfold PSv; omega)) i10, iDI_sg a0 (K.sg (fun k f i y => by unfold RDI at y; unfold PSv; omega)) i11, iOU_sg hss (K.sg (fun k f i y => by unfold ROU at y; unfold PSv; omega)) i12⟩
theorem c_save {j : Int} (hs : SP Λ T m ix) (hj : inR j) (hi : IV Λ T m ix S t0 t1 l p n o) : w_TD_save Λ T j S (fun r S1 => w_Mo_save Λ m j S1 (fun r2 S2 => r = r2 ∧ Nxt Λ T m ix S2)) := by
  have hss := hs
  obtain ⟨a0, a1, a2, a3, a4, a5, a6, a7, a8, a9, _⟩ := hs
  unfold w_TD_save
  refine s_TD_isSlot hj (fun z => ⟨by unfold inR; omega, fun _ => ⟨by omega, ?_⟩, fun y => by omega⟩) (fun z => ⟨by unfold inR; omega, fun y => absurd rfl y, fun _ => ?_⟩)
  · have hi0 := hi
    obtain ⟨i1, i2, i3, i4, i5, i6, i7, i8, i9, i10, i11, i12⟩ := hi
    have n0 := tn_rng i3.2.2.1
    have n1 := tn_rng i3.2.2.2
    obtain ⟨r0, r1, rne⟩ := iTR_r i2
    obtain ⟨s4, s5, s6⟩ := slot_ix z hss i2
    refine s_Se_copy i3 (fun y => by have := congrArg ix y; omega) (fun y => by have := congrArg ix y; omega) (fun y => by have := congrArg ix y; omega) (fun y => by have := congrArg ix y; omega) (fun y => by have := congrArg ix y; omega) (fun y => by have := congrArg ix y; omega) (fun y => by have := congrArg ix y; omega) (fun y => by have := congrArg ix y; omega) (fun y => by have := congrArg ix y; omega) (fun S1 k1 wc1 q2 q3 => ⟨by omega, ?_⟩)
    intro S2 e2 a ha
    have K1 : KI ix PSv S S1 := Kp.mono k1 (fun o f y => by
      show PSv (ix o) f
      unfold PSv
      rcases y with y | y | y
      · rw [y, s5]; omega
      · rw [y, s6]; omega
      · rw [y.1, s4]; omega)
    have K2 := ki1 a0 e2
    have K12 : KI ix PSv S S2 := K1.tr (K2.mono (fun k f y => by unfold PSv; omega))
    have an : S2.1 a 0 0 = tn t0 := by
      rw [ha, K12.1, K12.at (k := ix (S.2 (yR Λ T 1 0) 0)) rfl (by unfold PSv; omega)]
      exact i3.1.1
    rw [an]
    have em : ∀ f i, f ≠ 7 → f ≠ 8 → S2.1 m f i = S.1 m f i := fun f i h7 h8 => K12.at a1 (by unfold PSv; omega)
    have em1 : ∀ f i, S2.1 m f i = S.1 m f i := fun f i => by
      rw [K2.at a1 (by omega)]
      exact k1.at (fun y => by
        rcases y with y | y | y
        · have := congrArg ix y; omega
        · have := congrArg ix y; omega
        · have := congrArg ix y.1; omega)
    unfold w_Mo_save
    refine s_Mo_in hj (by unfold inR; omega) (by unfold inR; omega) (fun _ => ⟨by unfold inR; omega, fun _ => ?_, fun y => by omega⟩) (fun y => by omega)
    intro x hx
    refine ⟨by omega, ?_⟩
    intro S3 e3
    refine ⟨by omega, ?_⟩
    intro S4 e4
    refine ⟨by omega, ?_⟩
    intro S5 e5
    refine ⟨by omega, ?_⟩
    intro S6 e6
    have k26 : Kq (fun o f i => o = m ∧ f = 7 ∧ x ≤ i ∧ i < x + 4) S2 S6 := by
      rw [e6, e5, e4, e3]
      exact (((Kq.rf.st ⟨rfl, rfl, by omega, by omega⟩).st ⟨rfl, rfl, by omega, by omega⟩).st ⟨rfl, rfl, by omega, by omega⟩).st ⟨rfl, rfl, by omega, by omega⟩
    have b0 : S6.1 m 7 x = tn t0 := by
      have h : S6.1 m 7 x = S2.1 m 0 0 := by rw [e6, e5, e4, e3]; simp [q_st]; omega
      rw [h, em1]; exact i4.1.1.1
    have b1 : S6.1 m 7 (x + 1) = tn t1 := by
      have h : S6.1 m 7 (x + 1) = S2.1 m 0 1 := by rw [e6, e5, e4, e3]; simp [q_st]
      rw [h, em1]; exact i4.2.1.1.1
    have b2 : S6.1 m 7 (x + 2) = l := by
      have h : S6.1 m 7 (x + 2) = S2.1 m 4 0 := by rw [e6, e5, e4, e3]; simp [q_st]
      rw [h, em1]; exact i5.1.2.1
    have b3 : S6.1 m 7 (x + 3) = p := by
      have h : S6.1 m 7 (x + 3) = S2.1 m 5 0 := by rw [e6, e5, e4, e3]; simp [q_st]
      rw [h, em1]; exact i5.2.2.1
    have key : ∀ (f : Nat) (i : Int) (S7 : QMem), 0 ≤ i → i + f = 48 → Kq (fun o f i => o = m ∧ f = 7 ∧ x + 4 ≤ i ∧ i < x + 100) S6 S7 → (∀ k, 0 ≤ k → k < i → S7.1 m 7 (x + 4 + k) = 100 * S.1 m 1 k + S.1 m 2 k ∧ S7.1 m 7 (x + 52 + k) = S.1 m 3 k) → w_Mo_save_70 Λ (fun r2 S2 => tn t0 = r2 ∧ Nxt Λ T m ix S2) (f + 1) m j x i S7 := by
      intro f
      induction f with
      | zero =>
        intro i S7 j0 hii k7 hk
        have i48 : i = 48 := by omega
        rw [w_Mo_save_70]
        refine ⟨by unfold inR; omega, fun _ => ⟨by omega, ?_⟩, fun y => by omega⟩
        intro S8 e8
        have K8 := ki1 a1 e8
        have K27 : KI ix (fun k f => k = 1 ∧ f = 7) S2 S7 := by
          refine ⟨k7.1.trans k26.1, fun o f i w => ?_⟩
          rw [k7.at (fun y => w ⟨by rw [y.1]; exact a1, y.2.1⟩), k26.at (fun y => w ⟨by rw [y.1]; exact a1, y.2.1⟩)]
        have K28 : KI ix (fun k f => k = 1 ∧ (f = 7 ∨ f = 8)) S2 S8 := (K27.mono (fun k f y => by omega)).tr (K8.mono (fun k f y => by omega))
        have KA : KI ix PSv S S8 := K12.tr (K28.mono (fun k f y => by unfold PSv; omega))
        have K18 : KI ix (fun k f => (k = 0 ∧ f = 3) ∨ (k = 1 ∧ (f = 7 ∨ f = 8))) S1 S8 := (K2.mono (fun k f y => by omega)).tr (K28.mono (fun k f y => by omega))
        have m7 : ∀ i, S8.1 m 7 i = S7.1 m 7 i := fun i => by rw [e8]; simp [q_st]
        have new : iSV Λ T m S8 j := by
          refine Or.inr ⟨?_, ?_, t0, t1, l, p, ?_, ?_, ?_, ⟨?_, fun i i0 i1 => ?_, fun i i0 i1 => ?_, fun i i0 i1 => ?_⟩⟩
          · rw [K28.at a0 (by omega), e2]; simp [q_st]
          · rw [e8]; simp [q_st]
          · refine WC_kp K18 (fun f y => ?_) (fun f y => ?_) wc1
            · rw [k1.1] at y
              have y' : (ix (S.2 (yR Λ T 2 j) 0) = 0 ∧ f = 3) ∨ (ix (S.2 (yR Λ T 2 j) 0) = 1 ∧ (f = 7 ∨ f = 8)) := y
              omega
            · rw [k1.1] at y
              have y' : (ix (S.2 (yR Λ T 2 j) 1) = 0 ∧ f = 3) ∨ (ix (S.2 (yR Λ T 2 j) 1) = 1 ∧ (f = 7 ∨ f = 8)) := y
              omega
          · rw [K18.at s4 (by omega), q2]; exact ⟨i5.1.1, i5.1.2.2⟩
          · rw [K18.at s4 (by omega), q3]; exact ⟨i5.2.1, i5.2.2.2⟩
          · rw [← hx, m7, m7, m7, m7, k7.at (by omega), k7.at (by omega), k7.at (by omega), k7.at (by omega)]
            exact ⟨b0, b1, b2, b3⟩
          · rw [← hx, m7, (hk i i0 (by omega)).1]
            have := i7 i i0 (by omega)
            omega
          · rw [← hx, m7, m7, (hk i i0 (by omega)).1, (hk i i0 (by omega)).2]
            have h := i4.1.1.2 i i0 i1
            rw [show (24 * 0 + i : Int) = i by omega] at h
            rw [h.1, h.2.1, h.2.2]
            exact ⟨rfl, rfl⟩
          · rw [← hx, m7, m7, (hk (24 + i) (by omega) (by omega)).1, (hk (24 + i) (by omega) (by omega)).2]
            have h := i4.2.1.1.2 i i0 i1
            rw [show (24 * 1 + i : Int) = 24 + i by omega] at h
            rw [h.1, h.2.1, h.2.2]
            exact ⟨rfl, rfl⟩
        have oth : ∀ j', (j' = 0 ∨ j' = 1) → j' ≠ j → iSV Λ T m S j' → iSV Λ T m S8 j' := fun j' z' nj => by
          obtain ⟨w4, w5, w6⟩ := slot_ix z' hss i2
          have kk : ∀ a f i, (ix a = ix (yR Λ T 2 j') ∨ ix a = ix (S.2 (yR Λ T 2 j') 0) ∨ ix a = ix (S.2 (yR Λ T 2 j') 1)) → S8.1 a f i = S.1 a f i := fun a f i h => by
            rw [K18.at (k := ix a) rfl (by omega)]
            exact k1.at (fun y => by
              rcases y with y | y | y
              · have := congrArg ix y; omega
              · have := congrArg ix y; omega
              · have := congrArg ix y.1; omega)
          refine iSV_keep KA.1 ?_ ?_ (fun i h0 h1 => ?_) (fun f i => kk _ f i (Or.inl rfl)) (fun f i => kk _ f i (Or.inr (Or.inl rfl))) (fun f i => kk _ f i (Or.inr (Or.inr rfl)))
          · rw [K28.at a0 (by omega), e2]
            simp [q_st, nj]
            exact k1.at (fun y => by
              rcases y with y | y | y
              · have := congrArg ix y; omega
              · have := congrArg ix y; omega
              · have := congrArg ix y.1; omega)
          · rw [e8]
            simp [q_st, nj]
            rw [K27.at a1 (by omega), em1]
          · rw [m7, k7.at (by omega), k26.at (by omega), em1]
        have all : ∀ j', (j' = 0 ∨ j' = 1) → iSV Λ T m S j' → iSV Λ T m S8 j' := fun j' z' h => by
          by_cases q : j' = j
          · rw [q]; exact new
          · exact oth j' z' q h
        refine ⟨?_, t0, t1, l, p, n, o, IV_save hss hi0 KA (all 0 (Or.inl rfl) i6.1) (all 1 (Or.inr rfl) i6.2)⟩
        rw [KA.at a1 (by unfold PSv; omega)]
        exact i4.1.1.1.symm
      | succ f ih =>
        intro i S7 j0 hii k7 hk
        rw [w_Mo_save_70]
        refine ⟨by unfold inR; omega, fun y => by omega, fun _ => ⟨by omega, by omega, by omega, ?_⟩⟩
        intro S8 e8
        refine ⟨by omega, by omega, ?_⟩
        intro S9 e9
        have g1 : ∀ f i, f ≠ 7 → S7.1 m f i = S.1 m f i := fun f i h => by rw [k7.at (fun y => h y.2.1), k26.at (fun y => h y.2.1), em1]
        have g2 : S8.1 m 3 i = S.1 m 3 i := by
          have : S8.1 m 3 i = S7.1 m 3 i := by rw [e8]; simp [q_st]
          rw [this, g1 3 i (by omega)]
        rw [g1 1 i (by omega), g1 2 i (by omega)] at e8
        rw [g2] at e9
        refine ih (i + 1) S9 (by omega) (by omega) (by rw [e9, e8]; exact (k7.st ⟨rfl, rfl, by omega, by omega⟩).st ⟨rfl, rfl, by omega, by omega⟩) (fun k k0 k1 => ?_)
        by_cases q : k = i
        · rw [q, e9, e8]
          refine ⟨?_, ?_⟩
          · rw [q_st_ne (by omega), q_st_eq]
          · rw [q_st_eq]
        · rw [e9, e8]
          refine ⟨?_, ?_⟩
          · rw [q_st_ne (by omega), q_st_ne (by omega)]; exact (hk k k0 (by omega)).1
          · rw [q_st_ne (by omega), q_st_ne (by omega)]; exact (hk k k0 (by omega)).2
    exact ⟨_, key 48 0 S6 (by omega) (by omega) Kq.rf (fun k a b => by omega)⟩
  · unfold w_Mo_save
    exact s_Mo_in hj (by unfold inR; omega) (by unfold inR; omega) (fun y => by omega) (fun _ => ⟨by unfold inR; omega, fun y => absurd rfl y, fun _ => ⟨rfl, _, _, _, _, _, _, hi⟩⟩)
end
