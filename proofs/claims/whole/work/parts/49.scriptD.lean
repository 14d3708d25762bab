/-! the class's script, whole -/
theorem CZ_kp {Λ : QLay} {P : Nat → Nat → Prop} {S S' : QMem} {sc : Nat} {t1 : TT} {Z : ZZ} (hk : Kp P S S') (hZ : CZ Λ S sc t1 Z) (hn : zn Z ≤ 96) (h1 : ∀ f, f = 1 ∨ f = 3 ∨ f = 4 → ¬ P sc f) (h2 : ∀ f, ¬ P (yR Λ sc 2 0) f) (h3 : ∀ i f, 0 ≤ i → i < 96 → ¬ P (yR Λ sc 0 i) f) : CZ Λ S' sc t1 Z := by
  obtain ⟨a, b, c, d⟩ := hZ
  refine ⟨CW_kp hk h2 a, by rw [hk.at (h1 1 (by omega))]; exact b, fun i hi => CS_kp hk (fun f => h3 (i : Int) f (by omega) (by omega)) (c i hi), fun y y0 y1 => ?_⟩
  rw [hk.at (h1 3 (by omega)), hk.at (h1 4 (by omega))]
  exact d y y0 y1
theorem Psf_sc {Λ : QLay} {sc n : Nat} (hn : n ≤ 95) {S S' : QMem} (h : Kp (Psf Λ sc n) S S') : Kp (Psc Λ sc) S S' := h.mono (fun o f z => by
  rcases z with z | z | z
  · exact Or.inl z.1
  · exact Or.inr (Or.inl z)
  · exact Or.inr (Or.inr ⟨(n : Int), by omega, by omega, z⟩))
theorem s_Sc_update {Λ : QLay} {sc : Nat} {x v : Int} {S : QMem} {Q : QMem → Prop} {t0 t1 : TT} {Z : ZZ} (hs : ScS Λ sc) (hZ : CZ Λ S sc t1 Z) (hI : ZI t0 t1 Z) (x0 : 0 ≤ x) (x1 : x < 48) (hx : wa (zw Z) x ≠ -1) (hv : 0 ≤ v ∧ v ≤ 99) (hn : zn Z ≤ 95)
    (hq : ∀ S', Kp (Psf Λ sc (zn Z)) S S' → CZ Λ S' sc t1 (updZ Z x v) → Q S') : w_Sc_update Λ sc x v S Q := by
  obtain ⟨d0, d1, d2⟩ := hs
  obtain ⟨o1, o2⟩ := d1 (zn Z : Int) (by omega) (by omega)
  obtain ⟨z1, z2, z3, z4⟩ := hZ
  unfold w_Sc_update
  refine s_Sc_addStep z2 hn ?_
  intro S1 e1
  refine ⟨by omega, ?_⟩
  intro S2 e2
  have k1 : Kp (fun q f => (q = sc ∧ f = 1) ∨ q = yR Λ sc 0 (zn Z : Int)) S S1 := by
    rw [e1]; exact (((Kp.rf.st (Or.inl ⟨rfl, rfl⟩)).st (Or.inr rfl)).st (Or.inr rfl)).st (Or.inr rfl)
  have nc : ∀ f, ¬ ((yR Λ sc 2 0 = sc ∧ f = 1) ∨ yR Λ sc 2 0 = yR Λ sc 0 (zn Z : Int)) := fun f z => by
    rcases z with z | z
    · exact d0 z.1
    · exact o2 z.symm
  have ns : ∀ f, f ≠ 1 → ¬ ((sc = sc ∧ f = 1) ∨ sc = yR Λ sc 0 (zn Z : Int)) := fun f hf z => by
    rcases z with z | z
    · exact hf z.2
    · exact o1 z.symm
  have cx := (z1 x x0 x1).2 hx
  rw [k1.at (nc 1), cx.2.2] at e2
  have k2 : Kp (fun q f => (q = sc ∧ f = 1) ∨ q = yR Λ sc 0 (zn Z : Int)) S S2 := by rw [e2]; exact k1.st (Or.inr rfl)
  have hok : okS (zw Z) (0, x, 0, 0, 0, v, 0, 0, wv (zw Z) x) := ⟨⟨x0, x1⟩, Or.inl ⟨rfl, hx, rfl, hv⟩⟩
  have cs : CS S2 (yR Λ sc 0 (zn Z : Int)) (0, x, 0, 0, 0, v, 0, 0, wv (zw Z) x) := by
    refine CS_0 ?_ ?_ ?_ ?_ <;> rw [e2, e1] <;> simp [q_st]
  refine s_Wt_carryOut cs o2 (CW_kp k2 nc z1) hI.2.1 hok (fun S3 hk3 hC3 _ => ?_)
  have K3 : Kp (Psf Λ sc (zn Z)) S S3 := (k2.mono (fun q f z => by
    rcases z with z | z
    · exact Or.inl ⟨z.1, Or.inl z.2⟩
    · exact Or.inr (Or.inr z))).tr (hk3.mono (fun q f z => Or.inr (Or.inl z)))
  refine hq S3 K3 (CZ_add ⟨d0, d1, d2⟩ ⟨z1, z2, z3, z4⟩ hn K3 hC3 ?_ (CS_kp hk3 (fun f z => o2 z) cs) (fun k k0 k1 => ?_))
  · rw [hk3.at (fun z => d0 z.symm), e2, e1]; simp [q_st, o1.symm]
  · rw [hk3.at (fun z => d0 z.symm), hk3.at (fun z => d0 z.symm), k2.at (ns 3 (by omega)), k2.at (ns 4 (by omega))]
    exact z4 k k0 k1
theorem s_Sc_insert {Λ : QLay} {sc tr : Nat} {y : Int} {S : QMem} {Q : QMem → Prop} {t0 t1 : TT} {Z : ZZ} (hs : ScS Λ sc) (hT : cT S tr t1) (w1 : wfT t1) (ht : ∀ f, ¬ Psc Λ sc tr f) (hZ : CZ Λ S sc t1 Z) (hI : ZI t0 t1 Z) (y0 : 0 ≤ y) (y1 : y < tn t1) (hp : zp Z y = -1) (hr : rm Z (tp t1 y) ≠ -1) (hn : zn Z ≤ 95)
    (hq : ∀ S', Kp (Psf Λ sc (zn Z)) S S' → CZ Λ S' sc t1 (insZ t1 Z y) → Q S') : w_Sc_insert Λ sc tr y S Q := by
  have n1 := tn_rng w1
  have hty := tp_rng w1 y0 y1
  have hA := (ZI_ins w1 hI y0 y1 hp hr).2
  have hrr := ZI_rm w1 hI (y := tp t1 y) (by omega) (by omega) hr
  have hab := hI.2.2.2.2.2.1 y y0 y1 hp
  have hlv := w1.2 y y0 y1
  obtain ⟨d0, d1, d2⟩ := hs
  obtain ⟨o1, o2⟩ := d1 (zn Z : Int) (by omega) (by omega)
  have t1' : tr ≠ sc := fun z => ht 0 (Or.inl z)
  have t3' : tr ≠ yR Λ sc 0 (zn Z : Int) := fun z => ht 0 (Or.inr (Or.inr ⟨(zn Z : Int), by omega, by omega, z⟩))
  obtain ⟨z1, z2, z3, z4⟩ := hZ
  have nc : ∀ f, ¬ ((yR Λ sc 2 0 = sc ∧ f = 1) ∨ yR Λ sc 2 0 = yR Λ sc 0 (zn Z : Int)) := fun f z => by
    rcases z with z | z
    · exact d0 z.1
    · exact o2 z.symm
  have ns : ∀ f, f ≠ 1 → ¬ ((sc = sc ∧ f = 1) ∨ sc = yR Λ sc 0 (zn Z : Int)) := fun f hf z => by
    rcases z with z | z
    · exact hf z.2
    · exact o1 z.symm
  have nt : ∀ f, ¬ ((tr = sc ∧ f = 1) ∨ tr = yR Λ sc 0 (zn Z : Int)) := fun f z => by
    rcases z with z | z
    · exact t1' z.1
    · exact t3' z
  unfold w_Sc_insert w_TD_roomOfInserted
  refine s_Sc_addStep z2 hn ⟨by omega, ?_⟩
  have k0 : Kp (fun q f => (q = sc ∧ f = 1) ∨ q = yR Λ sc 0 (zn Z : Int)) S (q_st (q_st (q_st S sc 1 0 ((zn Z : Int) + 1)) (yR Λ sc 0 (zn Z : Int)) 0 0 1) (yR Λ sc 0 (zn Z : Int)) 1 0 (24 + y)) := ((Kp.rf.st (Or.inl ⟨rfl, rfl⟩)).st (Or.inr rfl)).st (Or.inr rfl)
  rw [k0.at (nt 3), (hT.2.1 y y0 y1).2.2.1]
  refine s_Sc_partnerOf w1 (Z := Z) (fun k k0' k1 => by rw [k0.at (ns 3 (by omega))]; exact (z4 k k0' k1).1) (by omega) (by omega) ?_
  intro S1 e1
  have k1 : Kp (fun q f => (q = sc ∧ f = 1) ∨ q = yR Λ sc 0 (zn Z : Int)) S S1 := by rw [e1]; exact k0.st (Or.inr rfl)
  refine s_Sc_placeFor (cT_kp k1 nt hT) w1 (CW_kp k1 nc z1) hI.2.1 (fun k k0' k1' => by rw [k1.at (ns 3 (by omega)), k1.at (ns 4 (by omega))]; exact z4 k k0' k1') y0 y1 (fun k k0' k1' => ⟨(hI.2.2.2.2.2.2.1 k k0' (by omega)).1, fun _ e2 => ?_⟩) ?_
  · have hm := (hI.2.2.2.2.2.2.1 k k0' (by omega)).2 e2
    have hk := (hI.2.2.2.1 k k0' (by omega)).resolve_left hm.1
    exact ⟨hk.1, hk.2.1, hk.2.2.1⟩
  · intro S2 e2
    have k2 : Kp (fun q f => (q = sc ∧ f = 1) ∨ q = yR Λ sc 0 (zn Z : Int)) S S2 := by rw [e2]; exact k1.st (Or.inr rfl)
    rw [k2.at (nt 1), (hT.2.1 y y0 y1).1]
    refine ⟨by omega, ?_⟩
    intro S3 e3
    have k3 : Kp (fun q f => (q = sc ∧ f = 1) ∨ q = yR Λ sc 0 (zn Z : Int)) S S3 := by rw [e3]; exact k2.st (Or.inr rfl)
    rw [k3.at (nt 2), (hT.2.1 y y0 y1).2.1]
    refine ⟨by omega, ?_⟩
    intro S4 e4
    have k4 : Kp (fun q f => (q = sc ∧ f = 1) ∨ q = yR Λ sc 0 (zn Z : Int)) S S4 := by rw [e4]; exact k3.st (Or.inr rfl)
    have hok : okS (zw Z) (1, 24 + y, rm Z (tp t1 y), plc t1 (zw Z) (zp Z) (zm Z) y, tl t1 y, tv t1 y, 0, 0, 0) := ⟨⟨by show 0 ≤ 24 + y; omega, by show 24 + y < 48; omega⟩, Or.inr (Or.inl ⟨rfl, hab, hrr, hA, hlv.1, hlv.2, by show 24 ≤ 24 + y; omega⟩)⟩
    have cs : CS S4 (yR Λ sc 0 (zn Z : Int)) (1, 24 + y, rm Z (tp t1 y), plc t1 (zw Z) (zp Z) (zm Z) y, tl t1 y, tv t1 y, 0, 0, 0) := by
      refine CS_1 ?_ ?_ ?_ ?_ ?_ ?_ <;> rw [e4, e3, e2, e1] <;> simp [q_st]
    refine s_Wt_carryOut cs o2 (CW_kp k4 nc z1) hI.2.1 hok (fun S5 hk5 hC5 _ => ⟨by omega, ?_⟩)
    have cs5 := CS_kp hk5 (fun f z => o2 z) cs
    have r5 : S5.1 (yR Λ sc 0 (zn Z : Int)) 1 0 = 24 + y := cs5.1.2
    rw [r5]
    intro S6 e6
    refine ⟨by omega, ?_⟩
    intro S7 e7
    have K5 : Kp (Psf Λ sc (zn Z)) S S5 := (k4.mono (fun q f z => by
      rcases z with z | z
      · exact Or.inl ⟨z.1, Or.inl z.2⟩
      · exact Or.inr (Or.inr z))).tr (hk5.mono (fun q f z => Or.inr (Or.inl z)))
    have k67 : Kp (fun q f => q = sc ∧ (f = 3 ∨ f = 4)) S5 S7 := by rw [e7, e6]; exact (Kp.rf.st ⟨rfl, Or.inl rfl⟩).st ⟨rfl, Or.inr rfl⟩
    have K7 : Kp (Psf Λ sc (zn Z)) S S7 := K5.tr (k67.mono (fun q f z => Or.inl ⟨z.1, Or.inr z.2⟩))
    refine hq S7 K7 (CZ_add ⟨d0, d1, d2⟩ ⟨z1, z2, z3, z4⟩ hn K7 (CW_kp k67 (fun f z => d0 z.1) hC5) ?_ (CS_kp k67 (fun f z => o1 z.1) cs5) (fun k k0' k1' => ?_))
    · rw [k67.at (fun z => by have := z.2; omega), hk5.at (fun z => d0 z.symm), e4, e3, e2, e1]; simp [q_st, o1.symm]
    · have h := z4 k k0' k1'
      have a3 : S5.1 sc 3 k = zp Z k := by rw [hk5.at (fun z => d0 z.symm), k4.at (ns 3 (by omega))]; exact h.1
      have a4 : S5.1 sc 4 k = zm Z k := by rw [hk5.at (fun z => d0 z.symm), k4.at (ns 4 (by omega))]; exact h.2
      by_cases q : k = y
      · rw [q, up_s, up_s, e7, e6]; simp [q_st]
      · rw [up_n _ _ q, up_n _ _ q, e7, e6]; simp [q_st, q, a3, a4]
/-- a row lies behind the node and before its end -/
theorem rowF_lo {t1 : TT} (w1 : wfT t1) {Z : ZZ} {y : Int} : ∀ (k : Nat), (k : Int) ≤ y + 1 → (k : Int) ≤ tn t1 → rowF t1 Z y k = (0, fun _ => 0)
  | 0, _, _ => rfl
  | k + 1, h, h2 => by
    have := tp_rng w1 (k := (k : Int)) (by omega) (by omega)
    rw [rowF_n (fun z => by have := z.1; omega)]
    exact rowF_lo w1 k (by omega) (by omega)
theorem rowF_hi {t1 : TT} (w1 : wfT t1) {Z : ZZ} {y : Int} (y0 : 0 ≤ y) (y1 : y < tn t1) (e : Nat) (he : (e : Int) = te t1 y) : ∀ (d : Nat), (e : Int) + d ≤ tn t1 → rowF t1 Z y (e + d) = rowF t1 Z y e
  | 0, _ => rfl
  | d + 1, h => by
    have er := te_rng y1
    rw [show e + (d + 1) = (e + d) + 1 by omega, rowF_n (fun z => by
      have h1 := z.1
      have h2 := (en_le w1.1 (k := ((e + d : Nat) : Int)) (by omega) (by omega)).1
      rw [h1] at h2
      have h2 : ((e + d : Nat) : Int) < te t1 y := h2
      omega)]
    exact rowF_hi w1 y0 y1 e he d (by omega)
theorem s_Sc_gather {Λ : QLay} {sc tr : Nat} {y : Int} {S : QMem} {Q : Int → QMem → Prop} {t0 t1 : TT} {Z : ZZ} (hs : ScS Λ sc) (hT : cT S tr t1) (w1 : wfT t1) (ht : tr ≠ sc) (hZ : CZ Λ S sc t1 Z) (hI : ZI t0 t1 Z) (y0 : -1 ≤ y) (y1 : y < tn t1)
    (hq : ∀ S', Kp (fun o f => o = sc ∧ f = 5) S S' → (∀ i, 0 ≤ i → i < rc t1 Z y → S'.1 sc 5 i = rv t1 Z y i) → Q (rc t1 Z y) S') : w_Sc_gatherChildren Λ sc tr y S Q := by
  have n1 := tn_rng w1
  obtain ⟨z1, z2, z3, z4⟩ := hZ
  obtain ⟨e, he, hee, hye⟩ : ∃ e : Nat, (e : Int) = (if y < 0 then tn t1 else te t1 y) ∧ (e : Int) ≤ tn t1 ∧ y + 1 ≤ (e : Int) := by
    by_cases q : y < 0
    · exact ⟨(tn t1).toNat, by rw [if_pos q]; omega, by omega, by omega⟩
    · have er := te_rng y1
      exact ⟨(te t1 y).toNat, by rw [if_neg q]; omega, by omega, by omega⟩
  have hfin : rowF t1 Z y e = rowF t1 Z y (tn t1).toNat := by
    by_cases q : y < 0
    · rw [if_pos q] at he; rw [show (tn t1).toNat = e by omega]
    · rw [if_neg q] at he
      have := rowF_hi w1 (Z := Z) (y := y) (by omega) y1 e he ((tn t1).toNat - e) (by omega)
      rw [show e + ((tn t1).toNat - e) = (tn t1).toNat by omega] at this
      exact this.symm
  unfold w_Sc_gatherChildren
  refine s_Tr_endOf hT w1.1 ⟨y0, y1⟩ ?_
  intro x hx
  rw [hx]
  have key : ∀ (f k : Nat) (S1 : QMem), (k : Int) + f = e → Kp (fun o f => o = sc ∧ f = 5) S S1 → (∀ i, 0 ≤ i → i < (rowF t1 Z y k).1 → S1.1 sc 5 i = (rowF t1 Z y k).2 i) → w_Sc_gatherChildren_14 Λ Q (f + 1) sc tr y (rowF t1 Z y k).1 (e : Int) (k : Int) S1 := by
    intro f
    induction f with
    | zero =>
      intro k S1 hk hk1 hr
      rw [w_Sc_gatherChildren_14]
      refine ⟨by unfold inR; omega, by unfold inR; omega, fun _ => ?_, fun z => by omega⟩
      have ek : rowF t1 Z y k = rowF t1 Z y (tn t1).toNat := by rw [← hfin, show k = e by omega]
      rw [ek] at hr ⊢
      exact hq S1 hk1 hr
    | succ f ih =>
      intro k S1 hk hk1 hr
      have hkp := tp_rng w1 (k := (k : Int)) (by omega) (by omega)
      have ok := (rowF_ok (t1 := t1) (Z := Z) (y := y) k).1
      have p3 : ∀ j, 0 ≤ j → j < tn t1 → S1.1 sc 3 j = zp Z j := fun j j0 j1 => by rw [hk1.at (fun z => by have := z.2; omega)]; exact (z4 j j0 j1).1
      have ihk := ih (k + 1)
      rw [show ((k + 1 : Nat) : Int) = (k : Int) + 1 by omega] at ihk
      have skip : ¬ inRow t1 Z y (k : Int) → w_Sc_gatherChildren_14 Λ Q (f + 1) sc tr y (rowF t1 Z y k).1 (e : Int) ((k : Int) + 1) S1 := fun h => by
        have := ihk S1 (by omega) hk1
        rw [rowF_n h] at this
        exact this hr
      rw [w_Sc_gatherChildren_14, hk1.at (fun z => ht z.1), (hT.2.1 (k : Int) (by omega) (by omega)).2.2.1]
      refine ⟨by unfold inR; omega, by unfold inR; omega, fun z => by omega, fun _ => ⟨by omega, by unfold inR; omega, by unfold inR; omega, fun z => skip (fun w => z w.1), fun z => ⟨by omega, ?_⟩⟩⟩
      refine s_Sc_partnerOf w1 (Z := Z) p3 (by omega) (by omega) ?_
      rw [p3 (k : Int) (by omega) (by omega)]
      have hzk := hI.2.2.2.1 (k : Int) (by omega) (by omega)
      have hrm : -1 ≤ rm Z y ∧ rm Z y ≤ 48 := by
        by_cases q : rm Z y = -1
        · omega
        · have := ZI_rm w1 hI y0 y1 q; omega
      unfold w_Sc_isBelow
      refine ⟨by unfold inR; omega, fun w => ⟨by unfold inR; omega, fun _ => skip (fun v => v.2.1 w), fun v => absurd rfl v⟩, fun w => ?_⟩
      have hz2 := hzk.resolve_left w
      have hwr := (wfW_rng hI.2.1 hz2.1 hz2.2.1).resolve_left hz2.2.2.1
      rw [hk1.at (fun z => hs.1 z.1), (z1 _ hz2.1 hz2.2.1).1]
      refine ⟨by omega, by unfold inR; omega, by unfold inR; omega, fun v => ⟨by unfold inR; omega, fun _ => skip (fun u => v u.2.2), fun u => absurd rfl u⟩, fun v => ⟨by unfold inR; omega, fun u => by omega, fun _ => ⟨by omega, ?_⟩⟩⟩
      intro S2 e2
      have hin : inRow t1 Z y (k : Int) := ⟨z, w, v⟩
      have := ihk S2 (by omega) (by rw [e2]; exact hk1.st ⟨rfl, rfl⟩)
      rw [rowF_y hin] at this
      refine this (fun i i0 i1 => ?_)
      have i1 : i < (rowF t1 Z y k).1 + 1 := i1
      show S2.1 sc 5 i = up (rowF t1 Z y k).2 (rowF t1 Z y k).1 (k : Int) i
      by_cases q : i = (rowF t1 Z y k).1
      · rw [q, up_s, e2]; simp [q_st]
      · rw [up_n _ _ q, e2]; simp [q_st, q]; exact hr i i0 (by omega)
  have lo := rowF_lo w1 (Z := Z) (y := y) (y + 1).toNat (by omega) (by omega)
  have := key (e - (y + 1).toNat) (y + 1).toNat S (by omega) Kp.rf (fun i a b => by rw [lo] at b; have b : i < 0 := b; omega)
  rw [lo, show (((y + 1).toNat : Nat) : Int) = y + 1 by omega, he] at this
  exact ⟨_, this⟩
/-- what the class reads of a row -/
def rowC (Λ : QLay) (S : QMem) (sc : Nat) (r P : Int → Int) (n : Int) : Prop := ∀ i, 0 ≤ i → i < n → S.1 sc 5 i = r i ∧ (0 ≤ r i ∧ r i < 24) ∧ (0 ≤ S.1 sc 3 (r i) ∧ S.1 sc 3 (r i) < 48) ∧ S.1 (yR Λ sc 2 0) 3 (S.1 sc 3 (r i)) = P i ∧ 0 ≤ P i ∧ P i ≤ 48
theorem rowC_kp {Λ : QLay} {Pr : Nat → Nat → Prop} {S S' : QMem} {sc : Nat} {r P : Int → Int} {n : Int} (hk : Kp Pr S S') (h5 : ¬ Pr sc 5) (h3 : ¬ Pr sc 3) (hc : ¬ Pr (yR Λ sc 2 0) 3) (h : rowC Λ S sc r P n) : rowC Λ S' sc r P n := fun i i0 i1 => by
  rw [hk.at h5, hk.at h3, hk.at hc]; exact h i i0 i1
theorem s_Sc_placeOf {Λ : QLay} {sc : Nat} {S : QMem} {Q : Int → QMem → Prop} {r P : Int → Int} {n i : Int} (h : rowC Λ S sc r P n) (i0 : 0 ≤ i) (i1 : i < n) (hq : Q (P i) S) : w_Sc_placeOf Λ sc (S.1 sc 5 i) S Q := by
  obtain ⟨a, b, c, d, e⟩ := h i i0 i1
  unfold w_Sc_placeOf
  rw [a, d]
  exact ⟨by omega, by omega, hq⟩
theorem s_Sc_measure {Λ : QLay} {sc : Nat} {S : QMem} {Q : Int → QMem → Prop} {r P : Int → Int} {n : Int} (hc : yR Λ sc 2 0 ≠ sc) (hn : 0 ≤ n ∧ n ≤ 24) (hR : rowC Λ S sc r P n)
    (hq : ∀ S', Kp (fun o f => o = sc ∧ f = 6) S S' → (∀ i, 0 ≤ i → i < n → S'.1 sc 6 i = lgR P n n.toNat i) → Q (mx (lgR P n n.toNat) n.toNat) S') : w_Sc_measureSequences Λ sc n S Q := by
  unfold w_Sc_measureSequences
  intro x hx
  rw [hx]
  have keep : ∀ {S' : QMem}, Kp (fun o f => o = sc ∧ f = 6) S S' → rowC Λ S' sc r P n := fun hk => rowC_kp hk (fun z => by have := z.2; omega) (fun z => by have := z.2; omega) (fun z => hc z.1) hR
  have key : ∀ (g f : Nat) (v : Int) (S1 : QMem), (f : Int) + g = n → Kp (fun o f => o = sc ∧ f = 6) S S1 → (∀ i, n - f ≤ i → i < n → S1.1 sc 6 i = lgR P n f i) → isMx (lgR P n f) (n - f) n v → v ≤ 24 → w_Sc_measureSequences_6 Λ Q (g + 1) sc n v (n - 1 - (f : Int)) S1 := by
    intro g
    induction g with
    | zero =>
      intro f v S1 hf hk hl hv hv2
      rw [w_Sc_measureSequences_6]
      refine ⟨by unfold inR; omega, fun _ => ?_, fun z => by omega⟩
      have ef : f = n.toNat := by omega
      rw [ef] at hl hv
      have e := isMx_uniq hv (by have := mx_ok (lgR P n n.toNat) n.toNat; rw [show n - ((n.toNat : Nat) : Int) = 0 by omega]; rw [show ((n.toNat : Nat) : Int) = n by omega] at this; exact this)
      rw [e]
      exact hq S1 hk (fun i i0 i1 => hl i (by omega) i1)
    | succ g ih =>
      intro f v S1 hf hk hl hv hv2
      have hrg := lgR_rng (P := P) (n := n) f (by omega)
      rw [w_Sc_measureSequences_6]
      refine ⟨by unfold inR; omega, fun z => by omega, fun _ => ⟨by omega, ?_⟩⟩
      intro S2 e2 w hw
      rw [hw]
      have inner : ∀ (h k : Nat) (S3 : QMem), (k : Int) + h = f → Kp (fun o f => o = sc ∧ f = 6) S S3 → (∀ i, n - f ≤ i → i < n → S3.1 sc 6 i = lgR P n f i) → S3.1 sc 6 (n - 1 - (f : Int)) = inL P (lgR P n f) (n - 1 - (f : Int)) k → w_Sc_measureSequences_22 Λ (fun v0' v1' v2' v3' S' => w_Sc_measureSequences_6 Λ Q (g + 1) v0' v1' v2' v3' S') Q (h + 1) sc n v (n - 1 - (f : Int)) (n - 1 - (f : Int) + 1 + (k : Int)) S3 := by
        intro h
        induction h with
        | zero =>
          intro k S3 hk3 hkp hl3 hi3
          have hr2 := inL_rng (P := P) (g := lgR P n f) (i := n - 1 - (f : Int)) (n := n) k (by omega) (fun j j0 j1 => hrg j (by omega) j1)
          rw [w_Sc_measureSequences_22, hi3]
          refine ⟨by unfold inR; omega, by unfold inR; omega, fun _ => ⟨by omega, by unfold inR; have := hv.1; omega, by unfold inR; omega, ?_⟩, fun z => by omega⟩
          intro v' hv'
          have ek : k = f := by omega
          rw [ek] at hi3 hr2 hv'
          have el : lgR P n (f + 1) = up (lgR P n f) (n - 1 - (f : Int)) (inL P (lgR P n f) (n - 1 - (f : Int)) f) := rfl
          have := ih (f + 1) v' S3 (by omega) hkp (fun i i0 i1 => by
            rw [el]
            by_cases q : i = n - 1 - (f : Int)
            · rw [q, up_s]; exact hi3
            · rw [up_n _ _ q]; exact hl3 i (by omega) i1) (by
            obtain ⟨a, b, c⟩ := hv
            rw [el]
            by_cases q : v < inL P (lgR P n f) (n - 1 - (f : Int)) f
            · rw [if_pos q] at hv'
              refine ⟨by omega, fun i i0 i1 => ?_, Or.inr ⟨n - 1 - (f : Int), by omega, by omega, by rw [up_s, hv']⟩⟩
              by_cases q2 : i = n - 1 - (f : Int)
              · rw [q2, up_s]; omega
              · rw [up_n _ _ q2]; have := b i (by omega) i1; omega
            · rw [if_neg q] at hv'
              refine ⟨by omega, fun i i0 i1 => ?_, ?_⟩
              · by_cases q2 : i = n - 1 - (f : Int)
                · rw [q2, up_s]; omega
                · rw [up_n _ _ q2]; have := b i (by omega) i1; omega
              · rcases c with z | ⟨i, i0, i1, e⟩
                · exact Or.inl (by omega)
                · exact Or.inr ⟨i, by omega, i1, by rw [up_n _ _ (by omega), e, hv']⟩) (by rw [hv']; split <;> omega)
          rw [show n - 1 - ((f + 1 : Nat) : Int) = n - 1 - (f : Int) + (-1) by omega] at this
          exact this
        | succ h ihh =>
          intro k S3 hk3 hkp hl3 hi3
          have hr2 := inL_rng (P := P) (g := lgR P n f) (i := n - 1 - (f : Int)) (n := n) k (by omega) (fun j j0 j1 => hrg j (by omega) j1)
          have hrj := hrg (n - 1 - (f : Int) + 1 + (k : Int)) (by omega) (by omega)
          have hj := hl3 (n - 1 - (f : Int) + 1 + (k : Int)) (by omega) (by omega)
          have R3 := keep hkp
          have ihk := ihh (k + 1)
          rw [show n - 1 - (f : Int) + 1 + ((k + 1 : Nat) : Int) = n - 1 - (f : Int) + 1 + (k : Int) + 1 by omega] at ihk
          have el : inL P (lgR P n f) (n - 1 - (f : Int)) (k + 1) = if P (n - 1 - (f : Int)) < P (n - 1 - (f : Int) + 1 + (k : Int)) ∧ inL P (lgR P n f) (n - 1 - (f : Int)) k ≤ lgR P n f (n - 1 - (f : Int) + 1 + (k : Int)) then lgR P n f (n - 1 - (f : Int) + 1 + (k : Int)) + 1 else inL P (lgR P n f) (n - 1 - (f : Int)) k := rfl
          rw [w_Sc_measureSequences_22]
          refine ⟨by unfold inR; omega, by unfold inR; omega, fun z => by omega, fun _ => ⟨by omega, ?_⟩⟩
          refine s_Sc_placeOf R3 (by omega) (by omega) ⟨by omega, ?_⟩
          refine s_Sc_placeOf R3 (by omega) (by omega) ?_
          have p1 := (R3 (n - 1 - (f : Int)) (by omega) (by omega)).2.2.2.2
          have p2 := (R3 (n - 1 - (f : Int) + 1 + (k : Int)) (by omega) (by omega)).2.2.2.2
          refine ⟨by unfold inR; omega, by unfold inR; omega, fun z => ?_, fun z => ?_⟩
          · refine ihk S3 (by omega) hkp hl3 ?_
            rw [el, if_neg (by omega)]; exact hi3
          · rw [hi3, hj]
            refine ⟨by omega, by omega, by unfold inR; omega, by unfold inR; omega, by omega, ?_⟩
            intro S4 e4
            refine ihk S4 (by omega) (by rw [e4]; exact hkp.st ⟨rfl, rfl⟩) (fun i i0 i1 => ?_) ?_
            · have qn : ¬ i = n - 1 - (f : Int) := by omega
              rw [e4]; simp only [q_st]; rw [if_neg (fun w => qn w.2.2)]; exact hl3 i i0 i1
            · rw [el, e4]; simp [q_st]
              by_cases q : inL P (lgR P n f) (n - 1 - (f : Int)) k ≤ lgR P n f (n - 1 - (f : Int) + 1 + (k : Int))
              · rw [if_pos (by omega), if_pos ⟨by omega, q⟩]
              · rw [if_neg (by omega), if_neg (fun y => q y.2)]
      have := inner f 0 S2 (by omega) (by rw [e2]; exact hk.st ⟨rfl, rfl⟩) (fun i i0 i1 => by
        have qn : ¬ i = n - 1 - (f : Int) := by omega
        rw [e2]; simp only [q_st]; rw [if_neg (fun w => qn w.2.2)]; exact hl i i0 i1) (by rw [e2]; simp [q_st]; rfl)
      rw [show n - 1 - (f : Int) + 1 + ((0 : Nat) : Int) = n - 1 - (f : Int) + 1 by omega] at this
      exact ⟨_, this⟩
  have := key n.toNat 0 0 S (by omega) Kp.rf (fun i a b => by omega) ⟨Int.le_refl _, fun i a b => by omega, Or.inl rfl⟩ (by omega)
  rw [show n - 1 - ((0 : Nat) : Int) = n - 1 by omega] at this
  exact ⟨_, this⟩
theorem s_Sc_mark {Λ : QLay} {sc : Nat} {d : Int} {S : QMem} {Q : QMem → Prop} {r P g m0 : Int → Int} {n N : Int} (hc : yR Λ sc 2 0 ≠ sc) (hn : 0 ≤ n ∧ n ≤ 24) (hd : 0 ≤ d ∧ d ≤ 24) (hR : rowC Λ S sc r P n) (hrN : ∀ i, 0 ≤ i → i < n → r i < N) (hg : ∀ i, 0 ≤ i → i < n → S.1 sc 6 i = g i ∧ 0 ≤ g i ∧ g i ≤ 24) (hm : ∀ z, 0 ≤ z → z < N → S.1 sc 4 z = m0 z) (hI : ∀ k : Nat, (k : Int) ≤ n → mkI P g r d m0 n k (mkF P g r d m0 k))
    (hq : ∀ S', Kp (fun o f => o = sc ∧ f = 4) S S' → (∀ z, 0 ≤ z → z < N → S'.1 sc 4 z = (mkF P g r d m0 n.toNat).2.2.1 z) → Q S') : w_Sc_markLongest Λ sc n d S Q := by
  unfold w_Sc_markLongest
  have keep : ∀ {S' : QMem}, Kp (fun o f => o = sc ∧ f = 4) S S' → rowC Λ S' sc r P n := fun hk => rowC_kp hk (fun z => by have := z.2; omega) (fun z => by have := z.2; omega) (fun z => hc z.1) hR
  have key : ∀ (f k : Nat) (S1 : QMem), (k : Int) + f = n → Kp (fun o f => o = sc ∧ f = 4) S S1 → (∀ z, 0 ≤ z → z < N → S1.1 sc 4 z = (mkF P g r d m0 k).2.2.1 z) → w_Sc_markLongest_8 Λ Q (f + 1) sc n (mkF P g r d m0 k).1 (mkF P g r d m0 k).2.1 (k : Int) S1 := by
    intro f
    induction f with
    | zero =>
      intro k S1 hk hkp hz
      rw [w_Sc_markLongest_8]
      refine ⟨by unfold inR; omega, by unfold inR; omega, fun _ => hq S1 hkp ?_, fun z => by omega⟩
      rw [show n.toNat = k by omega]
      exact hz
    | succ f ih =>
      intro k S1 hk hkp hz
      have ik := hI k (by omega)
      have R1 := keep hkp
      obtain ⟨r1, r2, r3, r4, r5⟩ := R1 (k : Int) (by omega) (by omega)
      have gk := hg (k : Int) (by omega) (by omega)
      have g1 : S1.1 sc 6 (k : Int) = g (k : Int) := by rw [hkp.at (fun z => by have := z.2; omega)]; exact gk.1
      have lr : -1 ≤ (mkF P g r d m0 k).2.1 ∧ (mkF P g r d m0 k).2.1 ≤ 48 := by
        rcases ik.2.1 with z | ⟨i, i0, i1, e⟩
        · omega
        · have := (R1 i i0 (by omega)).2.2.2.2; omega
      have ihk := ih (k + 1)
      rw [show ((k + 1 : Nat) : Int) = (k : Int) + 1 by omega] at ihk
      have skip : ¬ (g (k : Int) = (mkF P g r d m0 k).1 ∧ (mkF P g r d m0 k).2.1 < P (k : Int)) → w_Sc_markLongest_8 Λ Q (f + 1) sc n (mkF P g r d m0 k).1 (mkF P g r d m0 k).2.1 ((k : Int) + 1) S1 := fun h => by
        have := ihk S1 (by omega) hkp
        rw [mkF_n h] at this
        exact this hz
      have i1 := ik.1
      rw [w_Sc_markLongest_8, g1]
      refine ⟨by unfold inR; omega, by unfold inR; omega, fun z => by omega, fun _ => ⟨by omega, by unfold inR; omega, by unfold inR; omega, fun z => skip (fun w => z w.1), fun z => ⟨by omega, ?_⟩⟩⟩
      refine s_Sc_placeOf R1 (by omega) (by omega) ?_
      refine ⟨by unfold inR; omega, by unfold inR; omega, fun w => skip (by omega), fun w => ⟨by omega, by omega, ?_⟩⟩
      intro S2 e2
      have k2 : Kp (fun o f => o = sc ∧ f = 4) S S2 := by rw [e2]; exact hkp.st ⟨rfl, rfl⟩
      refine ⟨by omega, s_Sc_placeOf (keep k2) (by omega) (by omega) ?_⟩
      have hyes : g (k : Int) = (mkF P g r d m0 k).1 ∧ (mkF P g r d m0 k).2.1 < P (k : Int) := ⟨z, by omega⟩
      have := ihk S2 (by omega) k2
      rw [mkF_y hyes] at this
      refine this (fun y y0 y1 => ?_)
      show S2.1 sc 4 y = up (mkF P g r d m0 k).2.2.1 (r (k : Int)) 1 y
      rw [r1] at e2
      by_cases q : y = r (k : Int)
      · rw [q, up_s, e2]; simp [q_st]
      · rw [up_n _ _ q, e2]; simp [q_st, q]; exact hz y y0 y1
  exact ⟨_, key n.toNat 0 S (by omega) Kp.rf hm⟩
theorem s_Sc_order {Λ : QLay} {sc tr : Nat} {y : Int} {S : QMem} {Q : QMem → Prop} {t0 t1 : TT} {Z : ZZ} (hs : ScS Λ sc) (hT : cT S tr t1) (w1 : wfT t1) (ht : ∀ f, ¬ Psc Λ sc tr f) (hZ : CZ Λ S sc t1 Z) (hI : ZI t0 t1 Z) (y0 : -1 ≤ y) (y1 : y < tn t1) (hr : rm Z y ≠ -1) (hu : ∀ k, 0 ≤ k → k < tn t1 → tp t1 k = y → zm Z k = 0) (hn : zn Z + un t1 Z ≤ 95)
    (hq : ∀ S', Kp (Psc Λ sc) S S' → CZ Λ S' sc t1 (ordZ t1 Z y) → Q S') : w_Sc_putChildrenInOrder Λ sc tr y S Q := by
  have n1 := tn_rng w1
  obtain ⟨v1, v2, v3⟩ := rv_ok w1 (Z := Z) (y := y)
  have hok := okd_ok w1 hI hr hu
  have t1' : tr ≠ sc := fun z => ht 0 (Or.inl z)
  have osc : ∀ i, 0 ≤ i → i < 96 → yR Λ sc 0 i ≠ sc := fun i a b => (hs.2.1 i a b).1
  have fz : ∀ {S1 S2 : QMem} {c : Nat}, Kp (fun o f => o = sc ∧ f = c) S1 S2 → c = 5 ∨ c = 6 → CZ Λ S1 sc t1 Z → CZ Λ S2 sc t1 Z := fun hk hc h => CZ_kp hk h (by omega) (fun f hf z => by have := z.2; omega) (fun f z => hs.1 z.1) (fun i f a b z => osc i a b z.1)
  have fsc : ∀ {S1 S2 : QMem} {c : Nat}, Kp (fun o f => o = sc ∧ f = c) S1 S2 → Kp (Psc Λ sc) S1 S2 := fun hk => hk.mono (fun o f z => Or.inl z.1)
  unfold w_Sc_putChildrenInOrder
  refine s_Sc_gather hs hT w1 t1' hZ hI y0 y1 (fun S1 hk1 hr1 => ?_)
  have Z1' := fz hk1 (Or.inl rfl) hZ
  have R1 : rowC Λ S1 sc (rv t1 Z y) (pz t1 Z y) (rc t1 Z y) := fun i i0 i1 => by
    have h := v2 i i0 i1
    have hz := (hI.2.2.2.1 _ h.1 h.2.1).resolve_left h.2.2.2.1
    have hw := (wfW_rng hI.2.1 hz.1 hz.2.1).resolve_left hz.2.2.1
    have h3 := (Z1'.2.2.2 _ h.1 h.2.1).1
    rw [h3]
    refine ⟨hr1 i i0 i1, by omega, by omega, ((Z1'.1 _ hz.1 hz.2.1).2 hz.2.2.1).1, ?_⟩
    show 0 ≤ wp (zw Z) (zp Z (rv t1 Z y i)) ∧ wp (zw Z) (zp Z (rv t1 Z y i)) ≤ 48
    omega
  refine s_Sc_measure hs.1 v1 R1 (fun S2 hk2 hl2 => ?_)
  have Z2' := fz hk2 (Or.inr rfl) Z1'
  have R2 := rowC_kp hk2 (fun z => by have := z.2; omega) (fun z => by have := z.2; omega) (fun z => hs.1 z.1) R1
  have lr := lgR_rng (P := pz t1 Z y) (n := rc t1 Z y) (rc t1 Z y).toNat (by omega)
  have hmx := mx_rng (g := lgR (pz t1 Z y) (rc t1 Z y) (rc t1 Z y).toNat) (k := (rc t1 Z y).toNat) (B := 24) (by omega) (fun i i0 i1 => by have := lr i (by omega) (by omega); omega)
  refine s_Sc_mark (r := rv t1 Z y) (P := pz t1 Z y) (g := lz t1 Z y) (m0 := zm Z) (N := tn t1) hs.1 v1 hmx R2 (fun i i0 i1 => (v2 i i0 i1).2.1) (fun i i0 i1 => ⟨hl2 i i0 i1, ?_⟩) (fun z z0 z1 => (Z2'.2.2.2 z z0 z1).2) (fun k hk => hok.2.2.2 k hk) (fun S3 hk3 hm3 => ?_)
  · have := lr i (by omega) (by omega)
    show 0 ≤ lgR (pz t1 Z y) (rc t1 Z y) (rc t1 Z y).toNat i ∧ lgR (pz t1 Z y) (rc t1 Z y) (rc t1 Z y).toNat i ≤ 24
    omega
  · have Z3' : CZ Λ S3 sc t1 (okd t1 Z y) := by
      obtain ⟨a, b, c, d⟩ := Z2'
      refine ⟨CW_kp hk3 (fun f z => hs.1 z.1) a, by rw [hk3.at (fun z => by have := z.2; omega)]; exact b, fun i hi => CS_kp hk3 (fun f z => osc (i : Int) (by omega) (by have hi : i < zn Z := hi; omega) z.1) (c i hi), fun k k0 k1 => ⟨by rw [hk3.at (fun z => by have := z.2; omega)]; exact (d k k0 k1).1, hm3 k k0 k1⟩⟩
    have K3 : Kp (Psc Λ sc) S S3 := ((fsc hk1).tr (fsc hk2)).tr (fsc hk3)
    have s5 : ∀ i, 0 ≤ i → i < rc t1 Z y → S3.1 sc 5 i = rv t1 Z y i := fun i i0 i1 => by
      rw [hk3.at (fun z => by have := z.2; omega), hk2.at (fun z => by have := z.2; omega)]; exact hr1 i i0 i1
    have key : ∀ (f k : Nat) (S4 : QMem), (k : Int) + f = rc t1 Z y → Kp (Psc Λ sc) S S4 → (∀ i, 0 ≤ i → i < rc t1 Z y → S4.1 sc 5 i = rv t1 Z y i) → CZ Λ S4 sc t1 (mvL t1 (rv t1 Z y) (okd t1 Z y) k) → w_Sc_putChildrenInOrder_20 Λ Q (f + 1) sc tr (rc t1 Z y) (k : Int) S4 := by
      intro f
      induction f with
      | zero =>
        intro k S4 hk hk4 h5 hZ4
        rw [w_Sc_putChildrenInOrder_20]
        refine ⟨by unfold inR; omega, by unfold inR; omega, fun _ => hq S4 hk4 ?_, fun z => by omega⟩
        unfold ordZ
        rw [show (rc t1 Z y).toNat = k by omega]
        exact hZ4
      | succ f ih =>
        intro k S4 hk hk4 h5 hZ4
        have mi := mvL_ok w1 hI hr hu k (by omega)
        have vk := v2 (k : Int) (by omega) (by omega)
        have d4 := hZ4.2.2.2 _ vk.1 vk.2.1
        have mk01 := (mi.1.2.2.2.2.2.2.1 _ vk.1 vk.2.1).1
        have ihk := ih (k + 1)
        rw [show ((k + 1 : Nat) : Int) = (k : Int) + 1 by omega] at ihk
        rw [w_Sc_putChildrenInOrder_20, h5 (k : Int) (by omega) (by omega), d4.2]
        refine ⟨by unfold inR; omega, by unfold inR; omega, fun z => by omega, fun _ => ⟨by omega, by omega, by unfold inR; omega, fun z => ?_, fun z => ⟨by omega, ?_⟩⟩⟩
        · have := ihk S4 (by omega) hk4 h5
          rw [mvL_n z] at this
          exact this hZ4
        · have hn4 : zn (mvL t1 (rv t1 Z y) (okd t1 Z y) k) ≤ 95 := by have := mi.2.2.2.1; omega
          have hrk : rm (mvL t1 (rv t1 Z y) (okd t1 Z y) k) (tp t1 (rv t1 Z y (k : Int))) ≠ -1 := by
            rw [vk.2.2.1]; unfold rm; rw [mi.2.1]; exact hr
          refine s_Sc_move hs (cT_kp hk4 ht hT) w1 ht hZ4 mi.1 vk.1 vk.2.1 (by rw [mi.2.1]; exact vk.2.2.2.1) hrk hn4 (fun S5 hk5 hZ5 => ?_)
          have := ihk S5 (by omega) (hk4.tr (Psf_sc hn4 hk5)) (fun i i0 i1 => by
            rw [hk5.at (fun z => by
              rcases z with z | z | z
              · have := z.2; omega
              · exact hs.1 z.symm
              · exact osc _ (by omega) (by omega) z.symm)]
            exact h5 i i0 i1)
          rw [mvL_y z] at this
          exact this hZ5
    exact ⟨_, key (rc t1 Z y).toNat 0 S3 (by omega) K3 s5 Z3'⟩
theorem s_Sc_bring {Λ : QLay} {sc tr : Nat} {y : Int} {S : QMem} {Q : QMem → Prop} {t0 t1 : TT} {Z : ZZ} (hs : ScS Λ sc) (hT : cT S tr t1) (w1 : wfT t1) (ht : ∀ f, ¬ Psc Λ sc tr f) (hZ : CZ Λ S sc t1 Z) (hI : ZI t0 t1 Z) (y0 : 0 ≤ y) (y1 : y < tn t1) (hr : rm Z (tp t1 y) ≠ -1) (hu : ∀ k, 0 ≤ k → k < tn t1 → tp t1 k = y → zm Z k = 0) (hn : zn Z + un t1 Z ≤ 93)
    (hq : ∀ S', Kp (Psc Λ sc) S S' → CZ Λ S' sc t1 (brgZ t1 Z y) → Q S') : w_Sc_bringIntoLine Λ sc tr y S Q := by
  have n1 := tn_rng w1
  have hty := tp_rng w1 y0 y1
  have hv := (w1.2 y y0 y1).2
  have inlk := inl_ok w1 hI y0 y1 hr
  have bk := (brg_ok w1 hI y0 y1 hr hu).1
  have fin : ∀ S1, Kp (Psc Λ sc) S S1 → CZ Λ S1 sc t1 (inl t1 Z y) → w_Sc_bringIntoLine_83 Λ Q sc tr y S1 := fun S1 hk1 hZ1 => by
    unfold w_Sc_bringIntoLine_83
    exact s_Sc_order hs (cT_kp hk1 ht hT) w1 ht hZ1 inlk.1 (by omega) y1 bk.1 bk.2 (by have := inlk.2.2.2; omega) (fun S2 hk2 hZ2 => hq S2 (hk1.tr hk2) hZ2)
  unfold w_Sc_bringIntoLine
  have h3 := (hZ.2.2.2 y y0 y1).1
  have hz := hI.2.2.2.1 y y0 y1
  rw [h3]
  refine ⟨by omega, by unfold inR; omega, fun z => ⟨by omega, ?_⟩, fun z => ?_⟩
  · have hz2 := hz.resolve_left z
    have hw2 := (wfW_rng hI.2.1 hz2.1 hz2.2.1).resolve_left hz2.2.2.1
    have hg2 := hI.2.2.1 _ hz2.1 hz2.2.1 hz2.2.2.1
    intro x hx
    rw [hx, ((hZ.1 _ hz2.1 hz2.2.1).2 hz2.2.2.1).2.2, (hT.2.1 y y0 y1).2.1]
    have ein : inl t1 Z y = mv1 t1 (upd1 t1 Z y) y := if_neg z
    have uk := upd1_ok w1 hI y0 y1 z
    have ruk : rm (upd1 t1 Z y) (tp t1 y) = rm Z (tp t1 y) := by unfold rm; rw [uk.2.1]
    have mid : ∀ S1, Kp (Psc Λ sc) S S1 → CZ Λ S1 sc t1 (upd1 t1 Z y) → w_Sc_bringIntoLine_55 Λ Q sc tr y (zp Z y) S1 := fun S1 hk1 hZ1 => by
      have hT1 := cT_kp hk1 ht hT
      have e0 : zp (upd1 t1 Z y) y = zp Z y := by rw [uk.2.1]
      have hzu := (uk.1.2.2.2.1 y y0 y1).resolve_left (by rw [e0]; exact z)
      rw [e0] at hzu
      have hwu := (wfW_rng uk.1.2.1 hz2.1 hz2.2.1).resolve_left hzu.2.2.1
      have hrr := ZI_rm w1 hI (y := tp t1 y) (by omega) (by omega) hr
      unfold w_Sc_bringIntoLine_55
      rw [(hT1.2.1 y y0 y1).2.2.1, (hZ1.1 _ hz2.1 hz2.2.1).1]
      refine ⟨by omega, by omega, ?_⟩
      refine s_Sc_partnerOf w1 (Z := upd1 t1 Z y) (fun k k0 k1 => (hZ1.2.2.2 k k0 k1).1) (by omega) (by omega) ?_
      rw [ruk]
      refine ⟨by unfold inR; omega, by unfold inR; omega, fun w => fin S1 hk1 ?_, fun w => ?_⟩
      · rw [ein]; unfold mv1; rw [if_pos (by rw [e0, ruk]; exact w)]; exact hZ1
      · have hn1 : zn (upd1 t1 Z y) ≤ 95 := by have := uk.2.2.2; omega
        refine s_Sc_move hs hT1 w1 ht hZ1 uk.1 y0 y1 (by rw [e0]; exact z) (by rw [ruk]; exact hr) hn1 (fun S2 hk2 hZ2 => fin S2 (hk1.tr (Psf_sc hn1 hk2)) ?_)
        rw [ein]; unfold mv1; rw [if_neg (by rw [e0, ruk]; exact w)]; exact hZ2
    refine ⟨by omega, by omega, by unfold inR; omega, by unfold inR; omega, fun w => mid S Kp.rf ?_, fun w => ⟨by omega, ?_⟩⟩
    · unfold upd1; rw [if_pos w]; exact hZ
    · refine s_Sc_update hs hZ hI hz2.1 hz2.2.1 hz2.2.2.1 hv (by omega) (fun S1 hk1 hZ1 => mid S1 (Psf_sc (by omega) hk1) ?_)
      unfold upd1; rw [if_neg w]; exact hZ1
  · refine s_Sc_insert hs hT w1 ht hZ hI y0 y1 z hr (by omega) (fun S1 hk1 hZ1 => fin S1 (Psf_sc (by omega) hk1) ?_)
    unfold inl; rw [if_pos z]; exact hZ1
theorem s_Sc_deleteRest {Λ : QLay} {sc tr ma : Nat} {S : QMem} {Q : QMem → Prop} {t0 t1 : TT} {P : MM} {Z : ZZ} (hs : ScS Λ sc) (hT : cT S tr t0) (w0 : wfT t0) (ht : ∀ f, ¬ Psc Λ sc tr f) (hm : ∀ f, ¬ Psc Λ sc ma f) (hP : ∀ x, 0 ≤ x → x < tn t0 → S.1 ma 1 x = q0 P x ∧ -1 ≤ q0 P x ∧ q0 P x ≤ 24) (hZ : CZ Λ S sc t1 Z) (hD : DI t0 P 0 Z)
    (hq : ∀ S', Kp (Psc Λ sc) S S' → CZ Λ S' sc t1 (dl t0 P Z (tn t0).toNat) → Q S') : w_Sc_deleteRest Λ sc tr ma S Q := by
  have n0 := tn_rng w0
  obtain ⟨d0, d1, d2⟩ := hs
  unfold w_Sc_deleteRest
  have key : ∀ (f k : Nat) (S1 : QMem), (k : Int) + f = tn t0 → Kp (Psc Λ sc) S S1 → CZ Λ S1 sc t1 (dl t0 P Z k) → w_Sc_deleteRest_2 Λ Q (f + 1) sc tr ma (k : Int) S1 := by
    intro f
    induction f with
    | zero =>
      intro k S1 hk hk1 hZ1
      rw [w_Sc_deleteRest_2, hk1.at (ht 0), hT.1]
      refine ⟨by unfold inR; omega, by unfold inR; omega, fun _ => hq S1 hk1 ?_, fun z => by omega⟩
      rw [show (tn t0).toNat = k by omega]
      exact hZ1
    | succ f ih =>
      intro k S1 hk hk1 hZ1
      have ihk := ih (k + 1)
      rw [show ((k + 1 : Nat) : Int) = (k : Int) + 1 by omega] at ihk
      have hn := nAt_ok w0 (i := (k : Int)) (by omega) (by omega)
      obtain ⟨i1, i2, i3, i4, i5⟩ := dl_ok w0 hD k (by omega)
      rw [w_Sc_deleteRest_2, hk1.at (ht 0), hT.1, hk1.at (ht 9)]
      refine ⟨by unfold inR; omega, by unfold inR; omega, fun z => by omega, fun _ => ⟨by omega, ?_⟩⟩
      intro x hx
      have ex : x = nAt t0 (k : Int) := by rw [hx]; exact nAt_eq w0 (by omega) (by omega) hT.2.2
      have hp := hP _ hn.1 hn.2.1
      rw [ex, hk1.at (hm 1), hp.1]
      refine ⟨by omega, by unfold inR; omega, fun z => ?_, fun z => ?_⟩
      · have := ihk S1 (by omega) hk1
        rw [dl_n z] at this
        exact this hZ1
      · have hx4 := i4 _ hn.1 hn.2.1 (Or.inr (by omega))
        have hn5 : zn (dl t0 P Z k) ≤ 95 := by omega
        obtain ⟨o1, o2⟩ := d1 (zn (dl t0 P Z k) : Int) (by omega) (by omega)
        obtain ⟨z1, z2, z3, z4⟩ := hZ1
        refine s_Sc_addStep z2 hn5 ⟨by omega, ?_⟩
        have nc : ∀ f, ¬ ((yR Λ sc 2 0 = sc ∧ f = 1) ∨ yR Λ sc 2 0 = yR Λ sc 0 (zn (dl t0 P Z k) : Int)) := fun f z => by
          rcases z with z | z
          · exact d0 z.1
          · exact o2 z.symm
        have ns : ∀ f, f ≠ 1 → ¬ ((sc = sc ∧ f = 1) ∨ sc = yR Λ sc 0 (zn (dl t0 P Z k) : Int)) := fun f hf z => by
          rcases z with z | z
          · exact hf z.2
          · exact o1 z.symm
        have k0 : Kp (fun q f => (q = sc ∧ f = 1) ∨ q = yR Λ sc 0 (zn (dl t0 P Z k) : Int)) S1 (q_st (q_st (q_st S1 sc 1 0 ((zn (dl t0 P Z k) : Int) + 1)) (yR Λ sc 0 (zn (dl t0 P Z k) : Int)) 0 0 3) (yR Λ sc 0 (zn (dl t0 P Z k) : Int)) 1 0 (nAt t0 (k : Int))) := ((Kp.rf.st (Or.inl ⟨rfl, rfl⟩)).st (Or.inr rfl)).st (Or.inr rfl)
        have cx := z1 (nAt t0 (k : Int)) hn.1 (by omega)
        rw [k0.at (nc 2), cx.1]
        intro S2 e2
        have k2 : Kp (fun q f => (q = sc ∧ f = 1) ∨ q = yR Λ sc 0 (zn (dl t0 P Z k) : Int)) S1 S2 := by rw [e2]; exact k0.st (Or.inr rfl)
        rw [k2.at (nc 3), (cx.2 hx4).1]
        refine ⟨by omega, ?_⟩
        intro S3 e3
        have k3 : Kp (fun q f => (q = sc ∧ f = 1) ∨ q = yR Λ sc 0 (zn (dl t0 P Z k) : Int)) S1 S3 := by rw [e3]; exact k2.st (Or.inr rfl)
        have hok : okS (zw (dl t0 P Z k)) (3, nAt t0 (k : Int), 0, 0, 0, 0, wa (zw (dl t0 P Z k)) (nAt t0 (k : Int)), wp (zw (dl t0 P Z k)) (nAt t0 (k : Int)), 0) := ⟨⟨hn.1, by show nAt t0 (k : Int) < 48; omega⟩, Or.inr (Or.inr (Or.inr ⟨rfl, hx4, rfl, rfl, by show nAt t0 (k : Int) < 24; omega⟩))⟩
        have cs : CS S3 (yR Λ sc 0 (zn (dl t0 P Z k) : Int)) (3, nAt t0 (k : Int), 0, 0, 0, 0, wa (zw (dl t0 P Z k)) (nAt t0 (k : Int)), wp (zw (dl t0 P Z k)) (nAt t0 (k : Int)), 0) := by
          refine CS_3 ?_ ?_ ?_ ?_ <;> rw [e3, e2] <;> simp [q_st]
        refine s_Wt_carryOut cs o2 (CW_kp k3 nc z1) i2 hok (fun S4 hk4 hC4 _ => ?_)
        have K4 : Kp (Psf Λ sc (zn (dl t0 P Z k))) S1 S4 := (k3.mono (fun q f z => by
          rcases z with z | z
          · exact Or.inl ⟨z.1, Or.inl z.2⟩
          · exact Or.inr (Or.inr z))).tr (hk4.mono (fun q f z => Or.inr (Or.inl z)))
        have := ihk S4 (by omega) (hk1.tr (Psf_sc hn5 K4))
        rw [dl_y z] at this
        refine this (CZ_add ⟨d0, d1, d2⟩ ⟨z1, z2, z3, z4⟩ hn5 K4 hC4 ?_ (CS_kp hk4 (fun f z => o2 z) cs) (fun k k0 k1 => ?_))
        · rw [hk4.at (fun z => d0 z.symm), e3, e2]; simp [q_st, o1.symm]
        · rw [hk4.at (fun z => d0 z.symm), hk4.at (fun z => d0 z.symm), k3.at (ns 3 (by omega)), k3.at (ns 4 (by omega))]
          exact z4 k k0 k1
  exact ⟨_, key (tn t0).toNat 0 S (by omega) Kp.rf hZ⟩
theorem s_Sc_make {Λ : QLay} {sc se ma : Nat} {S : QMem} {Q : QMem → Prop} {t0 t1 : TT} {P : MM} (hs : ScS Λ sc) (hW : WC se S t0 t1) (hC : CM S ma t0 P) (hP : MOK t0 t1 P) (h0 : ∀ f, ¬ Psc Λ sc (S.2 se 0) f) (h1 : ∀ f, ¬ Psc Λ sc (S.2 se 1) f) (hm : ∀ f, ¬ Psc Λ sc ma f)
    (hq : ∀ S', Kp (Psc Λ sc) S S' → CZ Λ S' sc t1 (scF t0 t1 P) → Q S') : w_Sc_make Λ sc se ma S Q := by
  have hWW := hW
  obtain ⟨c0, c1, w0, w1⟩ := hW
  have n0 := tn_rng w0
  have n1 := tn_rng w1
  have osc : ∀ i, 0 ≤ i → i < 96 → yR Λ sc 0 i ≠ sc := fun i a b => (hs.2.1 i a b).1
  unfold w_Sc_make
  intro S1 e1
  have k1 : Kp (fun o f => o = sc ∧ f = 1) S S1 := by rw [e1]; exact Kp.rf.st ⟨rfl, rfl⟩
  have K1 : Kp (Psc Λ sc) S S1 := k1.mono (fun o f z => Or.inl z.1)
  intro a ha
  rw [k1.1] at ha
  have c01 : cT S1 a t0 := by rw [ha]; exact cT_kp K1 h0 c0
  refine s_Wt_load c01 w0 (fun z => h0 0 (by rw [← ha]; exact Or.inr (Or.inl z))) (fun S2 hk2 hC2 => ?_)
  have K2 : Kp (Psc Λ sc) S S2 := K1.tr (hk2.mono (fun o f z => Or.inr (Or.inl z)))
  have l2 : S2.1 sc 1 0 = 0 := by rw [hk2.at (fun z => hs.1 z.symm), e1]; simp [q_st]
  have main : ∀ S3, Kp (Psc Λ sc) S S3 → CZ Λ S3 sc t1 (Z0 t0 P) → ∀ (b : Nat), b = S3.2 se 1 → w_Sc_putChildrenInOrder Λ sc b (-1) S3 (fun S57 => ∃ n61 : Nat, w_Sc_make_63 Λ Q n61 sc se ma b 0 S57) := fun S3 K3 hZ3 b hb => by
    rw [K3.1] at hb
    have hbt : ∀ S', Kp (Psc Λ sc) S S' → cT S' b t1 := fun S' K' => by rw [hb]; exact cT_kp K' h1 c1
    have hbn : ∀ f, ¬ Psc Λ sc b f := by rw [hb]; exact h1
    obtain ⟨z1, z2, z3⟩ := Z0_ok w0 w1 hP
    refine s_Sc_order hs (hbt S3 K3) w1 hbn hZ3 z1 (by omega) (by omega) z2 z3 (by have := un_le t1 (Z0 t0 P); have e : zn (Z0 t0 P) = 0 := rfl; omega) (fun S4 hk4 hZ4 => ?_)
    have hB1 := Z1_ok w0 w1 hP
    have hth := th_rng w1 0
    have lv : ∀ (g L : Nat) (S5 : QMem), (L : Int) + g = th t1 0 → Kp (Psc Λ sc) S S5 → CZ Λ S5 sc t1 (bf t1 (Z1 t0 t1 P) L) → w_Sc_make_63 Λ Q (g + 1) sc se ma b (L : Int) S5 := by
      intro g
      induction g with
      | zero =>
        intro L S5 hL K5 hZ5
        rw [w_Sc_make_63, ((hbt S5 K5).2.1 0 (by omega) (by omega)).2.2.2.2.2.2.2]
        have ethL : hgT (tn t1) (tp t1) 0 = (L : Int) := by show th t1 0 = (L : Int); omega
        rw [ethL]
        refine ⟨by unfold inR; omega, by unfold inR; omega, fun _ => ?_, fun z => absurd (Int.le_refl _) z⟩
        intro a2 ha2
        rw [K5.1] at ha2
        have eL : bf t1 (Z1 t0 t1 P) L = Z2 t0 t1 P := by
          unfold Z2
          have := bf_up w1 (Z := Z1 t0 t1 P) (24 - (th t1 0).toNat)
          rw [show (th t1 0).toNat + (24 - (th t1 0).toNat) = 24 by omega] at this
          rw [this, show (th t1 0).toNat = L by omega]
        rw [eL] at hZ5
        refine s_Sc_deleteRest hs (t0 := t0) (P := P) (by rw [ha2]; exact cT_kp K5 h0 c0) w0 (by rw [ha2]; exact h0) hm (fun x x0 x1 => ⟨?_, ?_⟩) hZ5 (Z2_ok w0 w1 hP) (fun S6 hk6 hZ6 => hq S6 (K5.tr hk6) hZ6)
        · rw [K5.at (hm 1)]; exact (hC.1 x x0 (by omega)).1
        · rcases hP.1 x x0 x1 with z | z <;> omega
      | succ g ih =>
        intro L S5 hL K5 hZ5
        have hBL := bf_ok w1 hB1 L
        have ihL := ih (L + 1)
        rw [show ((L + 1 : Nat) : Int) = (L : Int) + 1 by omega] at ihL
        rw [w_Sc_make_63, ((hbt S5 K5).2.1 0 (by omega) (by omega)).2.2.2.2.2.2.2]
        have eth : hgT (tn t1) (tp t1) 0 = th t1 0 := rfl
        rw [eth]
        refine ⟨by unfold inR; omega, by unfold inR; omega, fun z => by omega, fun _ => ?_⟩
        have nodes : ∀ (h k : Nat) (S6 : QMem), (k : Int) + h = tn t1 → Kp (Psc Λ sc) S S6 → CZ Λ S6 sc t1 (yl t1 (L : Int) (bf t1 (Z1 t0 t1 P) L) k) → w_Sc_make_77 Λ (fun v0' v1' v2' v3' v4' S' => w_Sc_make_63 Λ Q (g + 1) v0' v1' v2' v3' v4' S') Q (h + 1) sc se ma b (L : Int) (k : Int) S6 := by
          intro h
          induction h with
          | zero =>
            intro k S6 hk K6 hZ6
            rw [w_Sc_make_77, (hbt S6 K6).1]
            refine ⟨by unfold inR; omega, by unfold inR; omega, fun _ => ihL S6 (by omega) K6 ?_, fun z => by omega⟩
            show CZ Λ S6 sc t1 (yl t1 (L : Int) (bf t1 (Z1 t0 t1 P) L) (tn t1).toNat)
            rw [show (tn t1).toNat = k by omega]
            exact hZ6
          | succ h ihh =>
            intro k S6 hk K6 hZ6
            have ihk := ihh (k + 1)
            rw [show ((k + 1 : Nat) : Int) = (k : Int) + 1 by omega] at ihk
            have hBk := yl_ok w1 hBL k (by omega)
            have dr := dp_rng w1.1 (k := (k : Int)) (by omega) (by omega)
            rw [w_Sc_make_77, (hbt S6 K6).1, ((hbt S6 K6).2.1 (k : Int) (by omega) (by omega)).2.2.2.2.1]
            refine ⟨by unfold inR; omega, by unfold inR; omega, fun z => by omega, fun _ => ⟨by omega, by unfold inR; omega, by unfold inR; omega, fun z => ?_, fun z => ?_⟩⟩
            · have := ihk S6 (by omega) K6
              rw [yl_n z] at this
              exact this hZ6
            · obtain ⟨p1, p2, p3⟩ := BI_pre w1 hBk (by omega) (by omega) z
              refine s_Sc_bring hs (hbt S6 K6) w1 hbn hZ6 hBk.1 (by omega) (by omega) p1 p2 ?_ (fun S7 hk7 hZ7 => ?_)
              · have h4 := hBk.2.2.2
                have := pcn_lt (t1 := t1) (L := (L : Int)) (y := (k : Int)) (by omega) (by omega) z
                have := pcn_le t1 w1 (L : Int) ((k : Int) + 1)
                omega
              · have := ihk S7 (by omega) (K6.tr hk7)
                rw [yl_y z] at this
                exact this hZ7
        exact ⟨_, nodes (tn t1).toNat 0 S5 (by omega) K5 hZ5⟩
    exact ⟨_, lv (th t1 0).toNat 0 S4 (by omega) (K3.tr hk4) hZ4⟩
  have fill : ∀ (f : Nat) (i : Int) (S3 : QMem), 0 ≤ i → i + f = 24 → Kp (fun o f => o = sc ∧ (f = 3 ∨ f = 4)) S2 S3 → (∀ y, 0 ≤ y → y < i → S3.1 sc 3 y = q1 P y ∧ S3.1 sc 4 y = 0) → w_Sc_make_18 Λ Q (f + 1) sc se ma i S3 := by
    intro f
    induction f with
    | zero =>
      intro i S3 i0 hi hk3 hy
      rw [w_Sc_make_18]
      refine ⟨by unfold inR; omega, fun _ => ?_, fun z => by omega⟩
      refine main S3 (K2.tr (hk3.mono (fun o f z => Or.inl z.1))) ⟨CW_kp hk3 (fun f z => hs.1 z.1) hC2, ?_, fun i hi => absurd hi (Nat.not_lt_zero i), fun y y0 y1 => hy y y0 (by omega)⟩
      rw [hk3.at (fun z => by have := z.2; omega), l2]; rfl
    | succ f ih =>
      intro i S3 i0 hi hk3 hy
      rw [w_Sc_make_18]
      refine ⟨by unfold inR; omega, fun z => by omega, fun _ => ⟨by omega, by omega, ?_⟩⟩
      intro S4 e4
      refine ⟨by omega, ?_⟩
      intro S5 e5
      have q2 : S3.1 ma 2 i = q1 P i := by
        rw [(K2.tr (hk3.mono (fun o f z => Or.inl z.1))).at (hm 2)]
        exact (hC.1 i i0 (by omega)).2.1
      rw [q2] at e4
      refine ih (i + 1) S5 (by omega) (by omega) (by rw [e5, e4]; exact (hk3.st ⟨rfl, Or.inl rfl⟩).st ⟨rfl, Or.inr rfl⟩) (fun y y0 y1 => ?_)
      by_cases q : y = i
      · rw [e5, e4, q]; simp [q_st]
      · have := hy y y0 (by omega)
        rw [e5, e4]; simp [q_st, q, this.1, this.2]
  exact ⟨_, fill 24 0 S2 (by omega) (by omega) Kp.rf (fun y a b => by omega)⟩
