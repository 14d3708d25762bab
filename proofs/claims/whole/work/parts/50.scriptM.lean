/-! the reference's script -/
def num (x : Int) : Int := if x = 48 then -1 else if x < 24 then x else 76 + x
def tl6 (s : ST) (j : Int) : Int := if j = 0 then sk s else if j = 1 then num (sr s) else if j = 2 then (if sk s = 1 ∨ sk s = 2 then num (su s) else -15) else if j = 3 then (if sk s = 1 ∨ sk s = 2 then sp s else -15) else if j = 4 then (if sk s = 1 then sl s else -15) else (if sk s = 0 ∨ sk s = 1 then sv s else -15)
def MSt (S : QMem) (m : Nat) (i : Int) (s : ST) : Prop := ∀ j, 0 ≤ j → j < 6 → S.1 m 30 (6 * i + j) = tl6 s j
theorem s_Mo_number {Λ : QLay} {x : Int} {S : QMem} {Q : Int → QMem → Prop} (x0 : 0 ≤ x) (x1 : x ≤ 48) (hq : Q (num x) S) : w_Mo_number Λ x S Q := by
  unfold w_Mo_number
  unfold num at hq
  refine ⟨by unfold inR; omega, fun z => ⟨by unfold inR; omega, fun w => ?_, fun w => ?_⟩, fun z => ?_⟩
  · rw [if_neg z, if_neg (by omega)] at hq; exact hq
  · rw [if_neg z, if_pos (by omega)] at hq; exact hq
  · rw [if_pos z] at hq; exact hq
theorem s_Mo_notes {Λ : QLay} {m n : Nat} {k x u p l v : Int} {S : QMem} {Q : QMem → Prop} (hn : S.1 m 31 0 = (n : Int)) (h95 : n ≤ 95) (x0 : 0 ≤ x) (x1 : x ≤ 48)
    (hq : ∀ S', Kp (fun o f => o = m ∧ (f = 30 ∨ f = 31)) S S' → S'.1 m 31 0 = (n : Int) + 1 → (∀ i, i < 6 * (n : Int) → S'.1 m 30 i = S.1 m 30 i) → (∀ s : ST, tl6 s 0 = k → tl6 s 1 = num x → tl6 s 2 = u → tl6 s 3 = p → tl6 s 4 = l → tl6 s 5 = v → MSt S' m (n : Int) s) → Q S') : w_Mo_notes Λ m k x u p l v S Q := by
  unfold w_Mo_notes
  intro q hq0
  rw [hn] at hq0
  refine ⟨by omega, ?_⟩
  intro S1 e1
  refine s_Mo_number x0 x1 ⟨by omega, ?_⟩
  intro S2 e2
  refine ⟨by omega, ?_⟩
  intro S3 e3
  refine ⟨by omega, ?_⟩
  intro S4 e4
  refine ⟨by omega, ?_⟩
  intro S5 e5
  refine ⟨by omega, ?_⟩
  intro S6 e6 S7 e7
  have n6 : S6.1 m 31 0 = (n : Int) := by rw [e6, e5, e4, e3, e2, e1]; simp [q_st, hn]
  rw [n6] at e7
  refine hq S7 ?_ (by rw [e7]; simp [q_st]) (fun i hi => ?_) (fun s h0 h1 h2 h3 h4 h5 j j0 j1 => ?_)
  · rw [e7, e6, e5, e4, e3, e2, e1]
    exact ((((((Kp.rf.st ⟨rfl, Or.inl rfl⟩).st ⟨rfl, Or.inl rfl⟩).st ⟨rfl, Or.inl rfl⟩).st ⟨rfl, Or.inl rfl⟩).st ⟨rfl, Or.inl rfl⟩).st ⟨rfl, Or.inl rfl⟩).st ⟨rfl, Or.inr rfl⟩
  · have a0 : ¬ i = q := by omega
    have a1 : ¬ i = q + 1 := by omega
    have a2 : ¬ i = q + 2 := by omega
    have a3 : ¬ i = q + 3 := by omega
    have a4 : ¬ i = q + 4 := by omega
    have a5 : ¬ i = q + 5 := by omega
    rw [e7, e6, e5, e4, e3, e2, e1]; simp [q_st, a0, a1, a2, a3, a4, a5]
  · rw [← hq0, e7, e6, e5, e4, e3, e2, e1]
    have hj : j = 0 ∨ j = 1 ∨ j = 2 ∨ j = 3 ∨ j = 4 ∨ j = 5 := by omega
    rcases hj with z | z | z | z | z | z <;> rw [z]
    · have b1 : ¬ q = q + 1 := by omega
      have b2 : ¬ q = q + 2 := by omega
      have b3 : ¬ q = q + 3 := by omega
      have b4 : ¬ q = q + 4 := by omega
      have b5 : ¬ q = q + 5 := by omega
      rw [h0]; simp [q_st, b1, b2, b3, b4, b5]
    · rw [h1]; simp [q_st]
    · rw [h2]; simp [q_st]
    · rw [h3]; simp [q_st]
    · rw [h4]; simp [q_st]
    · rw [h5]; simp [q_st]
/-- parents as the reference numbers them -/
def pm (t1 : TT) (y : Int) : Int := if y = 0 then 24 else tp t1 y
theorem pm_rng {t1 : TT} (w1 : wfT t1) {y : Int} (y0 : 0 ≤ y) (y1 : y < tn t1) : 0 ≤ pm t1 y ∧ pm t1 y ≤ 24 ∧ (tp t1 y < 0 → pm t1 y = 24) ∧ (0 ≤ tp t1 y → pm t1 y = tp t1 y ∧ tp t1 y < 24) := by
  have h := tp_rng w1 y0 y1
  have n := tn_rng w1
  unfold pm
  by_cases q : y = 0
  · rw [if_pos q]; have := h.2.2.2 q; omega
  · rw [if_neg q]; have := h.2.2.1 (by omega); omega
theorem s_Mo_parentOf {Λ : QLay} {m : Nat} {y : Int} {S : QMem} {Q : Int → QMem → Prop} {t1 : TT} (hT : mT S m 1 t1) (w1 : wfT t1) (y0 : 0 ≤ y) (y1 : y < tn t1) (hq : Q (pm t1 y) S) : w_Mo_parentOf Λ m y S Q := by
  have n1 := tn_rng w1
  unfold w_Mo_parentOf
  unfold pm at hq
  refine ⟨by unfold inR; omega, fun z => ?_, fun z => ?_⟩
  · dsimp only [w_Mo_at]
    rw [if_neg z] at hq
    rw [(hT.1.2 y y0 y1).2.2]
    exact ⟨by omega, hq⟩
  · rw [if_pos z] at hq; exact hq
/-- steps, partners and marks of the reference -/
def MZ (S : QMem) (m : Nat) (t1 : TT) (Z : ZZ) : Prop := MW S m (zw Z) ∧ S.1 m 31 0 = (zn Z : Int) ∧ (∀ i : Nat, i < zn Z → MSt S m (i : Int) (zs Z i)) ∧ (∀ y, 0 ≤ y → y < tn t1 → S.1 m 32 y = zp Z y ∧ S.1 m 33 y = zm Z y) ∧ S.1 m 32 24 = 48
abbrev Pmo (m : Nat) : Nat → Nat → Prop := fun o f => o = m ∧ (f = 14 ∨ f = 15 ∨ (24 ≤ f ∧ f ≤ 36))
theorem MSt_kp {P : Nat → Nat → Prop} {S S' : QMem} {m : Nat} {i : Int} {s : ST} (hk : Kp P S S') (hn : ¬ P m 30) (h : MSt S m i s) : MSt S' m i s := fun j j0 j1 => by rw [hk.at hn]; exact h j j0 j1
theorem MZ_kp {P : Nat → Nat → Prop} {S S' : QMem} {m : Nat} {t1 : TT} {Z : ZZ} (hk : Kp P S S') (hn : ∀ f, 25 ≤ f → f ≤ 33 → ¬ P m f) (h : MZ S m t1 Z) : MZ S' m t1 Z := by
  obtain ⟨a, b, c, d, e⟩ := h
  refine ⟨MW_kp hk (fun f f0 f1 => hn f f0 (by omega)) a, by rw [hk.at (hn 31 (by omega) (by omega))]; exact b, fun i hi => MSt_kp hk (hn 30 (by omega) (by omega)) (c i hi), fun y y0 y1 => ?_, by rw [hk.at (hn 32 (by omega) (by omega))]; exact e⟩
  rw [hk.at (hn 32 (by omega) (by omega)), hk.at (hn 33 (by omega) (by omega))]
  exact d y y0 y1
theorem Pmo_n {m : Nat} : ∀ f, f < 4 ∨ f = 18 ∨ f = 19 → ¬ Pmo m m f := fun f h z => by have := z.2; omega
theorem MZ_rm {S : QMem} {m : Nat} {t1 : TT} (w1 : wfT t1) {Z : ZZ} (h : MZ S m t1 Z) {y : Int} (y0 : 0 ≤ y) (y1 : y < tn t1) : S.1 m 32 (pm t1 y) = rm Z (tp t1 y) := by
  have hp := pm_rng w1 y0 y1
  have ht := tp_rng w1 y0 y1
  unfold rm
  by_cases q : tp t1 y < 0
  · rw [if_pos q, hp.2.2.1 q]; exact h.2.2.2.2
  · rw [if_neg q, (hp.2.2.2 (by omega)).1]; exact (h.2.2.2.1 _ (by omega) (by omega)).1
theorem s_Mo_placeFor {Λ : QLay} {m : Nat} {y : Int} {S : QMem} {Q : Int → QMem → Prop} {t1 : TT} {W : WW} {p mm : Int → Int} (hT : mT S m 1 t1) (w1 : wfT t1) (hM : MW S m W) (hp : ∀ k, 0 ≤ k → k < tn t1 → S.1 m 32 k = p k ∧ S.1 m 33 k = mm k) (y0 : 0 ≤ y) (y1 : y < tn t1)
    (hm : ∀ k, 0 ≤ k → k < y → (mm k = 0 ∨ mm k = 1) ∧ (tp t1 k = tp t1 y → mm k ≠ 0 → 0 ≤ p k ∧ p k < 48 ∧ wa W (p k) ≠ -1)) (hq : Q (plc t1 W p mm y) S) : w_Mo_placeFor Λ m y S Q := by
  have n1 := tn_rng w1
  unfold w_Mo_placeFor
  have key : ∀ (f k : Nat), (k : Int) + f = y → w_Mo_placeFor_4 Λ Q (f + 1) m y (lsM t1 mm y k) (k : Int) S := by
    intro f
    induction f with
    | zero =>
      intro k hk
      have hl := lsM_ok (t1 := t1) (m := mm) (y := y) k
      unfold plc at hq
      rw [show y.toNat = k by omega] at hq
      rw [w_Mo_placeFor_4]
      refine ⟨by unfold inR; omega, by unfold inR; omega, fun _ => ⟨by unfold inR; omega, fun z => ?_, fun z => ?_⟩, fun z => by omega⟩
      · have hl2 := hl.resolve_left (by omega)
        have h3 := (hm _ hl2.1 (by omega)).2 hl2.2.2.1 hl2.2.2.2
        refine ⟨by omega, ?_⟩
        rw [(hp _ hl2.1 (by omega)).1]
        refine s_Mo_placeIn (W := W) ?_ ⟨_, hM.2⟩ h3.1 h3.2.1 h3.2.2 ?_
        · rw [(hM.1 _ h3.1 h3.2.1).1, a2_p h3.2.2]
        · rw [if_neg (by omega)] at hq
          rw [Int.add_comm]
          exact hq
      · rw [if_pos (by omega)] at hq; exact hq
    | succ f ih =>
      intro k hk
      have ihk := ih (k + 1) (by omega)
      rw [show ((k + 1 : Nat) : Int) = (k : Int) + 1 by omega] at ihk
      have pk := pm_rng w1 (y := (k : Int)) (by omega) (by omega)
      have py := pm_rng w1 y0 y1
      have tk := tp_rng w1 (k := (k : Int)) (by omega) (by omega)
      have ty := tp_rng w1 y0 y1
      have hmk := hm (k : Int) (by omega) (by omega)
      have skip : ¬ (tp t1 (k : Int) = tp t1 y ∧ mm (k : Int) ≠ 0) → lsM t1 mm y (k + 1) = lsM t1 mm y k := fun h => if_neg h
      have take : (tp t1 (k : Int) = tp t1 y ∧ mm (k : Int) ≠ 0) → lsM t1 mm y (k + 1) = (k : Int) := fun h => if_pos h
      rw [w_Mo_placeFor_4]
      refine ⟨by unfold inR; omega, by unfold inR; omega, fun z => by omega, fun _ => ?_⟩
      refine s_Mo_parentOf hT w1 (by omega) (by omega) ?_
      refine s_Mo_parentOf hT w1 y0 y1 ?_
      rw [(hp (k : Int) (by omega) (by omega)).2]
      have heq : pm t1 (k : Int) = pm t1 y ↔ tp t1 (k : Int) = tp t1 y := by
        by_cases q1 : tp t1 (k : Int) < 0 <;> by_cases q2 : tp t1 y < 0
        · have := pk.2.2.1 q1; have := py.2.2.1 q2; omega
        · have := pk.2.2.1 q1; have := py.2.2.2 (by omega); omega
        · have := pk.2.2.2 (by omega); have := py.2.2.1 q2; omega
        · have := pk.2.2.2 (by omega); have := py.2.2.2 (by omega); omega
      refine ⟨by unfold inR; omega, by unfold inR; omega, fun z => ?_, fun z => ⟨by omega, by unfold inR; omega, fun z2 => ?_, fun z2 => ?_⟩⟩
      · rw [skip (fun w => z (heq.2 w.1))] at ihk; exact ihk
      · rw [skip (fun w => w.2 z2)] at ihk; exact ihk
      · rw [take ⟨heq.1 z, z2⟩] at ihk; exact ihk
  exact ⟨_, key y.toNat 0 (by omega)⟩
theorem MZ_add {S S' : QMem} {m : Nat} {t1 : TT} {Z : ZZ} {s : ST} {p mm : Int → Int} (hZ : MZ S m t1 Z) (h1 : MW S' m (ap (zw Z) s)) (h2 : S'.1 m 31 0 = (zn Z : Int) + 1) (h3 : MSt S' m (zn Z : Int) s) (h3' : ∀ i, i < 6 * (zn Z : Int) → S'.1 m 30 i = S.1 m 30 i) (h4 : ∀ y, 0 ≤ y → y < tn t1 → S'.1 m 32 y = p y ∧ S'.1 m 33 y = mm y) (h5 : S'.1 m 32 24 = 48) : MZ S' m t1 (addZ Z s p mm) := by
  refine ⟨h1, by rw [h2]; show (zn Z : Int) + 1 = ((zn Z + 1 : Nat) : Int); omega, fun i hi => ?_, h4, h5⟩
  have hi : i < zn Z + 1 := hi
  show MSt S' m _ (if i = zn Z then s else zs Z i)
  by_cases q : i = zn Z
  · rw [if_pos q, q]; exact h3
  · rw [if_neg q]
    intro j j0 j1
    rw [h3' _ (by omega)]
    exact hZ.2.2.1 i (by omega) j j0 j1
theorem s_Mo_moves {Λ : QLay} {m : Nat} {y : Int} {S : QMem} {Q : QMem → Prop} {t0 t1 : TT} {Z : ZZ} (hT : mT S m 1 t1) (w1 : wfT t1) (hZ : MZ S m t1 Z) (hI : ZI t0 t1 Z) (y0 : 0 ≤ y) (y1 : y < tn t1) (hp : zp Z y ≠ -1) (hr : rm Z (tp t1 y) ≠ -1) (hn : zn Z ≤ 95)
    (hq : ∀ S', Kp (fun o f => o = m ∧ 25 ≤ f ∧ f ≤ 33) S S' → MZ S' m t1 (mvZ t1 Z y) → Q S') : w_Mo_moves Λ m y S Q := by
  have n1 := tn_rng w1
  have hty := tp_rng w1 y0 y1
  have hpm := pm_rng w1 y0 y1
  have hA := (ZI_mv w1 hI y0 y1 hp hr).2
  have hrr := ZI_rm w1 hI (y := tp t1 y) (by omega) (by omega) hr
  have hy := (hI.2.2.2.1 y y0 y1).resolve_left hp
  have hwo := wfW_out hI.2.1 hy.1 hy.2.1 hy.2.2.1
  have hZZ := hZ
  obtain ⟨z1, z2, z3, z4, z5⟩ := hZ
  unfold w_Mo_moves
  refine ⟨by omega, ?_⟩
  intro x hx
  rw [(z4 y y0 y1).1] at hx
  rw [hx]
  refine s_Mo_parentOf hT w1 y0 y1 ⟨by omega, ?_⟩
  intro u hu
  rw [MZ_rm w1 hZZ y0 y1] at hu
  rw [hu]
  have cx := (z1.1 _ hy.1 hy.2.1).2 hy.2.2.1
  refine s_Mo_takesOut z1 hy.1 hy.2.1 hy.2.2.1 (fun S1 hk1 hM1 hl1 => ?_)
  have nP : ∀ f, f < 25 ∨ 29 < f → ¬ Pmw m m f := fun f hf z => by have := z.2; omega
  refine s_Mo_placeFor (mT_kp hk1 (fun f hf => nP f (by omega)) hT) w1 hM1 (fun k k0 k1 => by rw [hk1.at (nP 32 (by omega)), hk1.at (nP 33 (by omega))]; exact z4 k k0 k1) y0 y1 (fun k k0 k1 => ⟨(hI.2.2.2.2.2.2.1 k k0 (by omega)).1, fun e1 e2 => ?_⟩) ?_
  · have hm := (hI.2.2.2.2.2.2.1 k k0 (by omega)).2 e2
    have hk := (hI.2.2.2.1 k k0 (by omega)).resolve_left hm.1
    refine ⟨hk.1, hk.2.1, ?_⟩
    rw [out_n _ (fun z => by have := hI.2.2.2.2.1 k y k0 (by omega) y0 y1 hm.1 z; omega)]
    exact hk.2.2.1
  · refine s_Mo_putsIn hM1 hy.1 hy.2.1 (out_self _ _) hrr.1 hrr.2 hA.1 (okA_km hM1.2 hrr.1 hrr.2 hA) ⟨by rw [hl1 26 _ (Or.inl rfl)]; exact cx.1, by rw [hl1 27 _ (Or.inr rfl)]; exact cx.2⟩ (fun S2 hk2 hM2 _ => ⟨by omega, ?_⟩)
    intro S3 e3
    refine s_Mo_number hrr.1 hrr.2 ?_
    have k3 : Kp (fun o f => o = m ∧ (f = 33 ∨ (25 ≤ f ∧ f ≤ 29))) S S3 := by
      rw [e3]
      exact ((hk1.tr hk2).mono (fun o f z => ⟨z.1, Or.inr z.2⟩)).st ⟨rfl, Or.inl rfl⟩
    have n31 : ¬ (m = m ∧ ((31 : Nat) = 33 ∨ (25 ≤ 31 ∧ 31 ≤ 29))) := by omega
    refine s_Mo_notes (n := zn Z) (by rw [k3.at (by omega)]; exact z2) hn hy.1 (by omega) (fun S4 hk4 h31 h30 hst => ?_)
    have M3 : MW S3 m (putW (outW (zw Z) (zp Z y)) (zp Z y) (rm Z (tp t1 y)) (plc t1 (outW (zw Z) (zp Z y)) (zp Z) (zm Z) y)) := by
      have : Kp (fun o f => o = m ∧ f = 33) S2 S3 := by rw [e3]; exact Kp.rf.st ⟨rfl, rfl⟩
      exact MW_kp this (fun f f0 f1 z => by have := z.2; omega) hM2
    have M4 := MW_kp hk4 (fun f f0 f1 z => by have := z.2; omega) M3
    have K4 : Kp (fun o f => o = m ∧ 25 ≤ f ∧ f ≤ 33) S S4 := (k3.mono (fun o f z => ⟨z.1, by have := z.2; omega, by have := z.2; omega⟩)).tr (hk4.mono (fun o f z => ⟨z.1, by have := z.2; omega, by have := z.2; omega⟩))
    have s32 : ∀ i, S4.1 m 32 i = S.1 m 32 i := fun i => by rw [hk4.at (by omega), k3.at (by omega)]
    refine hq S4 K4 (MZ_add hZZ ?_ h31 (hst _ rfl rfl rfl rfl rfl rfl) (fun i hi => ?_) (fun k k0 k1 => ⟨?_, ?_⟩) (by rw [s32]; exact z5))
    · rw [ap_2 (W := zw Z) (s := (2, zp Z y, rm Z (tp t1 y), plc t1 (outW (zw Z) (zp Z y)) (zp Z) (zm Z) y, 0, 0, wa (zw Z) (zp Z y), wp (zw Z) (zp Z y), 0)) rfl]
      exact M4
    · rw [h30 i hi, k3.at (by omega)]
    · rw [s32]; exact (z4 k k0 k1).1
    · rw [hk4.at (by omega)]
      by_cases q : k = y
      · rw [q, up_s, e3]; simp [q_st]
      · rw [up_n _ _ q, e3]; simp [q_st, q]
        rw [hk2.at (nP 33 (by omega)), hk1.at (nP 33 (by omega))]; exact (z4 k k0 k1).2
/-- what the reference reads of a row -/
def rowM (S : QMem) (m : Nat) (Z : ZZ) (r : Int → Int) (n : Int) : Prop := MW S m (zw Z) ∧ ∀ i, 0 ≤ i → i < n → S.1 m 34 i = r i ∧ (0 ≤ r i ∧ r i < 24) ∧ S.1 m 32 (r i) = zp Z (r i) ∧ 0 ≤ zp Z (r i) ∧ zp Z (r i) < 48 ∧ wa (zw Z) (zp Z (r i)) ≠ -1
theorem rowM_kp {P : Nat → Nat → Prop} {S S' : QMem} {m : Nat} {Z : ZZ} {r : Int → Int} {n : Int} (hk : Kp P S S') (hn : ∀ f, (25 ≤ f ∧ f ≤ 29) ∨ f = 32 ∨ f = 34 → ¬ P m f) (h : rowM S m Z r n) : rowM S' m Z r n := by
  refine ⟨MW_kp hk (fun f f0 f1 => hn f (by omega)) h.1, fun i i0 i1 => ?_⟩
  rw [hk.at (hn 34 (by omega)), hk.at (hn 32 (by omega))]
  exact h.2 i i0 i1
theorem s_Mo_placeR {Λ : QLay} {m : Nat} {S : QMem} {Q : Int → QMem → Prop} {Z : ZZ} {r : Int → Int} {n i : Int} (h : rowM S m Z r n) (i0 : 0 ≤ i) (i1 : i < n) (hq : Q (wp (zw Z) (zp Z (r i))) S) : w_Mo_placeIn Λ m (S.1 m 32 (S.1 m 34 i)) S Q := by
  obtain ⟨a, b, c, d, e, f⟩ := h.2 i i0 i1
  rw [a, c]
  exact s_Mo_placeIn (W := zw Z) (by rw [(h.1.1 _ d e).1, a2_p f]) ⟨_, h.1.2⟩ d e f hq
def ym (y : Int) : Int := if y < 0 then 24 else y
theorem s_Mo_orders {Λ : QLay} {m : Nat} {y : Int} {S : QMem} {Q : QMem → Prop} {t0 t1 : TT} {Z : ZZ} (hT : mT S m 1 t1) (w1 : wfT t1) (hZ : MZ S m t1 Z) (hI : ZI t0 t1 Z) (y0 : -1 ≤ y) (y1 : y < tn t1) (hr : rm Z y ≠ -1) (hu : ∀ k, 0 ≤ k → k < tn t1 → tp t1 k = y → zm Z k = 0) (hn : zn Z + un t1 Z ≤ 95)
    (hq : ∀ S', Kp (Pmo m) S S' → MZ S' m t1 (ordZ t1 Z y) → Q S') : w_Mo_orders Λ m (ym y) S Q := by
  have n1 := tn_rng w1
  obtain ⟨v1, v2, v3⟩ := rv_ok w1 (Z := Z) (y := y)
  have hok := okd_ok w1 hI hr hu
  have hrr := ZI_rm w1 hI y0 y1 hr
  have ymr : 0 ≤ ym y ∧ ym y ≤ 24 ∧ S.1 m 32 (ym y) = rm Z y := by
    unfold ym rm
    by_cases q : y < 0
    · rw [if_pos q, if_pos q]; exact ⟨by omega, by omega, hZ.2.2.2.2⟩
    · rw [if_neg q, if_neg q]; exact ⟨by omega, by omega, (hZ.2.2.2.1 y (by omega) y1).1⟩
  have peq : ∀ k, 0 ≤ k → k < tn t1 → (pm t1 k = ym y ↔ tp t1 k = y) := fun k k0 k1 => by
    have pk := pm_rng w1 k0 k1
    have tk := tp_rng w1 k0 k1
    unfold ym
    by_cases q : y < 0
    · rw [if_pos q]
      by_cases q2 : tp t1 k < 0
      · have := pk.2.2.1 q2; omega
      · have := pk.2.2.2 (by omega); omega
    · rw [if_neg q]
      by_cases q2 : tp t1 k < 0
      · have := pk.2.2.1 q2; omega
      · have := pk.2.2.2 (by omega); omega
  -- frames
  have fT : ∀ {S1 S2 : QMem} {P : Nat → Nat → Prop}, Kp P S1 S2 → (∀ o f, P o f → o = m ∧ 30 ≤ f ∧ f ≤ 36) → mT S1 m 1 t1 → mT S2 m 1 t1 := fun hk hp h => mT_kp hk (fun f hf z => by have := (hp _ _ z).2; omega) h
  -- the moves
  have moves : ∀ (S0 : QMem), Kp (Pmo m) S S0 → MZ S0 m t1 (okd t1 Z y) → S0.1 m 36 0 = rc t1 Z y → (∀ i, 0 ≤ i → i < rc t1 Z y → S0.1 m 34 i = rv t1 Z y i ∧ S0.1 m 35 i = (mz t1 Z y (rc t1 Z y).toNat).2.2.2 i) → ∃ n127 : Nat, w_Mo_orders_129 Λ Q n127 m 0 S0 := fun S0 K0 hZ0 h36 h34 => by
    have hIm := hok.2.2.2 (rc t1 Z y).toNat (by omega)
    have lr := lgR_rng (P := pz t1 Z y) (n := rc t1 Z y) (rc t1 Z y).toNat (by omega)
    have key : ∀ (f k : Nat) (S4 : QMem), (k : Int) + f = rc t1 Z y → Kp (Pmo m) S S4 → S4.1 m 36 0 = rc t1 Z y → (∀ i, 0 ≤ i → i < rc t1 Z y → S4.1 m 34 i = rv t1 Z y i ∧ S4.1 m 35 i = (mz t1 Z y (rc t1 Z y).toNat).2.2.2 i) → MZ S4 m t1 (mvL t1 (rv t1 Z y) (okd t1 Z y) k) → w_Mo_orders_129 Λ Q (f + 1) m (k : Int) S4 := by
      intro f
      induction f with
      | zero =>
        intro k S4 hk K4 h36 h34 hZ4
        rw [w_Mo_orders_129, h36]
        refine ⟨by unfold inR; omega, by unfold inR; omega, fun _ => hq S4 K4 ?_, fun z => by omega⟩
        unfold ordZ
        rw [show (rc t1 Z y).toNat = k by omega]
        exact hZ4
      | succ f ih =>
        intro k S4 hk K4 h36 h34 hZ4
        have mi := mvL_ok w1 hI hr hu k (by omega)
        have vk := v2 (k : Int) (by omega) (by omega)
        have ihk := ih (k + 1)
        rw [show ((k + 1 : Nat) : Int) = (k : Int) + 1 by omega] at ihk
        have hmk : zm (mvL t1 (rv t1 Z y) (okd t1 Z y) k) (rv t1 Z y (k : Int)) = (mz t1 Z y (rc t1 Z y).toNat).2.2.1 (rv t1 Z y (k : Int)) := mi.2.2.2.2 (k : Int) (by omega) (by omega)
        have h5 := hIm.2.2.2.2 (k : Int) (by omega) (by omega)
        have hl := lr (k : Int) (by omega) (by omega)
        have hl : 1 ≤ lz t1 Z y (k : Int) ∧ lz t1 Z y (k : Int) ≤ rc t1 Z y - (k : Int) := hl
        have e34 := h34 (k : Int) (by omega) (by omega)
        rw [w_Mo_orders_129, h36, e34.1, e34.2]
        refine ⟨by unfold inR; omega, by unfold inR; omega, fun z => by omega, fun _ => ⟨by omega, by unfold inR; omega, fun z => ?_, fun z => ⟨by omega, ?_⟩⟩⟩
        · have := ihk S4 (by omega) K4 h36 h34
          rw [mvL_n (by omega)] at this
          exact this hZ4
        · have hn4 : zn (mvL t1 (rv t1 Z y) (okd t1 Z y) k) ≤ 95 := by have := mi.2.2.2.1; omega
          have hrk : rm (mvL t1 (rv t1 Z y) (okd t1 Z y) k) (tp t1 (rv t1 Z y (k : Int))) ≠ -1 := by
            rw [vk.2.2.1]; unfold rm; rw [mi.2.1]; exact hr
          refine s_Mo_moves (mT_kp K4 Pmo_n hT) w1 hZ4 mi.1 vk.1 vk.2.1 (by rw [mi.2.1]; exact vk.2.2.2.1) hrk hn4 (fun S5 hk5 hZ5 => ?_)
          have := ihk S5 (by omega) (K4.tr (hk5.mono (fun o f z => ⟨z.1, by have := z.2; omega⟩))) (by rw [hk5.at (by omega)]; exact h36) (fun i i0 i1 => by rw [hk5.at (by omega), hk5.at (by omega)]; exact h34 i i0 i1)
          rw [mvL_y (by omega)] at this
          exact this hZ5
    exact ⟨_, key (rc t1 Z y).toNat 0 S0 (by omega) K0 h36 h34 hZ0⟩
  -- the marks
  have lr := lgR_rng (P := pz t1 Z y) (n := rc t1 Z y) (rc t1 Z y).toNat (by omega)
  have hmx := mx_rng (g := lz t1 Z y) (k := (rc t1 Z y).toNat) (B := 24) (by omega) (fun i i0 i1 => by
    have := lr i (by omega) (by omega)
    show lgR (pz t1 Z y) (rc t1 Z y) (rc t1 Z y).toNat i ≤ 24
    omega)
  have marks : ∀ (S0 : QMem), Kp (Pmo m) S S0 → MZ S0 m t1 Z → S0.1 m 36 0 = rc t1 Z y → (∀ i, 0 ≤ i → i < rc t1 Z y → S0.1 m 34 i = rv t1 Z y i ∧ S0.1 m 35 i = lz t1 Z y i) → rowM S0 m Z (rv t1 Z y) (rc t1 Z y) → ∃ n47 : Nat, w_Mo_orders_49 Λ Q n47 m (mx (lz t1 Z y) (rc t1 Z y).toNat) (-1) 0 S0 := fun S0 K0 hZ0 h36 h34 hR0 => by
    have key : ∀ (f k : Nat) (S4 : QMem), (k : Int) + f = rc t1 Z y → Kp (fun o f => o = m ∧ (f = 33 ∨ f = 35)) S0 S4 → (∀ z, 0 ≤ z → z < tn t1 → S4.1 m 33 z = (mz t1 Z y k).2.2.1 z) → (∀ i, 0 ≤ i → i < rc t1 Z y → S4.1 m 35 i = (mz t1 Z y k).2.2.2 i) → w_Mo_orders_49 Λ Q (f + 1) m (mz t1 Z y k).1 (mz t1 Z y k).2.1 (k : Int) S4 := by
      intro f
      induction f with
      | zero =>
        intro k S4 hk k4 h33 h35
        rw [w_Mo_orders_49, k4.at (by omega), h36]
        refine ⟨by unfold inR; omega, by unfold inR; omega, fun _ => ?_, fun z => by omega⟩
        have ek : (rc t1 Z y).toNat = k := by omega
        refine moves S4 (K0.tr (k4.mono (fun o f z => ⟨z.1, by have := z.2; omega⟩))) ?_ (by rw [k4.at (by omega)]; exact h36) (fun i i0 i1 => ⟨by rw [k4.at (by omega)]; exact (h34 i i0 i1).1, by rw [ek]; exact h35 i i0 i1⟩)
        obtain ⟨a, b, c, d, e⟩ := hZ0
        refine ⟨MW_kp k4 (fun f f0 f1 z => by have := z.2; omega) a, by rw [k4.at (by omega)]; exact b, fun i hi => MSt_kp k4 (by omega) (c i hi), fun z z0 z1 => ⟨by rw [k4.at (by omega)]; exact (d z z0 z1).1, ?_⟩, by rw [k4.at (by omega)]; exact e⟩
        show S4.1 m 33 z = (mz t1 Z y (rc t1 Z y).toNat).2.2.1 z
        rw [ek]; exact h33 z z0 z1
      | succ f ih =>
        intro k S4 hk k4 h33 h35
        have ik := hok.2.2.2 k (by omega)
        have vk := v2 (k : Int) (by omega) (by omega)
        have R4 := rowM_kp k4 (fun f hf z => by have := z.2; omega) hR0
        have rk := R4.2 (k : Int) (by omega) (by omega)
        have wr : ∀ i, 0 ≤ i → i < rc t1 Z y → 0 ≤ pz t1 Z y i ∧ pz t1 Z y i ≤ 47 := fun i i0 i1 => by
          have q := R4.2 i i0 i1
          have := (wfW_rng hI.2.1 q.2.2.2.1 q.2.2.2.2.1).resolve_left q.2.2.2.2.2
          exact ⟨this.2.2.1, this.2.2.2⟩
        have wk := wr (k : Int) (by omega) (by omega)
        have lrk : -1 ≤ (mz t1 Z y k).2.1 ∧ (mz t1 Z y k).2.1 ≤ 48 := by
          rcases ik.2.1 with z | ⟨i, i0, i1, e⟩
          · omega
          · have := wr i i0 (by omega); omega
        have hl : 1 ≤ lz t1 Z y (k : Int) ∧ lz t1 Z y (k : Int) ≤ rc t1 Z y - (k : Int) := lr (k : Int) (by omega) (by omega)
        have g35 : S4.1 m 35 (k : Int) = lz t1 Z y (k : Int) := by rw [h35 (k : Int) (by omega) (by omega)]; exact ik.2.2.2.1 (k : Int) (by omega)
        have i1 := ik.1
        have ihk := ih (k + 1)
        rw [show ((k + 1 : Nat) : Int) = (k : Int) + 1 by omega] at ihk
        have skip : ¬ (lz t1 Z y (k : Int) = (mz t1 Z y k).1 ∧ (mz t1 Z y k).2.1 < pz t1 Z y (k : Int)) → w_Mo_orders_49 Λ Q (f + 1) m (mz t1 Z y k).1 (mz t1 Z y k).2.1 ((k : Int) + 1) S4 := fun h => by
          have := ihk S4 (by omega) k4
          have e : mz t1 Z y (k + 1) = mz t1 Z y k := mkF_n h
          rw [e] at this
          exact this h33 h35
        rw [w_Mo_orders_49, k4.at (by omega), h36]
        refine ⟨by unfold inR; omega, by unfold inR; omega, fun z => by omega, fun _ => ⟨by omega, by omega, ?_⟩⟩
        refine s_Mo_placeR R4 (by omega) (by omega) ?_
        have epz : wp (zw Z) (zp Z (rv t1 Z y (k : Int))) = pz t1 Z y (k : Int) := rfl
        rw [g35, epz]
        refine ⟨by omega, by unfold inR; omega, by unfold inR; omega, fun z => skip (fun w => z w.1), fun z => ⟨by unfold inR; omega, by unfold inR; omega, fun w => skip (by omega), fun w => ⟨by omega, by omega, ?_⟩⟩⟩
        intro S5 e5
        refine ⟨by omega, ?_⟩
        intro S6 e6
        have hyes : lz t1 Z y (k : Int) = (mz t1 Z y k).1 ∧ (mz t1 Z y k).2.1 < pz t1 Z y (k : Int) := ⟨z, by omega⟩
        have e : mz t1 Z y (k + 1) = ((mz t1 Z y k).1 - 1, pz t1 Z y (k : Int), up (mz t1 Z y k).2.2.1 (rv t1 Z y (k : Int)) 1, up (mz t1 Z y k).2.2.2 (k : Int) 0) := mkF_y hyes
        have := ihk S6 (by omega) (by rw [e6, e5]; exact (k4.st ⟨rfl, Or.inl rfl⟩).st ⟨rfl, Or.inr rfl⟩)
        rw [e] at this
        rw [rk.1] at e5
        refine this (fun z z0 z1 => ?_) (fun i i0 i1 => ?_)
        · show S6.1 m 33 z = up (mz t1 Z y k).2.2.1 (rv t1 Z y (k : Int)) 1 z
          by_cases q : z = rv t1 Z y (k : Int)
          · rw [q, up_s, e6, e5]; simp [q_st]
          · rw [up_n _ _ q, e6, e5]; simp [q_st, q]; exact h33 z z0 z1
        · show S6.1 m 35 i = up (mz t1 Z y k).2.2.2 (k : Int) 0 i
          by_cases q : i = (k : Int)
          · rw [q, up_s, e6]; simp [q_st]
          · rw [up_n _ _ q, e6, e5]; simp [q_st, q]; exact h35 i i0 i1
    exact ⟨_, key (rc t1 Z y).toNat 0 S0 (by omega) Kp.rf (fun z z0 z1 => (hZ0.2.2.2.1 z z0 z1).2) (fun i i0 i1 => (h34 i i0 i1).2)⟩
  -- the longest
  have most : ∀ (S0 : QMem), Kp (Pmo m) S S0 → MZ S0 m t1 Z → S0.1 m 36 0 = rc t1 Z y → (∀ i, 0 ≤ i → i < rc t1 Z y → S0.1 m 34 i = rv t1 Z y i ∧ S0.1 m 35 i = lz t1 Z y i) → rowM S0 m Z (rv t1 Z y) (rc t1 Z y) → ∃ n8 : Nat, w_Mo_orders_9 Λ Q n8 m 0 0 S0 := fun S0 K0 hZ0 h36 h34 hR0 => by
    have key : ∀ (f k : Nat), (k : Int) + f = rc t1 Z y → w_Mo_orders_9 Λ Q (f + 1) m (mx (lz t1 Z y) k) (k : Int) S0 := by
      intro f
      induction f with
      | zero =>
        intro k hk
        rw [w_Mo_orders_9, h36]
        refine ⟨by unfold inR; omega, by unfold inR; omega, fun _ => ?_, fun z => by omega⟩
        have := marks S0 K0 hZ0 h36 h34 hR0
        rw [show (rc t1 Z y).toNat = k by omega] at this
        exact this
      | succ f ih =>
        intro k hk
        have hl : 1 ≤ lz t1 Z y (k : Int) ∧ lz t1 Z y (k : Int) ≤ rc t1 Z y - (k : Int) := lr (k : Int) (by omega) (by omega)
        have hm := mx_rng (g := lz t1 Z y) (k := k) (B := 24) (by omega) (fun i i0 i1 => by
          have := lr i (by omega) (by omega)
          show lgR (pz t1 Z y) (rc t1 Z y) (rc t1 Z y).toNat i ≤ 24
          omega)
        have ihk := ih (k + 1) (by omega)
        rw [show ((k + 1 : Nat) : Int) = (k : Int) + 1 by omega] at ihk
        have e : mx (lz t1 Z y) (k + 1) = if mx (lz t1 Z y) k < lz t1 Z y (k : Int) then lz t1 Z y (k : Int) else mx (lz t1 Z y) k := rfl
        rw [e] at ihk
        rw [w_Mo_orders_9, h36, (h34 (k : Int) (by omega) (by omega)).2]
        refine ⟨by unfold inR; omega, by unfold inR; omega, fun z => by omega, fun _ => ⟨by omega, by unfold inR; omega, by unfold inR; omega, fun z => ?_, fun z => ⟨by omega, ?_⟩⟩⟩
        · rw [if_neg (by omega)] at ihk; exact ihk
        · intro x hx
          rw [if_pos (by omega)] at ihk
          rw [hx]; exact ihk
    exact ⟨_, key (rc t1 Z y).toNat 0 (by omega)⟩
  -- the lengths
  have lens : ∀ (S0 : QMem), Kp (Pmo m) S S0 → MZ S0 m t1 Z → S0.1 m 36 0 = rc t1 Z y → (∀ i, 0 ≤ i → i < rc t1 Z y → S0.1 m 34 i = rv t1 Z y i) → ∃ n87 : Nat, w_Mo_findRow_88 Λ (fun (S2 : QMem) => ∃ n8 : Nat, w_Mo_orders_9 Λ Q n8 m 0 0 S2) n87 m (rc t1 Z y - 1) S0 := fun S0 K0 hZ0 h36 h34 => by
    have R0 : rowM S0 m Z (rv t1 Z y) (rc t1 Z y) := ⟨hZ0.1, fun i i0 i1 => by
      have h := v2 i i0 i1
      have hz := (hI.2.2.2.1 _ h.1 h.2.1).resolve_left h.2.2.2.1
      exact ⟨h34 i i0 i1, by omega, (hZ0.2.2.2.1 _ h.1 h.2.1).1, hz.1, hz.2.1, hz.2.2.1⟩⟩
    have wr : ∀ i, 0 ≤ i → i < rc t1 Z y → 0 ≤ pz t1 Z y i ∧ pz t1 Z y i ≤ 47 := fun i i0 i1 => by
      have q := R0.2 i i0 i1
      have := (wfW_rng hI.2.1 q.2.2.2.1 q.2.2.2.2.1).resolve_left q.2.2.2.2.2
      exact ⟨this.2.2.1, this.2.2.2⟩
    have keep : ∀ {S' : QMem}, Kp (fun o f => o = m ∧ f = 35) S0 S' → rowM S' m Z (rv t1 Z y) (rc t1 Z y) := fun hk => rowM_kp hk (fun f hf z => by have := z.2; omega) R0
    have key : ∀ (g f : Nat) (S1 : QMem), (f : Int) + g = rc t1 Z y → Kp (fun o f => o = m ∧ f = 35) S0 S1 → (∀ i, rc t1 Z y - f ≤ i → i < rc t1 Z y → S1.1 m 35 i = lgR (pz t1 Z y) (rc t1 Z y) f i) → w_Mo_findRow_88 Λ (fun (S2 : QMem) => ∃ n8 : Nat, w_Mo_orders_9 Λ Q n8 m 0 0 S2) (g + 1) m (rc t1 Z y - 1 - (f : Int)) S1 := by
      intro g
      induction g with
      | zero =>
        intro f S1 hf hk hl
        rw [w_Mo_findRow_88]
        refine ⟨by unfold inR; omega, fun _ => ?_, fun z => by omega⟩
        refine most S1 (K0.tr (hk.mono (fun o f z => ⟨z.1, by have := z.2; omega⟩))) (MZ_kp hk (fun f f0 f1 z => by have := z.2; omega) hZ0) (by rw [hk.at (by omega)]; exact h36) (fun i i0 i1 => ⟨by rw [hk.at (by omega)]; exact h34 i i0 i1, ?_⟩) (keep hk)
        rw [hl i (by omega) i1]
        unfold lz
        rw [show (rc t1 Z y).toNat = f by omega]
      | succ g ih =>
        intro f S1 hf hk hl
        have hrg := lgR_rng (P := pz t1 Z y) (n := rc t1 Z y) f (by omega)
        rw [w_Mo_findRow_88]
        refine ⟨by unfold inR; omega, fun z => by omega, fun _ => ⟨by omega, ?_⟩⟩
        intro S2 e2 w hw
        rw [hw]
        have inner : ∀ (h k : Nat) (S3 : QMem), (k : Int) + h = f → Kp (fun o f => o = m ∧ f = 35) S0 S3 → (∀ i, rc t1 Z y - f ≤ i → i < rc t1 Z y → S3.1 m 35 i = lgR (pz t1 Z y) (rc t1 Z y) f i) → S3.1 m 35 (rc t1 Z y - 1 - (f : Int)) = inL (pz t1 Z y) (lgR (pz t1 Z y) (rc t1 Z y) f) (rc t1 Z y - 1 - (f : Int)) k → w_Mo_findRow_103 Λ (fun v0' v2' S' => w_Mo_findRow_88 Λ (fun (S2 : QMem) => ∃ n8 : Nat, w_Mo_orders_9 Λ Q n8 m 0 0 S2) (g + 1) v0' v2' S') (fun (S2 : QMem) => ∃ n8 : Nat, w_Mo_orders_9 Λ Q n8 m 0 0 S2) (h + 1) m (rc t1 Z y - 1 - (f : Int)) (rc t1 Z y - 1 - (f : Int) + 1 + (k : Int)) S3 := by
          intro h
          induction h with
          | zero =>
            intro k S3 hk3 hkp hl3 hi3
            rw [w_Mo_findRow_103, hkp.at (by omega), h36]
            refine ⟨by unfold inR; omega, by unfold inR; omega, fun _ => ?_, fun z => by omega⟩
            have ek : k = f := by omega
            rw [ek] at hi3
            have el : lgR (pz t1 Z y) (rc t1 Z y) (f + 1) = up (lgR (pz t1 Z y) (rc t1 Z y) f) (rc t1 Z y - 1 - (f : Int)) (inL (pz t1 Z y) (lgR (pz t1 Z y) (rc t1 Z y) f) (rc t1 Z y - 1 - (f : Int)) f) := rfl
            have := ih (f + 1) S3 (by omega) hkp (fun i i0 i1 => by
              rw [el]
              by_cases q : i = rc t1 Z y - 1 - (f : Int)
              · rw [q, up_s]; exact hi3
              · rw [up_n _ _ q]; exact hl3 i (by omega) i1)
            rw [show rc t1 Z y - 1 - ((f + 1 : Nat) : Int) = rc t1 Z y - 1 - (f : Int) + (-1) by omega] at this
            exact this
          | succ h ihh =>
            intro k S3 hk3 hkp hl3 hi3
            have hr2 := inL_rng (P := pz t1 Z y) (g := lgR (pz t1 Z y) (rc t1 Z y) f) (i := rc t1 Z y - 1 - (f : Int)) (n := rc t1 Z y) k (by omega) (fun j j0 j1 => hrg j (by omega) j1)
            have hrj := hrg (rc t1 Z y - 1 - (f : Int) + 1 + (k : Int)) (by omega) (by omega)
            have hj := hl3 (rc t1 Z y - 1 - (f : Int) + 1 + (k : Int)) (by omega) (by omega)
            have R3 := keep hkp
            have ihk := ihh (k + 1)
            rw [show rc t1 Z y - 1 - (f : Int) + 1 + ((k + 1 : Nat) : Int) = rc t1 Z y - 1 - (f : Int) + 1 + (k : Int) + 1 by omega] at ihk
            have el : inL (pz t1 Z y) (lgR (pz t1 Z y) (rc t1 Z y) f) (rc t1 Z y - 1 - (f : Int)) (k + 1) = if pz t1 Z y (rc t1 Z y - 1 - (f : Int)) < pz t1 Z y (rc t1 Z y - 1 - (f : Int) + 1 + (k : Int)) ∧ inL (pz t1 Z y) (lgR (pz t1 Z y) (rc t1 Z y) f) (rc t1 Z y - 1 - (f : Int)) k ≤ lgR (pz t1 Z y) (rc t1 Z y) f (rc t1 Z y - 1 - (f : Int) + 1 + (k : Int)) then lgR (pz t1 Z y) (rc t1 Z y) f (rc t1 Z y - 1 - (f : Int) + 1 + (k : Int)) + 1 else inL (pz t1 Z y) (lgR (pz t1 Z y) (rc t1 Z y) f) (rc t1 Z y - 1 - (f : Int)) k := rfl
            have wi := wr (rc t1 Z y - 1 - (f : Int)) (by omega) (by omega)
            have wj := wr (rc t1 Z y - 1 - (f : Int) + 1 + (k : Int)) (by omega) (by omega)
            have ri := (R3.2 (rc t1 Z y - 1 - (f : Int)) (by omega) (by omega)).1
            have rj := (R3.2 (rc t1 Z y - 1 - (f : Int) + 1 + (k : Int)) (by omega) (by omega)).1
            have rvi := (R3.2 (rc t1 Z y - 1 - (f : Int)) (by omega) (by omega)).2.1
            have rvj := (R3.2 (rc t1 Z y - 1 - (f : Int) + 1 + (k : Int)) (by omega) (by omega)).2.1
            have no : ¬ (pz t1 Z y (rc t1 Z y - 1 - (f : Int)) < pz t1 Z y (rc t1 Z y - 1 - (f : Int) + 1 + (k : Int)) ∧ inL (pz t1 Z y) (lgR (pz t1 Z y) (rc t1 Z y) f) (rc t1 Z y - 1 - (f : Int)) k ≤ lgR (pz t1 Z y) (rc t1 Z y) f (rc t1 Z y - 1 - (f : Int) + 1 + (k : Int))) → w_Mo_findRow_163 Λ (fun v0' v2' S' => w_Mo_findRow_88 Λ (fun (S2 : QMem) => ∃ n8 : Nat, w_Mo_orders_9 Λ Q n8 m 0 0 S2) (g + 1) v0' v2' S') (fun v0' v2' v3' S' => w_Mo_findRow_103 Λ (fun v0' v2' S' => w_Mo_findRow_88 Λ (fun (S2 : QMem) => ∃ n8 : Nat, w_Mo_orders_9 Λ Q n8 m 0 0 S2) (g + 1) v0' v2' S') (fun (S2 : QMem) => ∃ n8 : Nat, w_Mo_orders_9 Λ Q n8 m 0 0 S2) (h + 1) v0' v2' v3' S') (fun (S2 : QMem) => ∃ n8 : Nat, w_Mo_orders_9 Λ Q n8 m 0 0 S2) m (rc t1 Z y - 1 - (f : Int)) (rc t1 Z y - 1 - (f : Int) + 1 + (k : Int)) S3 := fun hno => by
              unfold w_Mo_findRow_163 w_Mo_findRow_164
              refine ⟨by unfold inR; omega, fun _ => ⟨by omega, by omega, ?_⟩, fun z => absurd rfl z⟩
              intro S4 e4
              refine ihk S4 (by omega) (by rw [e4]; exact hkp.st ⟨rfl, rfl⟩) (fun i i0 i1 => ?_) ?_
              · have qn : ¬ i = rc t1 Z y - 1 - (f : Int) := by omega
                rw [e4]; simp only [q_st]; rw [if_neg (fun w => qn w.2.2)]; exact hl3 i i0 i1
              · rw [el, if_neg hno, e4, q_st_eq]; exact hi3
            rw [w_Mo_findRow_103, hkp.at (o := m) (f := 36) (by omega), h36]
            refine ⟨by unfold inR; omega, by unfold inR; omega, fun z => by omega, fun _ => ⟨by omega, by omega, ?_⟩⟩
            refine s_Mo_placeR R3 (by omega) (by omega) ⟨by omega, by omega, ?_⟩
            refine s_Mo_placeR R3 (by omega) (by omega) ?_
            have epi : wp (zw Z) (zp Z (rv t1 Z y (rc t1 Z y - 1 - (f : Int)))) = pz t1 Z y (rc t1 Z y - 1 - (f : Int)) := rfl
            have epj : wp (zw Z) (zp Z (rv t1 Z y (rc t1 Z y - 1 - (f : Int) + 1 + (k : Int)))) = pz t1 Z y (rc t1 Z y - 1 - (f : Int) + 1 + (k : Int)) := rfl
            rw [epi, epj, hi3, hj]
            refine ⟨by unfold inR; omega, by unfold inR; omega, fun z => no (by omega), fun z => ⟨by omega, by omega, by unfold inR; omega, by unfold inR; omega, fun z2 => no (by omega), fun z2 => ?_⟩⟩
            unfold w_Mo_findRow_164
            refine ⟨by unfold inR; omega, fun z3 => by omega, fun _ => ⟨by omega, by omega, ?_⟩⟩
            rw [hj]
            intro S4 e4
            refine ihk S4 (by omega) (by rw [e4]; exact hkp.st ⟨rfl, rfl⟩) (fun i i0 i1 => ?_) ?_
            · have qn : ¬ i = rc t1 Z y - 1 - (f : Int) := by omega
              rw [e4]; simp only [q_st]; rw [if_neg (fun w => qn w.2.2)]; exact hl3 i i0 i1
            · rw [el, if_pos (by omega), e4, q_st_eq]
        have := inner f 0 S2 (by omega) (by rw [e2]; exact hk.st ⟨rfl, rfl⟩) (fun i i0 i1 => by
          have qn : ¬ i = rc t1 Z y - 1 - (f : Int) := by omega
          rw [e2]; simp only [q_st]; rw [if_neg (fun w => qn w.2.2)]; exact hl i i0 i1) (by rw [e2]; simp [q_st]; rfl)
        rw [show rc t1 Z y - 1 - (f : Int) + 1 + ((0 : Nat) : Int) = rc t1 Z y - 1 - (f : Int) + 1 by omega] at this
        exact ⟨_, this⟩
    have := key (rc t1 Z y).toNat 0 S0 (by omega) Kp.rf (fun i a b => by omega)
    rw [show rc t1 Z y - 1 - ((0 : Nat) : Int) = rc t1 Z y - 1 by omega] at this
    exact ⟨_, this⟩
  -- the row
  unfold w_Mo_orders w_Mo_findRow
  intro S1 e1
  have row : ∀ (f k : Nat) (S2 : QMem), (k : Int) + f = tn t1 → Kp (fun o f => o = m ∧ (f = 34 ∨ f = 36)) S S2 → S2.1 m 36 0 = (rowF t1 Z y k).1 → (∀ i, 0 ≤ i → i < (rowF t1 Z y k).1 → S2.1 m 34 i = (rowF t1 Z y k).2 i) → w_Mo_findRow_7 Λ (fun (S2 : QMem) => ∃ n8 : Nat, w_Mo_orders_9 Λ Q n8 m 0 0 S2) (f + 1) m (ym y) (k : Int) S2 := by
    intro f
    induction f with
    | zero =>
      intro k S2 hk k2 h36 h34
      have hT2 := mT_kp k2 (fun f hf z => by have := z.2; omega) hT
      rw [w_Mo_findRow_7, hT2.1.1, h36]
      have ek : rowF t1 Z y k = rowF t1 Z y (tn t1).toNat := by rw [show k = (tn t1).toNat by omega]
      rw [ek] at h36 h34 ⊢
      refine ⟨by unfold inR; omega, by unfold inR; omega, fun _ => ?_, fun z => by omega⟩
      intro x hx
      rw [hx]
      exact lens S2 (k2.mono (fun o f z => ⟨z.1, by have := z.2; omega⟩)) (MZ_kp k2 (fun f f0 f1 z => by have := z.2; omega) hZ) h36 h34
    | succ f ih =>
      intro k S2 hk k2 h36 h34
      have hT2 := mT_kp k2 (fun f hf z => by have := z.2; omega) hT
      have Z2 := MZ_kp k2 (fun f f0 f1 z => by have := z.2; omega) hZ
      have pk := pm_rng w1 (y := (k : Int)) (by omega) (by omega)
      have ok := (rowF_ok (t1 := t1) (Z := Z) (y := y) k).1
      have hzk := hI.2.2.2.1 (k : Int) (by omega) (by omega)
      have ihk := ih (k + 1)
      rw [show ((k + 1 : Nat) : Int) = (k : Int) + 1 by omega] at ihk
      have skip : ¬ inRow t1 Z y (k : Int) → w_Mo_findRow_7 Λ (fun (S2 : QMem) => ∃ n8 : Nat, w_Mo_orders_9 Λ Q n8 m 0 0 S2) (f + 1) m (ym y) ((k : Int) + 1) S2 := fun h => by
        have := ihk S2 (by omega) k2
        rw [rowF_n h] at this
        exact this h36 h34
      rw [w_Mo_findRow_7, hT2.1.1]
      refine ⟨by unfold inR; omega, by unfold inR; omega, fun z => by omega, fun _ => ?_⟩
      refine s_Mo_parentOf hT2 w1 (by omega) (by omega) ?_
      have e32 : S2.1 m 32 (ym y) = rm Z y := by rw [k2.at (by omega)]; exact ymr.2.2
      rw [(Z2.2.2.2.1 (k : Int) (by omega) (by omega)).1, h36, e32]
      refine ⟨by unfold inR; omega, by unfold inR; omega, fun z => skip (fun w => z ((peq (k : Int) (by omega) (by omega)).2 w.1)), fun z => ⟨by omega, by unfold inR; omega, fun w => skip (fun v => by have := v.2.1; omega), fun w => ?_⟩⟩
      have hz2 := hzk.resolve_left (by omega)
      have hwr := (wfW_rng hI.2.1 hz2.1 hz2.2.1).resolve_left hz2.2.2.1
      have e25 : S2.1 m 25 (zp Z (k : Int)) = wa (zw Z) (zp Z (k : Int)) := by rw [(Z2.1.1 _ hz2.1 hz2.2.1).1, a2_p hz2.2.2.1]
      rw [e25]
      refine ⟨by omega, by omega, by omega, by unfold inR; omega, by unfold inR; omega, fun v => skip (fun u => v u.2.2), fun v => ⟨by omega, ?_⟩⟩
      intro S3 e3 S4 e4
      have hin : inRow t1 Z y (k : Int) := ⟨(peq (k : Int) (by omega) (by omega)).1 z, by omega, v⟩
      have c3 : S3.1 m 36 0 = (rowF t1 Z y k).1 := by rw [e3]; simp [q_st, h36]
      rw [c3] at e4
      have := ihk S4 (by omega) (by rw [e4, e3]; exact (k2.st ⟨rfl, Or.inl rfl⟩).st ⟨rfl, Or.inr rfl⟩)
      rw [rowF_y hin] at this
      refine this (by rw [e4]; simp [q_st]) (fun i i0 i1 => ?_)
      have i1 : i < (rowF t1 Z y k).1 + 1 := i1
      show S4.1 m 34 i = up (rowF t1 Z y k).2 (rowF t1 Z y k).1 (k : Int) i
      by_cases q : i = (rowF t1 Z y k).1
      · rw [q, up_s, e4, e3]; simp [q_st]
      · rw [up_n _ _ q, e4, e3]; simp [q_st, q]; exact h34 i i0 (by omega)
  exact ⟨_, row (tn t1).toNat 0 S1 (by omega) (by rw [e1]; exact Kp.rf.st ⟨rfl, Or.inr rfl⟩) (by rw [e1]; simp [q_st]; rfl) (fun i a b => by have b : i < 0 := b; omega)⟩
