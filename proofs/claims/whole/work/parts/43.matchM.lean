/-! the reference's matching -/
theorem mT_kp {P : Nat → Nat → Prop} {S S' : QMem} {m : Nat} {i : Int} {t : TT} (hk : Kp P S S') (hn : ∀ f, f < 4 ∨ f = 18 ∨ f = 19 → ¬ P m f) (h : mT S m i t) : mT S' m i t := by
  obtain ⟨⟨h1, h2⟩, h3⟩ := h
  refine ⟨⟨by rw [hk.at (hn 0 (by omega))]; exact h1, fun k k0 k1 => ?_⟩, fun k k0 k1 => ?_⟩
  · rw [hk.at (hn 1 (by omega)), hk.at (hn 2 (by omega)), hk.at (hn 3 (by omega))]; exact h2 k k0 k1
  · rw [hk.at (hn 18 (by omega)), hk.at (hn 19 (by omega))]; exact h3 k k0 k1
theorem WM_kp {P : Nat → Nat → Prop} {S S' : QMem} {m : Nat} {t0 t1 : TT} (hk : Kp P S S') (hn : ∀ f, f < 4 ∨ f = 18 ∨ f = 19 → ¬ P m f) (h : WM m S t0 t1) : WM m S' t0 t1 := ⟨mT_kp hk hn h.1, mT_kp hk hn h.2.1, h.2.2⟩
def MX (S : QMem) (m : Nat) (P : MM) : Prop := ∀ i, 0 ≤ i → i < 24 → S.1 m 21 i = q0 P i ∧ S.1 m 22 i = q1 P i ∧ S.1 m 23 i = (if qh P i = -1 then -15 else qh P i)
abbrev Pmm (m : Nat) : Nat → Nat → Prop := fun o f => o = m ∧ (f = 21 ∨ f = 22 ∨ f = 23)
theorem Pmm_n {m : Nat} : ∀ f, f < 4 ∨ f = 18 ∨ f = 19 → ¬ Pmm m m f := fun f h z => by have := z.2; omega
theorem s_Mo_joins {Λ : QLay} {m : Nat} {x y ph : Int} {S : QMem} {Q : QMem → Prop} {P : MM} (hC : MX S m P) (x0 : 0 ≤ x ∧ x < 24) (y0 : 0 ≤ y ∧ y < 24) (hp : 1 ≤ ph) (hq : ∀ S', Kp (Pmm m) S S' → MX S' m (j1 P x y ph) → Q S') : w_Mo_joins Λ m x y ph S Q := by
  unfold w_Mo_joins
  refine ⟨x0, ?_⟩
  intro S1 e1
  refine ⟨y0, ?_⟩
  intro S2 e2
  refine ⟨x0, ?_⟩
  intro S3 e3
  refine hq S3 (by rw [e3, e2, e1]; exact ((Kp.rf (P := Pmm m)).st ⟨rfl, by simp⟩ |>.st ⟨rfl, by simp⟩).st ⟨rfl, by simp⟩) (fun i i0 i1 => ?_)
  obtain ⟨a1, a2, a3⟩ := hC i i0 i1
  rw [e3, e2, e1]
  refine ⟨?_, ?_, ?_⟩
  · show _ = up (q0 P) x y i
    by_cases q : i = x
    · rw [q, up_s]; simp [q_st]
    · rw [up_n _ _ q]; simp [q_st, q, a1]
  · show _ = up (q1 P) y x i
    by_cases q : i = y
    · rw [q, up_s]; simp [q_st]
    · rw [up_n _ _ q]; simp [q_st, q, a2]
  · show _ = if up (qh P) x ph i = -1 then -15 else up (qh P) x ph i
    by_cases q : i = x
    · rw [q, up_s, if_neg (by omega)]; simp [q_st]
    · rw [up_n _ _ q]; simp [q_st, q, a3]
theorem s_Mo_placeOf {Λ : QLay} {m : Nat} {i x : Int} {S : QMem} {Q : Int → QMem → Prop} {t : TT} (hT : mT S m i t) (hw : wfT t) (hi : i = 0 ∨ i = 1) (x0 : 0 ≤ x) (x1 : x < tn t) (hq : Q (plT (tp t) x) S) : w_Mo_placeOf Λ m i x S Q := by
  have n0 := tn_rng hw
  have px := tp_rng hw x0 x1
  unfold w_Mo_placeOf
  by_cases qx : x = 0
  · refine ⟨1, ?_⟩
    rw [w_Mo_placeOf_5]
    refine ⟨by unfold inR; omega, by unfold inR; omega, fun _ => ?_, fun z => by omega⟩
    unfold plT at hq
    rw [if_pos (by have := px.2.2.2 qx; omega)] at hq
    exact hq
  · have px1 := px.2.2.1 (by omega)
    unfold plT at hq
    rw [if_neg (by omega)] at hq
    have key : ∀ (f : Nat) (k : Int), 1 ≤ k → k + f = x → w_Mo_placeOf_5 Λ Q (f + 1) m i x (cnt (tp t) (tp t x) k) k S := by
      intro f
      induction f with
      | zero =>
        intro k k1 hk
        rw [w_Mo_placeOf_5]
        refine ⟨by unfold inR; omega, by unfold inR; omega, fun _ => ?_, fun z => by omega⟩
        rw [show k = x by omega]
        exact hq
      | succ f ih =>
        intro k k1 hk
        rw [w_Mo_placeOf_5]
        have hs := ih (k + 1) (by omega) (by omega)
        rw [cnt_s _ _ (by omega : 0 ≤ k)] at hs
        have pk := tp_rng hw (k := k) (by omega) (by omega)
        refine ⟨by unfold inR; omega, by unfold inR; omega, fun z => by omega, fun _ => ?_⟩
        dsimp only [w_Mo_at]
        rw [(hT.1.2 k (by omega) (by omega)).2.2, (hT.1.2 x (by omega) (by omega)).2.2]
        refine ⟨by omega, by omega, by unfold inR; omega, by unfold inR; omega, fun z v hv => ?_, fun z v hv => ?_⟩
        · rw [if_neg z] at hs
          rw [hv]
          exact hs
        · rw [if_pos z] at hs
          rw [hv]
          exact hs
    have k1 := key (x - 1).toNat 1 (by omega) (by omega)
    have e : cnt (tp t) (tp t x) 1 = 0 := by
      have := cnt_s (tp t) (tp t x) (k := 0) (by omega)
      rw [cnt_0, if_neg (by have := hw.1.2.1; omega)] at this
      exact this
    rw [e] at k1
    exact ⟨_, k1⟩
theorem s_Mo_isBelow {Λ : QLay} {m : Nat} {i a x : Int} {S : QMem} {Q : Int → QMem → Prop} {t : TT} (hT : mT S m i t) (hw : wfT t) (hi : i = 0 ∨ i = 1) (x0 : 0 ≤ x) (x1 : x < tn t) (ha : inR a) (h1 : x < a ∧ a < te t x → Q 1 S) (h0 : ¬ (x < a ∧ a < te t x) → Q 0 S) : w_Mo_isBelow Λ m i a x S Q := by
  have n0 := tn_rng hw
  have ex := te_rng x1
  unfold w_Mo_isBelow
  refine ⟨ha, by unfold inR; omega, fun z => h0 (by omega), fun z => ?_⟩
  refine s_Mo_size hT hw hi x0 x1 ?_
  exact ⟨ha, by unfold inR; omega, fun w => h0 (by omega), fun w => h1 (by omega)⟩
theorem s_Mo_common {Λ : QLay} {m : Nat} {x y : Int} {S : QMem} {Q : Int → QMem → Prop} {t0 t1 : TT} {P : MM} (hW : WM m S t0 t1) (hC : MX S m P) (hP : MOK t0 t1 P) (x0 : 0 ≤ x) (x1 : x < tn t0) (y0 : 0 ≤ y) (y1 : y < tn t1) (hq : Q (cm t0 t1 P x y) S) : w_Mo_common Λ m x y S Q := by
  obtain ⟨c0, c1, w0, w1⟩ := hW
  have m0 := tn_rng w0
  have m1 := tn_rng w1
  have ex := te_rng x1
  have ey := te_rng y1
  unfold w_Mo_common
  intro i hi
  rw [hi]
  have key : ∀ (f k : Nat), (k : Int) + f = te t0 x - x - 1 → w_Mo_common_7 Λ Q (f + 1) m x y (cmF P x (te t1 y) y k) (x + 1 + (k : Int)) S := by
    intro f
    induction f with
    | zero =>
      intro k hk
      rw [w_Mo_common_7]
      refine s_Mo_size c0 w0 (Or.inl rfl) x0 x1 ?_
      refine ⟨by unfold inR; omega, by unfold inR; omega, fun _ => ?_, fun z => by omega⟩
      have e : cm t0 t1 P x y = cmF P x (te t1 y) y k := by unfold cm; rw [show (te t0 x - x - 1).toNat = k by omega]
      rw [← e]
      exact hq
    | succ f ih =>
      intro k hk
      rw [w_Mo_common_7]
      have hr := hP.1 (x + 1 + (k : Int)) (by omega) (by omega)
      have hs := ih (k + 1) (by omega)
      have e : cmF P x (te t1 y) y (k + 1) = cmF P x (te t1 y) y k + (if y < q0 P (x + 1 + (k : Int)) ∧ q0 P (x + 1 + (k : Int)) < te t1 y then 1 else 0) := rfl
      rw [e, show x + 1 + ((k + 1 : Nat) : Int) = x + 1 + (k : Int) + 1 by omega] at hs
      refine s_Mo_size c0 w0 (Or.inl rfl) x0 x1 ?_
      rw [(hC (x + 1 + (k : Int)) (by omega) (by omega)).1]
      refine ⟨by unfold inR; omega, by unfold inR; omega, fun z => by omega, fun _ => ⟨by omega, by unfold inR; omega, fun z v hv => ?_, fun z => ⟨by omega, ?_⟩⟩⟩
      · rw [if_neg (by omega)] at hs
        rw [hv]
        exact hs
      · refine s_Mo_isBelow c1 w1 (Or.inr rfl) y0 y1 (by unfold inR; omega) (fun w => ⟨by unfold inR; omega, fun z => by omega, fun _ v hv => ?_⟩) (fun w => ⟨by unfold inR; omega, fun _ v hv => ?_, fun z => absurd rfl z⟩)
        · rw [if_pos w] at hs
          rw [hv]
          exact hs
        · rw [if_neg w] at hs
          rw [hv]
          exact hs
  have := key (te t0 x - x - 1).toNat 0 (by omega)
  rw [show x + 1 + ((0 : Nat) : Int) = x + 1 by omega] at this
  exact ⟨_, this⟩
theorem s_Mo_both {Λ : QLay} {m : Nat} {x y : Int} {S : QMem} {Q : Int → QMem → Prop} {t0 t1 : TT} (hW : WM m S t0 t1) (x0 : 0 ≤ x) (x1 : x < tn t0) (y0 : 0 ≤ y) (y1 : y < tn t1) (hq : Q (sm t0 t1 x y) S) : w_Mo_both Λ m x y S Q := by
  obtain ⟨c0, c1, w0, w1⟩ := hW
  unfold w_Mo_both
  refine s_Mo_size c0 w0 (Or.inl rfl) x0 x1 ?_
  refine s_Mo_size c1 w1 (Or.inr rfl) y0 y1 ?_
  have e : te t0 x - x + (te t1 y - y) - 2 = sm t0 t1 x y := by unfold sm; omega
  rw [e]
  exact hq
theorem s_Mo_bestPair {Λ : QLay} {m : Nat} {h : Int} {S : QMem} {Q : Int → QMem → Prop} {t0 t1 : TT} {P : MM} (hW : WM m S t0 t1) (hh : 0 ≤ h ∧ h ≤ 24) (hC : MX S m P) (hP : MOK t0 t1 P)
    (hq0 : isB t0 t1 h P (tn t0) 0 (-1, -1) → Q (-1) S) (hq1 : ∀ x y, isB t0 t1 h P (tn t0) 0 (x, y) → el t0 t1 h P x y → Q (24 * x + y) S) : w_Mo_bestPair Λ m h S Q := by
  have hWW := hW
  obtain ⟨c0, c1, w0, w1⟩ := hW
  have m0 := tn_rng w0
  have m1 := tn_rng w1
  have rP0 : ∀ i, 0 ≤ i → i < 24 → S.1 m 21 i = q0 P i := fun i a b => (hC i a b).1
  have rP1 : ∀ i, 0 ≤ i → i < 24 → S.1 m 22 i = q1 P i := fun i a b => (hC i a b).2.1
  have r0 : ∀ i, 0 ≤ i → i < tn t0 → -1 ≤ q0 P i ∧ q0 P i ≤ 23 := fun i a b => by rcases hP.1 i a b with z | z <;> omega
  have r1 : ∀ i, 0 ≤ i → i < tn t1 → -1 ≤ q1 P i ∧ q1 P i ≤ 23 := fun i a b => by rcases hP.2 i a b with z | z <;> omega
  unfold w_Mo_bestPair
  refine ⟨(tn t0).toNat + 1, ?_⟩
  have key : ∀ (f : Nat) (x : Int) (b : Int × Int) (v2 v3 v4 : Int), 0 ≤ x → x ≤ tn t0 → tn t0 - x < f → isB t0 t1 h P x 0 b → (b.1 = -1 → v2 = -1) → (b.1 ≠ -1 → v2 = 24 * b.1 + b.2 ∧ v3 = kin t0 t1 b.1 b.2 ∧ v4 = far t0 t1 b.1 b.2) → w_Mo_bestPair_10 Λ Q f m h v2 v3 v4 x S := by
    intro f
    induction f with
    | zero => intro x b v2 v3 v4 a1 a2 a3; omega
    | succ f ih =>
      intro x b v2 v3 v4 a1 a2 a3 hb hb0 hb1
      rw [w_Mo_bestPair_10, c0.1.1]
      refine ⟨by unfold inR; omega, by unfold inR; omega, fun z => ?_, fun z => ⟨(tn t1).toNat + 1, ?_⟩⟩
      · have hxn : x = tn t0 := by omega
        rw [hxn] at hb
        rcases hb with w | w
        · rw [hb0 w.1]
          exact hq0 (Or.inl ⟨rfl, rfl, w.2.2⟩)
        · rw [(hb1 (by have := w.1.1; omega)).1]
          exact hq1 b.1 b.2 (Or.inr w) w.1
      · have inner : ∀ (g : Nat) (y : Int) (b : Int × Int) (v2 v3 v4 : Int), 0 ≤ y → y ≤ tn t1 → tn t1 - y < g → isB t0 t1 h P x y b → (b.1 = -1 → v2 = -1) → (b.1 ≠ -1 → v2 = 24 * b.1 + b.2 ∧ v3 = kin t0 t1 b.1 b.2 ∧ v4 = far t0 t1 b.1 b.2) → w_Mo_bestPair_24 Λ (fun v0' v1' v2' v3' v4' v5' S' => w_Mo_bestPair_10 Λ Q f v0' v1' v2' v3' v4' v5' S') Q g m h v2 v3 v4 x y S := by
          intro g
          induction g with
          | zero => intro y b v2 v3 v4 d1 d2 d3; omega
          | succ g ihg =>
            intro y b v2 v3 v4 d1 d2 d3 hb hb0 hb1
            rw [w_Mo_bestPair_24, c1.1.1]
            refine ⟨by unfold inR; omega, by unfold inR; omega, fun z => ?_, fun z => ⟨by omega, ?_⟩⟩
            · exact ih (x + 1) b v2 v3 v4 (by omega) (by omega) (by omega) (isB_row hb (fun y' hy' e => by have := e.2.1.2; omega)) hb0 hb1
            · have r0x := r0 x a1 (by omega)
              rw [rP0 x a1 (by omega)]
              refine ⟨by unfold inR; omega, fun q => ?_, fun q => ?_⟩
              · exact ih (x + 1) b v2 v3 v4 (by omega) (by omega) (by omega) (isB_row hb (fun y' _ e => by have := e.2.2.1; omega)) hb0 hb1
              · refine s_Mo_height c0 w0 (Or.inl rfl) a1 (by omega) ?_
                have thr := th_rng w0 x
                refine ⟨by unfold inR; omega, by unfold inR; omega, fun q2 => ?_, fun q2 => ⟨by omega, ?_⟩⟩
                · exact ih (x + 1) b v2 v3 v4 (by omega) (by omega) (by omega) (isB_row hb (fun y' _ e => q2 e.2.2.2.2.1)) hb0 hb1
                · have r1y := r1 y d1 (by omega)
                  rw [rP1 y d1 (by omega)]
                  refine ⟨by unfold inR; omega, fun q3 => ?_, fun q3 => ?_⟩
                  · exact ihg (y + 1) b v2 v3 v4 (by omega) (by omega) (by omega) (isB_skip hb (fun e => by have := e.2.2.2.1; omega)) hb0 hb1
                  · refine s_Mo_height c1 w1 (Or.inr rfl) d1 (by omega) ?_
                    have thr1 := th_rng w1 y
                    refine ⟨by unfold inR; omega, by unfold inR; omega, fun q4 => ?_, fun q4 => ?_⟩
                    · refine ihg (y + 1) b v2 v3 v4 (by omega) (by omega) (by omega) (isB_skip hb (fun e => q4 ?_)) hb0 hb1
                      have ex := te_rng e.1.2
                      have z2 := eq_ht w0 w1 e.1.1 e.1.2 e.2.1.1 e.2.1.2 e.2.2.2.2.2 (te t0 x - x + 1).toNat 0 (by omega) (by omega) (by omega)
                      rw [Int.add_zero, Int.add_zero] at z2
                      omega
                    · refine s_Mo_areEqual hWW a1 (by omega) d1 (by omega) (fun he => ?_) (fun he => ?_)
                      · have hel : el t0 t1 h P x y := ⟨⟨a1, by omega⟩, ⟨d1, by omega⟩, by omega, by omega, q2, he⟩
                        refine ⟨by unfold inR; omega, fun q5 => by omega, fun _ => ?_⟩
                        refine s_Mo_kinship hWW a1 (by omega) d1 (by omega) ?_
                        refine s_Mo_placeOf c0 w0 (Or.inl rfl) a1 (by omega) ?_
                        refine s_Mo_placeOf c1 w1 (Or.inr rfl) d1 (by omega) ?_
                        intro df hdf
                        have p0 := pl_rng w0 a1 (by omega : x < tn t0)
                        have p1 := pl_rng w1 d1 (by omega : y < tn t1)
                        have krr := kin_rng (t1 := t1) (y := y) w0 a1 (by omega : x < tn t0)
                        have frr := far_rng w0 w1 a1 (by omega : x < tn t0) d1 (by omega : y < tn t1)
                        have fin : w_Mo_bestPair_128 Λ (fun v0' v1' v2' v3' v4' v5' S' => w_Mo_bestPair_10 Λ Q f v0' v1' v2' v3' v4' v5' S') (fun v0' v1' v2' v3' v4' v5' v6' S' => w_Mo_bestPair_24 Λ (fun v0' v1' v2' v3' v4' v5' S' => w_Mo_bestPair_10 Λ Q f v0' v1' v2' v3' v4' v5' S') Q g v0' v1' v2' v3' v4' v5' v6' S') Q m h v2 v3 v4 x y (kin t0 t1 x y) (far t0 t1 x y) S := by
                          have tk : (b.1 = -1 ∨ nr t0 t1 b.1 b.2 < nr t0 t1 x y) → ∀ (K10 : Nat → Int → Int → Int → Int → Int → QMem → Prop) , w_Mo_bestPair_153 Λ K10 (fun v0' v1' v2' v3' v4' v5' v6' S' => w_Mo_bestPair_24 Λ (fun v0' v1' v2' v3' v4' v5' S' => w_Mo_bestPair_10 Λ Q f v0' v1' v2' v3' v4' v5' S') Q g v0' v1' v2' v3' v4' v5' v6' S') Q m h x y (kin t0 t1 x y) (far t0 t1 x y) S := fun hn K10 => by
                            unfold w_Mo_bestPair_153
                            intro v hv
                            exact ihg (y + 1) (x, y) v _ _ (by omega) (by omega) (by omega) (isB_take hb hel hn) (fun z => by have z : x = -1 := z; omega) (fun _ => ⟨hv, rfl, rfl⟩)
                          have tn' : b.1 ≠ -1 → nr t0 t1 x y ≤ nr t0 t1 b.1 b.2 → w_Mo_bestPair_24 Λ (fun v0' v1' v2' v3' v4' v5' S' => w_Mo_bestPair_10 Λ Q f v0' v1' v2' v3' v4' v5' S') Q g m h v2 v3 v4 x (y + 1) S := fun hb1n hn =>
                            ihg (y + 1) b v2 v3 v4 (by omega) (by omega) (by omega) (isB_keep hb hel hb1n hn) hb0 hb1
                          unfold w_Mo_bestPair_128
                          by_cases q5 : b.1 = -1
                          · have e2 := hb0 q5
                            exact ⟨by unfold inR; omega, fun _ => tk (Or.inl q5) _, fun z => by omega⟩
                          · obtain ⟨e2, e3, e4⟩ := hb1 q5
                            have hbb : (0 ≤ b.1 ∧ b.1 < tn t0) ∧ (0 ≤ b.2 ∧ b.2 < tn t1) := by
                              rcases hb with w | w
                              · exact absurd w.1 q5
                              · exact ⟨w.1.1, w.1.2.1⟩
                            have kb := kin_rng (t1 := t1) (y := b.2) w0 hbb.1.1 hbb.1.2
                            have fb := far_rng w0 w1 hbb.1.1 hbb.1.2 hbb.2.1 hbb.2.2
                            have nb : nr t0 t1 b.1 b.2 = 24 * v3 + 24 - 1 - v4 := by rw [e3, e4]; rfl
                            have nx : nr t0 t1 x y = 24 * kin t0 t1 x y + 24 - 1 - far t0 t1 x y := rfl
                            refine ⟨by unfold inR; omega, fun z => by omega, fun _ => ⟨by unfold inR; omega, by unfold inR; omega, fun z => tk (Or.inr (by omega)) _, fun z => ⟨by unfold inR; omega, by unfold inR; omega, fun z2 => tn' q5 (by omega), fun z2 => ⟨by unfold inR; omega, by unfold inR; omega, fun z3 => tn' q5 (by omega), fun z3 => tk (Or.inr (by omega)) _⟩⟩⟩⟩
                        refine ⟨by unfold inR; omega, fun z => ?_, fun z => ?_⟩
                        · have e : df = far t0 t1 x y := by unfold far; rw [if_pos (by omega)]; exact hdf
                          rw [e]; exact fin
                        · have e : -df = far t0 t1 x y := by unfold far; rw [if_neg (by omega)]; omega
                          rw [e]; exact fin
                      · exact ⟨by unfold inR; omega, fun _ => ihg (y + 1) b v2 v3 v4 (by omega) (by omega) (by omega) (isB_skip hb (fun e => he e.2.2.2.2.2)) hb0 hb1, fun q5 => absurd rfl q5⟩
        exact inner _ 0 b v2 v3 v4 (by omega) (by omega) (by omega) hb hb0 hb1
  exact key _ 0 (-1, -1) (-1) 0 0 (by omega) (by omega) (by omega) isB_0 (fun _ => rfl) (fun z => absurd rfl z)
theorem dnF_fuel {t0 t1 : TT} (h0 : wfT t0) {h : Int} : ∀ (f g : Nat) (P : MM), cU (q0 P) (tn t0).toNat ≤ f → cU (q0 P) (tn t0).toNat ≤ g → dnF t0 t1 h f P = dnF t0 t1 h g P
  | f, g, P, hf, hg => by
    rcases isB_split t0 t1 h P with z | ⟨x, y, z, e⟩
    · rw [dnF_0 _ z, dnF_0 _ z]
    · have hc := jT_cU h0 e
      cases f with
      | zero => omega
      | succ f =>
        cases g with
        | zero => omega
        | succ g =>
          rw [dnF_s f z e, dnF_s g z e]
          exact dnF_fuel h0 f g _ (by omega) (by omega)
theorem s_Mo_down17 {Λ : QLay} {m : Nat} {h : Int} {S : QMem} {Q : QMem → Prop} {K : Nat → Int → QMem → Prop} {t0 t1 : TT} (hW : WM m S t0 t1) (hh : 0 ≤ h ∧ h ≤ 24) :
    ∀ (c n : Nat) (P : MM) (v : Int) (S1 : QMem), cU (q0 P) (tn t0).toNat ≤ c → c < n → GM t0 t1 h P → MX S1 m P → Kp (Pmm m) S S1 → (v = -1 ∧ isB t0 t1 h P (tn t0) 0 (-1, -1) ∨ ∃ x y, v = 24 * x + y ∧ isB t0 t1 h P (tn t0) 0 (x, y) ∧ el t0 t1 h P x y) → (∀ S2, Kp (Pmm m) S S2 → MX S2 m (dnF t0 t1 h c P) → K m (h + (-1)) S2) → w_Mo_matchesDown_17 Λ K Q n m h v S1
  | c, 0, P, v, S1, a1, a2, _, _, _, _, _ => by omega
  | c, n + 1, P, v, S1, a1, a2, hG, hC, hk, hv, hq => by
    have w0 := hW.2.2.1
    have w1 := hW.2.2.2
    have m0 := tn_rng w0
    have m1 := tn_rng w1
    rw [w_Mo_matchesDown_17]
    rcases hv with ⟨e, hb⟩ | ⟨x, y, e, hb, he⟩
    · rw [e]
      exact ⟨by unfold inR; omega, fun _ => hq S1 hk (by rw [dnF_0 _ hb]; exact hC), fun z => by omega⟩
    · have hx := he.1
      have hy := he.2.1
      have hc := jT_cU w0 he
      have ex := te_rng hx.2
      have ey := te_rng hy.2
      have hs := he.2.2.2.2.2.1
      have d1 : v / 24 = x := by omega
      have d2 : v % 24 = y := by omega
      have hW1 : WM m S1 t0 t1 := WM_kp hk Pmm_n hW
      refine ⟨by unfold inR; omega, fun z => by omega, fun _ => ⟨⟨by omega, by unfold inR; omega⟩, ?_⟩⟩
      rw [d1]
      refine s_Mo_size hW1.1 w0 (Or.inl rfl) hx.1 hx.2 ⟨(te t0 x - x).toNat + 1, ?_⟩
      cases c with
      | zero => omega
      | succ c =>
        have fin : ∀ (f : Nat) (i : Int) (S2 : QMem), 0 ≤ i → i + f = te t0 x - x → Kp (Pmm m) S S2 → MX S2 m (jTn P x y i) → w_Mo_matchesDown_34 Λ K (fun v0' v1' v2' S' => w_Mo_matchesDown_17 Λ K Q n v0' v1' v2' S') Q (f + 1) m h v (te t0 x - x) i S2 := by
          intro f
          induction f with
          | zero =>
            intro i S2 i0 hi hk2 hC2
            rw [w_Mo_matchesDown_34]
            refine ⟨by unfold inR; omega, by unfold inR; omega, fun _ => ?_, fun z => by omega⟩
            rw [show i = te t0 x - x by omega, jTn_e P hs] at hC2
            have hG2 := jT_ok w0 w1 hG.1 hG.2.1 hG.2.2 he
            have go : ∀ v', (v' = -1 ∧ isB t0 t1 h (jT t0 t1 P x y) (tn t0) 0 (-1, -1) ∨ ∃ x' y', v' = 24 * x' + y' ∧ isB t0 t1 h (jT t0 t1 P x y) (tn t0) 0 (x', y') ∧ el t0 t1 h (jT t0 t1 P x y) x' y') → w_Mo_matchesDown_17 Λ K Q n m h v' S2 := fun v' hv' =>
              s_Mo_down17 hW hh c n (jT t0 t1 P x y) v' S2 (by omega) (by omega) hG2 hC2 hk2 hv' (fun S3 hk3 hC3 => hq S3 hk3 (by rw [dnF_s c hb he]; exact hC3))
            exact s_Mo_bestPair (WM_kp hk2 Pmm_n hW) hh hC2 hG2.1 (fun hb2 => go _ (Or.inl ⟨rfl, hb2⟩)) (fun x' y' hb2 he2 => go _ (Or.inr ⟨x', y', rfl, hb2, he2⟩))
          | succ f ih =>
            intro i S2 i0 hi hk2 hC2
            rw [w_Mo_matchesDown_34]
            refine ⟨by unfold inR; omega, by unfold inR; omega, fun z => by omega, fun _ => ⟨⟨by omega, by unfold inR; omega⟩, ⟨by omega, by unfold inR; omega⟩, ?_⟩⟩
            rw [d1, d2]
            refine s_Mo_joins hC2 (by omega) (by omega) (by omega) (fun S3 hk3 hC3 => ?_)
            rw [jTn_s P x y i0] at hC3
            exact ih (i + 1) S3 (by omega) (by omega) (hk2.tr hk3) hC3
        exact fin (te t0 x - x).toNat 0 S1 (by omega) (by omega) hk (by rw [jTn_0]; exact hC)
theorem s_Mo_matchesDown {Λ : QLay} {m : Nat} {least : Int} {S : QMem} {Q : QMem → Prop} {t0 t1 : TT} {P : MM} (hW : WM m S t0 t1) (hl : S.1 m 4 0 = least) (hl2 : 1 ≤ least ∧ least ≤ 9) (hC : MX S m P) (hG : GM t0 t1 24 P)
    (hq : ∀ S', Kp (Pmm m) S S' → MX S' m (hsF t0 t1 (25 - least).toNat 24 P) → Q S') : w_Mo_matchesDown Λ m S Q := by
  have w0 := hW.2.2.1
  have w1 := hW.2.2.2
  have m0 := tn_rng w0
  have n4 : ¬ Pmm m m 4 := fun z => by have := z.2; omega
  unfold w_Mo_matchesDown
  have loop : ∀ (k : Nat) (h : Int) (P : MM) (S1 : QMem), h - least + 1 = k → h ≤ 24 → GM t0 t1 h P → MX S1 m P → Kp (Pmm m) S S1 → (∀ S2, Kp (Pmm m) S S2 → MX S2 m (hsF t0 t1 k h P) → Q S2) → w_Mo_matchesDown_3 Λ Q (k + 1) m h S1 := by
    intro k
    induction k with
    | zero =>
      intro h P S1 a1 a2 hG hC hk hq
      rw [w_Mo_matchesDown_3, hk.at n4, hl]
      exact ⟨by unfold inR; omega, by unfold inR; omega, fun _ => hq S1 hk hC, fun z => by omega⟩
    | succ k ih =>
      intro h P S1 a1 a2 hG hC hk hq
      rw [w_Mo_matchesDown_3, hk.at n4, hl]
      refine ⟨by unfold inR; omega, by unfold inR; omega, fun z => by omega, fun _ => ?_⟩
      have go : ∀ v, (v = -1 ∧ isB t0 t1 h P (tn t0) 0 (-1, -1) ∨ ∃ x y, v = 24 * x + y ∧ isB t0 t1 h P (tn t0) 0 (x, y) ∧ el t0 t1 h P x y) → ∃ n, w_Mo_matchesDown_17 Λ (fun v0' v1' S' => w_Mo_matchesDown_3 Λ Q (k + 1) v0' v1' S') Q n m h v S1 := fun v hv => by
        refine ⟨25, s_Mo_down17 hW ⟨by omega, a2⟩ 24 25 P v S1 (by have := cU_le (q0 P) (tn t0).toNat; omega) (by omega) hG hC hk hv (fun S2 hk2 hC2 => ?_)⟩
        exact ih (h + (-1)) _ S2 (by omega) (by omega) (GM_le (dnF_ok w0 w1 24 P hG) (by omega)) hC2 hk2 (fun S3 hk3 hC3 => hq S3 hk3 hC3)
      exact s_Mo_bestPair (WM_kp hk Pmm_n hW) ⟨by omega, a2⟩ hC hG.1 (fun hb2 => go _ (Or.inl ⟨rfl, hb2⟩)) (fun x' y' hb2 he2 => go _ (Or.inr ⟨x', y', rfl, hb2, he2⟩))
  exact ⟨_, loop (25 - least).toNat 24 P S (by omega) (by omega) hG hC Kp.rf hq⟩
theorem s_Mo_matchesUp {Λ : QLay} {m : Nat} {x per : Int} {S : QMem} {Q : QMem → Prop} {t0 t1 : TT} {P : MM} (hW : WM m S t0 t1) (hp : S.1 m 5 0 = per) (hp2 : 0 ≤ per ∧ per ≤ 100) (hC : MX S m P) (hP : MOK t0 t1 P) (x0 : 0 ≤ x) (x1 : x < tn t0) (hx : q0 P x = -1) (hs : te t0 x - x - 1 ≠ 0)
    (hq : ∀ S', Kp (Pmm m) S S' → MX S' m (upS t0 t1 per P x) → Q S') : w_Mo_matchesUp Λ m x S Q := by
  have hWW := hW
  obtain ⟨c0, c1, w0, w1⟩ := hW
  have m0 := tn_rng w0
  have m1 := tn_rng w1
  have f1 : ¬ (¬ q0 P x = -1 ∨ te t0 x - x - 1 = 0) := by omega
  unfold w_Mo_matchesUp
  have key : ∀ (f k : Nat), (k : Int) + f = tn t1 → w_Mo_matchesUp_4 Λ Q (f + 1) m x (buF t0 t1 P x k) (k : Int) S := by
    intro f
    induction f with
    | zero =>
      intro k hk
      have e : bu t0 t1 P x = buF t0 t1 P x k := by unfold bu; rw [show (tn t1).toNat = k by omega]
      rw [w_Mo_matchesUp_4, c1.1.1, ← e]
      refine ⟨by unfold inR; omega, by unfold inR; omega, fun _ => ?_, fun z => by omega⟩
      have rb : -1 ≤ bu t0 t1 P x ∧ bu t0 t1 P x ≤ 24 := by
        rcases buF_ok (t0 := t0) (t1 := t1) (P := P) (x := x) k with w | w <;> omega
      refine ⟨by unfold inR; omega, fun z => ?_, fun z => ?_⟩
      · refine hq S Kp.rf ?_
        unfold upS
        rw [if_neg f1, if_pos z]
        exact hC
      · have hb := bu_ok w1 z
        have rs := sm_rng (x := x) (y := bu t0 t1 P x) w0 w1 x0 x1 hb.1 hb.2.1
        have rc := cm_rng (t1 := t1) (P := P) (y := bu t0 t1 P x) w0 x0 x1
        refine s_Mo_common hWW hC hP x0 x1 hb.1 hb.2.1 ?_
        refine s_Mo_both hWW x0 x1 hb.1 hb.2.1 ?_
        rw [hp]
        have g1 := mul_rng (a := per) (b := sm t0 t1 x (bu t0 t1 P x)) (by omega) (by omega) (by omega) (by omega)
        refine ⟨by unfold inR; omega, by unfold inR; omega, fun w2 => ?_, fun w2 => ?_⟩
        · refine hq S Kp.rf ?_
          unfold upS
          rw [if_neg f1, if_neg z, if_pos w2]
          exact hC
        · refine s_Mo_joins hC (by omega) (by omega) (by omega) (fun S2 hk2 hC2 => hq S2 hk2 ?_)
          unfold upS
          rw [if_neg f1, if_neg z, if_neg w2]
          exact hC2
    | succ f ih =>
      intro k hk
      have ihk := ih (k + 1)
      rw [show ((k + 1 : Nat) : Int) = (k : Int) + 1 by omega] at ihk
      have hr := hP.2 (k : Int) (by omega) (by omega)
      have hno : ∀ K, ¬ (elU t0 t1 P x (k : Int)) → (K m x (buF t0 t1 P x k) ((k : Int) + 1) S) → w_Mo_matchesUp_69 Λ K Q m x (buF t0 t1 P x k) (k : Int) S := fun K hn hK => by
        unfold w_Mo_matchesUp_69 w_Mo_matchesUp_70
        exact ⟨by unfold inR; omega, fun _ => hK, fun z => absurd rfl z⟩
      have hK : ¬ (elU t0 t1 P x (k : Int)) → w_Mo_matchesUp_4 Λ Q (f + 1) m x (buF t0 t1 P x k) ((k : Int) + 1) S := fun hn => by
        have e := buF_n (t0 := t0) (t1 := t1) (P := P) (x := x) (k := k) (fun w => hn w.1)
        rw [e] at ihk
        exact ihk (by omega)
      rw [w_Mo_matchesUp_4, c1.1.1]
      refine ⟨by unfold inR; omega, by unfold inR; omega, fun z => by omega, fun _ => ⟨by omega, ?_⟩⟩
      rw [(hC (k : Int) (by omega) (by omega)).2.1]
      refine ⟨by unfold inR; omega, fun z => ?_, fun z => ?_⟩
      · have hn : ¬ elU t0 t1 P x (k : Int) := fun w => by have := w.1; omega
        exact hno _ hn (hK hn)
      · have ey := te_rng (t := t1) (k := (k : Int)) (by omega)
        refine s_Mo_size c1 w1 (Or.inr rfl) (by omega) (by omega) ?_
        refine ⟨by unfold inR; omega, fun z2 => ?_, fun z2 => ?_⟩
        · have hn : ¬ elU t0 t1 P x (k : Int) := fun w => by
            have h1 := cmF_pos P x (te t1 (k : Int)) (k : Int) (te t0 x - x - 1).toNat w.2.2
            omega
          exact hno _ hn (hK hn)
        · dsimp only [w_Mo_at]
          rw [(c1.1.2 (k : Int) (by omega) (by omega)).1, show (24 : Int) * 0 + x = 24 * 0 + x from rfl, (c0.1.2 x x0 x1).1]
          have l0 := (w0.2 x x0 x1).1
          have l1 := (w1.2 (k : Int) (by omega) (by omega)).1
          refine ⟨by omega, by omega, by unfold inR; omega, by unfold inR; omega, fun z3 => ?_, fun z3 => ?_⟩
          · have hn : ¬ elU t0 t1 P x (k : Int) := fun w => z3 w.2.1.symm
            exact hno _ hn (hK hn)
          · refine s_Mo_common hWW hC hP x0 x1 (by omega) (by omega) ?_
            have rs := sm_rng (x := x) (y := (k : Int)) w0 w1 x0 x1 (by omega) (by omega)
            have rc := cm_rng (t1 := t1) (P := P) (y := (k : Int)) w0 x0 x1
            refine ⟨by unfold inR; omega, fun z4 => ?_, fun z4 => ?_⟩
            · have hn : ¬ elU t0 t1 P x (k : Int) := fun w => by have := w.2.2; omega
              exact hno _ hn (hK hn)
            · have hel : elU t0 t1 P x (k : Int) := ⟨by omega, z3.symm, by omega⟩
              unfold w_Mo_matchesUp_70
              have rb : -1 ≤ buF t0 t1 P x k ∧ buF t0 t1 P x k < k := by
                rcases buF_ok (t0 := t0) (t1 := t1) (P := P) (x := x) k with w | w <;> omega
              refine ⟨by unfold inR; omega, fun y => by omega, fun _ => ⟨by unfold inR; omega, fun qb => ?_, fun qb => ?_⟩⟩
              · have e := buF_y (t0 := t0) (t1 := t1) (P := P) (x := x) (k := k) ⟨hel, Or.inl qb⟩
                rw [e] at ihk
                exact ihk (by omega)
              · have rs2 := sm_rng (x := x) (y := buF t0 t1 P x k) w0 w1 x0 x1 (by omega) (by omega)
                have rc2 := cm_rng (t1 := t1) (P := P) (y := buF t0 t1 P x k) w0 x0 x1
                have g1 := mul_rng (a := cm t0 t1 P x (k : Int)) (b := sm t0 t1 x (buF t0 t1 P x k)) (by omega) (by omega) (by omega) (by omega)
                have g2 := mul_rng (a := cm t0 t1 P x (buF t0 t1 P x k)) (b := sm t0 t1 x (k : Int)) (by omega) (by omega) (by omega) (by omega)
                refine s_Mo_common hWW hC hP x0 x1 (by omega) (by omega) ?_
                refine s_Mo_both hWW x0 x1 (by omega) (by omega) ?_
                refine s_Mo_common hWW hC hP x0 x1 (by omega) (by omega) ?_
                refine s_Mo_both hWW x0 x1 (by omega) (by omega) ?_
                refine ⟨by unfold inR; omega, by unfold inR; omega, fun w => ?_, fun w => ?_⟩
                · have e := buF_n (t0 := t0) (t1 := t1) (P := P) (x := x) (k := k) (fun w2 => by rcases w2.2 with w3 | w3 <;> omega)
                  rw [e] at ihk
                  exact ihk (by omega)
                · have e := buF_y (t0 := t0) (t1 := t1) (P := P) (x := x) (k := k) ⟨hel, Or.inr (by omega)⟩
                  rw [e] at ihk
                  exact ihk (by omega)
  exact ⟨_, key (tn t1).toNat 0 (by omega)⟩
abbrev Pmt (m : Nat) : Nat → Nat → Prop := fun o f => o = m ∧ (f = 14 ∨ f = 15 ∨ f = 21 ∨ f = 22 ∨ f = 23 ∨ f = 24)
theorem Pmt_n {m : Nat} : ∀ f, f < 4 ∨ f = 18 ∨ f = 19 → ¬ Pmt m m f := fun f h z => by have := z.2; omega
theorem s_Mo_matches {Λ : QLay} {m : Nat} {least per : Int} {S : QMem} {Q : QMem → Prop} {t0 t1 : TT} (hW : WM m S t0 t1) (hl : S.1 m 4 0 = least) (hl2 : 1 ≤ least ∧ least ≤ 9) (hp : S.1 m 5 0 = per) (hp2 : 0 ≤ per ∧ per ≤ 100)
    (hq : ∀ S', Kp (Pmt m) S S' → MX S' m (matF t0 t1 least per) → (∀ k, 0 ≤ k → k < tn t0 → S'.1 m 24 (pix (tn t0) (tp t0) k) = k) → Q S') : w_Mo_matches Λ m S Q := by
  have w0 := hW.2.2.1
  have w1 := hW.2.2.2
  have m0 := tn_rng w0
  have m1 := tn_rng w1
  have up1 : ∀ {S1 S2 : QMem}, Kp (Pmm m) S1 S2 → Kp (Pmt m) S1 S2 := fun h => h.mono (fun o f z => ⟨z.1, by have := z.2; omega⟩)
  have up2 : ∀ {S1 S2 : QMem}, Kp (PP m) S1 S2 → Kp (Pmt m) S1 S2 := fun h => h.mono (fun o f z => ⟨z.1, by have := z.2; omega⟩)
  have n4 : ¬ Pmt m m 4 := fun z => by have := z.2; omega
  have n5 : ¬ Pmt m m 5 := fun z => by have := z.2; omega
  unfold w_Mo_matches
  refine ⟨25, ?_⟩
  have main : ∀ (k : Nat) (i : Int) (S1 : QMem), 0 ≤ i → i + k = 24 → Kp (Pmt m) S S1 → (∀ j, 0 ≤ j → j < i → S1.1 m 21 j = -1 ∧ S1.1 m 22 j = -1 ∧ S1.1 m 23 j = -15) → w_Mo_matches_2 Λ Q (k + 1) m i S1 := by
    intro k
    induction k with
    | zero =>
      intro i S1 i0 hi hk hj
      rw [w_Mo_matches_2]
      refine ⟨by unfold inR; omega, fun _ => ?_, fun z => by omega⟩
      have hC : MX S1 m M0 := fun j j0 j1 => ⟨(hj j j0 (by omega)).1, (hj j j0 (by omega)).2.1, (hj j j0 (by omega)).2.2⟩
      refine s_Mo_matchesDown (WM_kp hk Pmt_n hW) (by rw [hk.at n4]; exact hl) hl2 hC GM_0 (fun S3 hk3 hC3 => ?_)
      have k3 := hk.tr (up1 hk3)
      have hW3 := WM_kp k3 Pmt_n hW
      refine s_Mo_findPost (Or.inl rfl) w0.1 hW3.1.1.1 (fun k k0 k1 => (hW3.1.1.2 k k0 k1).2.2) (fun S4 hk4 hpo => ⟨(tn t0).toNat + 1, ?_⟩)
      have k4 := k3.tr (up2 hk4)
      have hC4 : MX S4 m (hsF t0 t1 (25 - least).toNat 24 M0) := fun i i0 i1 => by
        rw [hk4.at (fun z => by have := z.2; omega), hk4.at (fun z => by have := z.2; omega), hk4.at (fun z => by have := z.2; omega)]
        exact hC3 i i0 i1
      have ok3 := hsF_ok w0 w1 (25 - least).toNat 24 M0 GM_0
      have loop : ∀ (k : Nat) (i : Int) (P : MM) (S5 : QMem), 0 ≤ i → i + k = tn t0 → MOK t0 t1 P → MX S5 m P → Kp (Pmm m) S4 S5 → rtS t0 t1 (upR t0 t1 per k i P) = matF t0 t1 least per → w_Mo_matches_47 Λ Q (k + 1) m i S5 := by
        intro k
        induction k with
        | zero =>
          intro i P S5 i0 hi hP hC hk5 heq
          have k5 := k4.tr (up1 hk5)
          have hW5 := WM_kp k5 Pmt_n hW
          have hpo5 : ∀ k, 0 ≤ k → k < tn t0 → S5.1 m 24 (pix (tn t0) (tp t0) k) = k := fun k k0 k1 => by rw [hk5.at (fun z => by have := z.2; omega)]; exact hpo k k0 k1
          have heq' : rtS t0 t1 P = matF t0 t1 least per := heq
          rw [w_Mo_matches_47, hW5.1.1.1]
          obtain ⟨y1, y2, y3⟩ := hC 0 (by omega) (by omega)
          rw [y1, y2]
          have r0 := hP.1 0 (by omega) (by omega)
          have r1 := hP.2 0 (by omega) (by omega)
          have fin : ¬ (q0 P 0 = -1 ∧ q1 P 0 = -1 ∧ tl t0 0 = tl t1 0) → Q S5 := fun hn => by
            refine hq S5 k5 ?_ hpo5
            rw [← heq']
            unfold rtS
            rw [if_neg hn]
            exact hC
          refine ⟨by unfold inR; omega, by unfold inR; omega, fun _ => ⟨by unfold inR; omega, fun z => fin (by omega), fun z => ⟨by unfold inR; omega, fun z2 => fin (by omega), fun z2 => ?_⟩⟩, fun z => by omega⟩
          dsimp only [w_Mo_at]
          have a0 := (hW5.1.1.2 0 (by omega) (by omega)).1
          have a1 := (hW5.2.1.1.2 0 (by omega) (by omega)).1
          have l0 := (w0.2 0 (by omega) (by omega)).1
          have l1 := (w1.2 0 (by omega) (by omega)).1
          rw [a0, a1]
          refine ⟨by omega, by omega, by unfold inR; omega, by unfold inR; omega, fun z3 => fin (fun y => z3 y.2.2), fun z3 => ?_⟩
          refine s_Mo_joins hC (by omega) (by omega) (by omega) (fun S6 hk6 hC6 => hq S6 (k5.tr (up1 hk6)) ?_ (fun k k0 k1 => by rw [hk6.at (fun z => by have := z.2; omega)]; exact hpo5 k k0 k1))
          rw [← heq']
          unfold rtS
          rw [if_pos ⟨by omega, by omega, z3⟩]
          exact hC6
        | succ k ih =>
          intro i P S5 i0 hi hP hC hk5 heq
          have k5 := k4.tr (up1 hk5)
          have hW5 := WM_kp k5 Pmt_n hW
          have hpo5 : ∀ k, 0 ≤ k → k < tn t0 → S5.1 m 24 (pix (tn t0) (tp t0) k) = k := fun k k0 k1 => by rw [hk5.at (fun z => by have := z.2; omega)]; exact hpo k k0 k1
          have hn := nAt_ok w0 (i := i) i0 (by omega)
          have exx : S5.1 m 24 i = nAt t0 i := nAt_eq w0 i0 (by omega) hpo5
          have step : ∀ S6, Kp (Pmm m) S5 S6 → MX S6 m (upS t0 t1 per P (nAt t0 i)) → w_Mo_matches_47 Λ Q (k + 1) m (i + 1) S6 := fun S6 hk6 hC6 =>
            ih (i + 1) _ S6 (by omega) (by omega) (upS_ok w1 hP hn.1 hn.2.1) hC6 (hk5.tr hk6) heq
          rw [w_Mo_matches_47, hW5.1.1.1, exx, (hC (nAt t0 i) hn.1 (by omega)).1]
          have hr := hP.1 (nAt t0 i) hn.1 hn.2.1
          have rx := te_rng hn.2.1
          refine ⟨by unfold inR; omega, by unfold inR; omega, fun z => by omega, fun _ => ⟨by omega, by omega, by unfold inR; omega, fun z => ?_, fun z => ⟨by omega, ?_⟩⟩⟩
          · refine step S5 Kp.rf ?_
            unfold upS
            rw [if_pos (Or.inl (by omega))]
            exact hC
          · refine s_Mo_size hW5.1 w0 (Or.inl rfl) hn.1 hn.2.1 ?_
            refine ⟨by unfold inR; omega, fun z2 => ?_, fun z2 => ⟨by omega, ?_⟩⟩
            · refine step S5 Kp.rf ?_
              unfold upS
              rw [if_pos (Or.inr (by omega))]
              exact hC
            · rw [exx]
              exact s_Mo_matchesUp hW5 (by rw [k5.at n5]; exact hp) hp2 hC hP hn.1 hn.2.1 (by omega) (by omega) (fun S6 hk6 hC6 => step S6 hk6 hC6)
      exact loop (tn t0).toNat 0 _ S4 (by omega) (by omega) ok3 hC4 Kp.rf rfl
    | succ k ih =>
      intro i S1 i0 hi hk hj
      rw [w_Mo_matches_2]
      refine ⟨by unfold inR; omega, fun z => by omega, fun _ => ⟨by omega, ?_⟩⟩
      intro A eA
      refine ⟨by omega, ?_⟩
      intro B eB
      refine ⟨by omega, ?_⟩
      intro C eC
      refine ih (i + 1) C (by omega) (by omega) (by rw [eC, eB, eA]; exact ((hk.st ⟨rfl, by simp⟩).st ⟨rfl, by simp⟩).st ⟨rfl, by simp⟩) (fun j j0 j1 => ?_)
      by_cases q : j = i
      · rw [eC, eB, eA, q]; simp [q_st]
      · have := hj j j0 (by omega)
        rw [eC, eB, eA]; simp [q_st, q, this.1, this.2.1, this.2.2]
  exact main 24 0 S (by omega) (by omega) Kp.rf (fun j a b => by omega)
