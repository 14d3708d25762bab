/-! the class's matching -/
theorem cT_kp {P : Nat → Nat → Prop} {S S' : QMem} {a : Nat} {t : TT} (hk : Kp P S S') (hn : ∀ f, ¬ P a f) (h : cT S a t) : cT S' a t := by
  obtain ⟨h1, h2, h3⟩ := h
  refine ⟨by rw [hk.at (hn 0)]; exact h1, fun k k0 k1 => ?_, fun k k0 k1 => by rw [hk.at (hn 9)]; exact h3 k k0 k1⟩
  rw [hk.at (hn 1), hk.at (hn 2), hk.at (hn 3), hk.at (hn 4), hk.at (hn 5), hk.at (hn 6), hk.at (hn 7), hk.at (hn 8)]
  exact h2 k k0 k1
theorem WC_kp {P : Nat → Nat → Prop} {S S' : QMem} {se : Nat} {t0 t1 : TT} (hk : Kp P S S') (h0 : ∀ f, ¬ P (S.2 se 0) f) (h1 : ∀ f, ¬ P (S.2 se 1) f) (h : WC se S t0 t1) : WC se S' t0 t1 := by
  unfold WC
  rw [hk.1]
  exact ⟨cT_kp hk h0 h.1, cT_kp hk h1 h.2.1, h.2.2⟩
/-- the class's arrays hold the matching P -/
def CM (S : QMem) (ma : Nat) (t0 : TT) (P : MM) : Prop := (∀ i, 0 ≤ i → i < 24 → S.1 ma 1 i = q0 P i ∧ S.1 ma 2 i = q1 P i ∧ S.1 ma 3 i = qh P i) ∧ S.1 ma 0 0 = tn t0 - (cU (q0 P) (tn t0).toNat : Int)
theorem cU_up {p : Int → Int} {x y : Int} (x0 : 0 ≤ x) (hx : p x = -1) (hy : y ≠ -1) : ∀ k : Nat, (cU (up p x y) k : Int) = (cU p k : Int) - (if x < k then 1 else 0)
  | 0 => by
    show (0 : Int) = 0 - (if x < 0 then 1 else 0)
    rw [if_neg (by omega)]; rfl
  | k + 1 => by
    have ih := cU_up x0 hx hy k
    unfold cU
    by_cases q : (k : Int) = x
    · rw [q, up_s, if_neg hy, if_pos hx, if_pos (show x < ((k + 1 : Nat) : Int) by omega)]
      rw [if_neg (by omega)] at ih
      push_cast
      omega
    · rw [up_n _ _ q]
      by_cases q2 : x < (k : Int)
      · rw [if_pos q2] at ih
        rw [if_pos (show x < ((k + 1 : Nat) : Int) by omega)]
        push_cast
        omega
      · rw [if_neg q2] at ih
        rw [if_neg (show ¬ x < ((k + 1 : Nat) : Int) by omega)]
        push_cast
        omega
abbrev Pma (ma : Nat) : Nat → Nat → Prop := fun o _ => o = ma
theorem s_Ma_pair {Λ : QLay} {ma : Nat} {x y ph : Int} {S : QMem} {Q : QMem → Prop} {t0 t1 : TT} {P : MM} (w0 : wfT t0) (w1 : wfT t1) (hC : CM S ma t0 P) (x0 : 0 ≤ x) (x1 : x < tn t0) (y0 : 0 ≤ y) (y1 : y < tn t1) (hx : q0 P x = -1) (hq : ∀ S', Kp (Pma ma) S S' → CM S' ma t0 (j1 P x y ph) → Q S') : w_Ma_pair Λ ma x y ph S Q := by
  have n0 := tn_rng w0
  have n1 := tn_rng w1
  unfold w_Ma_pair
  refine ⟨by omega, ?_⟩
  intro S1 e1
  refine ⟨by omega, ?_⟩
  intro S2 e2
  refine ⟨by omega, ?_⟩
  intro S3 e3 S4 e4
  have c0 : S3.1 ma 0 0 = S.1 ma 0 0 := by rw [e3, e2, e1]; simp [q_st]
  rw [c0] at e4
  refine hq S4 (by rw [e4, e3, e2, e1]; exact (((Kp.rf (P := Pma ma)).st rfl).st rfl |>.st rfl).st rfl) ⟨fun i i0 i1 => ?_, ?_⟩
  · obtain ⟨a1, a2, a3⟩ := hC.1 i i0 i1
    rw [e4, e3, e2, e1]
    refine ⟨?_, ?_, ?_⟩
    · show _ = up (q0 P) x y i
      by_cases q : i = x
      · rw [q, up_s]; simp [q_st]
      · rw [up_n _ _ q]; simp [q_st, q, a1]
    · show _ = up (q1 P) y x i
      by_cases q : i = y
      · rw [q, up_s]; simp [q_st]
      · rw [up_n _ _ q]; simp [q_st, q, a2]
    · show _ = up (qh P) x ph i
      by_cases q : i = x
      · rw [q, up_s]; simp [q_st]
      · rw [up_n _ _ q]; simp [q_st, q, a3]
  · rw [e4, q_st_eq, hC.2]
    show _ = tn t0 - (cU (up (q0 P) x y) (tn t0).toNat : Int)
    rw [cU_up x0 hx (by omega), if_pos (by omega)]
    omega
theorem s_Ma_nearness {Λ : QLay} {ma se : Nat} {x y : Int} {S : QMem} {Q : Int → QMem → Prop} {t0 t1 : TT} (hW : WC se S t0 t1) (x0 : 0 ≤ x) (x1 : x < tn t0) (y0 : 0 ≤ y) (y1 : y < tn t1) (hq : Q (nr t0 t1 x y) S) : w_Ma_nearness Λ ma se x y S Q := by
  have hWW := hW
  obtain ⟨c0, c1, w0, w1⟩ := hW
  have n0 := tn_rng w0
  have n1 := tn_rng w1
  have p0 := pl_rng w0 x0 x1
  have p1 := pl_rng w1 y0 y1
  unfold w_Ma_nearness
  intro a ha
  refine ⟨by omega, ?_⟩
  intro b hb
  rw [ha, hb, (c0.2.1 x x0 x1).2.2.2.1, (c1.2.1 y y0 y1).2.2.2.1]
  refine ⟨by omega, by unfold inR; omega, ?_⟩
  intro d hd
  refine s_Se_kinship hWW x0 x1 y0 y1 ?_
  rw [hd]
  exact hq
/-- the first i nodes of two subtrees are joined -/
def jTn (P : MM) (x y i : Int) : MM := (fun j => if x ≤ j ∧ j < x + i then y + (j - x) else q0 P j, fun j => if y ≤ j ∧ j < y + i then x + (j - y) else q1 P j, fun j => if x ≤ j ∧ j < x + i then 1 else qh P j)
theorem jTn_0 (P : MM) (x y : Int) : jTn P x y 0 = P := by
  refine Prod.ext (funext fun j => if_neg (by omega)) (Prod.ext (funext fun j => if_neg (by omega)) (funext fun j => if_neg (by omega)))
theorem jTn_s (P : MM) (x y : Int) {i : Int} (hi : 0 ≤ i) : j1 (jTn P x y i) (x + i) (y + i) 1 = jTn P x y (i + 1) := by
  refine Prod.ext (funext fun j => ?_) (Prod.ext (funext fun j => ?_) (funext fun j => ?_))
  · show up (q0 (jTn P x y i)) (x + i) (y + i) j = if x ≤ j ∧ j < x + (i + 1) then y + (j - x) else q0 P j
    by_cases q : j = x + i
    · rw [q, up_s, if_pos (by omega)]; omega
    · rw [up_n _ _ q]
      show (if x ≤ j ∧ j < x + i then y + (j - x) else q0 P j) = _
      by_cases q2 : x ≤ j ∧ j < x + i
      · rw [if_pos q2, if_pos (by omega)]
      · rw [if_neg q2, if_neg (by omega)]
  · show up (q1 (jTn P x y i)) (y + i) (x + i) j = if y ≤ j ∧ j < y + (i + 1) then x + (j - y) else q1 P j
    by_cases q : j = y + i
    · rw [q, up_s, if_pos (by omega)]; omega
    · rw [up_n _ _ q]
      show (if y ≤ j ∧ j < y + i then x + (j - y) else q1 P j) = _
      by_cases q2 : y ≤ j ∧ j < y + i
      · rw [if_pos q2, if_pos (by omega)]
      · rw [if_neg q2, if_neg (by omega)]
  · show up (qh (jTn P x y i)) (x + i) 1 j = if x ≤ j ∧ j < x + (i + 1) then 1 else qh P j
    by_cases q : j = x + i
    · rw [q, up_s, if_pos (by omega)]
    · rw [up_n _ _ q]
      show (if x ≤ j ∧ j < x + i then 1 else qh P j) = _
      by_cases q2 : x ≤ j ∧ j < x + i
      · rw [if_pos q2, if_pos (by omega)]
      · rw [if_neg q2, if_neg (by omega)]
theorem jTn_e {t0 t1 : TT} (P : MM) {x y : Int} (h : te t0 x - x = te t1 y - y) : jTn P x y (te t0 x - x) = jT t0 t1 P x y := by
  refine Prod.ext (funext fun j => ?_) (Prod.ext (funext fun j => ?_) (funext fun j => ?_))
  · show (if x ≤ j ∧ j < x + (te t0 x - x) then y + (j - x) else q0 P j) = if x ≤ j ∧ j < te t0 x then y + (j - x) else q0 P j
    rw [show x + (te t0 x - x) = te t0 x by omega]
  · show (if y ≤ j ∧ j < y + (te t0 x - x) then x + (j - y) else q1 P j) = if y ≤ j ∧ j < te t1 y then x + (j - y) else q1 P j
    rw [show y + (te t0 x - x) = te t1 y by omega]
  · show (if x ≤ j ∧ j < x + (te t0 x - x) then 1 else qh P j) = if x ≤ j ∧ j < te t0 x then 1 else qh P j
    rw [show x + (te t0 x - x) = te t0 x by omega]
theorem s_Ma_pairNearest {Λ : QLay} {ma se : Nat} {h : Int} {S : QMem} {Q : Int → QMem → Prop} {t0 t1 : TT} {P : MM} (hW : WC se S t0 t1) (n0 : S.2 se 0 ≠ ma) (n1 : S.2 se 1 ≠ ma) (hh : 0 ≤ h ∧ h ≤ 24) (hC : CM S ma t0 P) (hP : MOK t0 t1 P) (hE0 : EH t0 h (q0 P)) (hE1 : EH t1 h (q1 P))
    (hq0 : isB t0 t1 h P (tn t0) 0 (-1, -1) → Q 0 S) (hq1 : ∀ x y, isB t0 t1 h P (tn t0) 0 (x, y) → el t0 t1 h P x y → ∀ S', Kp (Pma ma) S S' → CM S' ma t0 (jT t0 t1 P x y) → Q 1 S') : w_Ma_pairNearest Λ ma se h S Q := by
  have hWW := hW
  obtain ⟨c0, c1, w0, w1⟩ := hW
  have m0 := tn_rng w0
  have m1 := tn_rng w1
  have rP0 : ∀ i, 0 ≤ i → i < 24 → S.1 ma 1 i = q0 P i := fun i a b => (hC.1 i a b).1
  have rP1 : ∀ i, 0 ≤ i → i < 24 → S.1 ma 2 i = q1 P i := fun i a b => (hC.1 i a b).2.1
  have r0 : ∀ i, 0 ≤ i → i < tn t0 → -1 ≤ q0 P i ∧ q0 P i ≤ 23 := fun i a b => by rcases hP.1 i a b with z | z <;> omega
  have r1 : ∀ i, 0 ≤ i → i < tn t1 → -1 ≤ q1 P i ∧ q1 P i ≤ 23 := fun i a b => by rcases hP.2 i a b with z | z <;> omega
  unfold w_Ma_pairNearest
  -- the pairs of the two subtrees
  have fin : ∀ x y, isB t0 t1 h P (tn t0) 0 (x, y) → el t0 t1 h P x y → ∀ (f : Nat) (i : Int) (S1 : QMem), 0 ≤ i → i ≤ te t0 x - x → te t0 x - x - i < f → Kp (Pma ma) S S1 → CM S1 ma t0 (jTn P x y i) → w_Ma_pairNearest_148 Λ Q f ma se x y i S1 := by
    intro x y hb he f
    have ex := te_rng he.1.2
    have ey := te_rng he.2.1.2
    have hs := he.2.2.2.2.2.1
    induction f with
    | zero => intro i S1 a1 a2 a3; omega
    | succ f ih =>
      intro i S1 a1 a2 a3 hk hC1
      rw [w_Ma_pairNearest_148]
      intro a ha
      rw [hk.1] at ha
      have e7 : S1.1 a 7 x = te t0 x - x - 1 := by rw [ha, hk.at n0]; exact (c0.2.1 x he.1.1 he.1.2).2.2.2.2.2.2.1
      rw [e7]
      have hx0 := he.1
      refine ⟨by omega, by unfold inR; omega, by unfold inR; omega, fun z => ?_, fun z => ?_⟩
      · refine hq1 x y hb he S1 hk ?_
        rw [← jTn_e P hs, ← show i = te t0 x - x by omega]
        exact hC1
      · have hfree : q0 (jTn P x y i) (x + i) = -1 := by
          have e : q0 (jTn P x y i) (x + i) = q0 P (x + i) := if_neg (by omega)
          rw [e]
          by_cases q : q0 P (x + i) = -1
          · exact q
          · have := hE0 x (x + i) he.1.1 he.1.2 (by omega) (by omega) he.2.2.1 q
            have := he.2.2.2.2.1
            omega
        refine s_Ma_pair w0 w1 hC1 (by have := he.1; omega) (by omega) (by have := he.2.1; omega) (by omega) hfree (fun S2 hk2 hC2 => ?_)
        rw [jTn_s P x y a1] at hC2
        exact ih (i + 1) S2 (by omega) (by omega) (by omega) (hk.tr hk2) hC2
  refine ⟨(tn t0).toNat + 1, ?_⟩
  have key : ∀ (f : Nat) (x : Int) (b : Int × Int) (be : Int), 0 ≤ x → x ≤ tn t0 → tn t0 - x < f → isB t0 t1 h P x 0 b → (b.1 = -1 → be = -1) → (b.1 ≠ -1 → be = nr t0 t1 b.1 b.2) → w_Ma_pairNearest_11 Λ Q f ma se h b.1 b.2 be x S := by
    intro f
    induction f with
    | zero => intro x b be a1 a2 a3; omega
    | succ f ih =>
      intro x b be a1 a2 a3 hb hb0 hb1
      rw [w_Ma_pairNearest_11]
      intro a ha
      rw [ha, c0.1]
      have brng : inR b.1 ∧ inR b.2 := by
        rcases hb with z | z
        · rw [z.1, z.2.1]; unfold inR; omega
        · have := z.1.1; have := z.1.2.1; unfold inR; omega
      refine ⟨by unfold inR; omega, by unfold inR; omega, fun z => ?_, fun z => ⟨by omega, ?_⟩⟩
      · have hxn : x = tn t0 := by omega
        rw [hxn] at hb
        refine ⟨brng.1, fun q => ?_, fun q => ⟨brng.2, fun q2 => ?_, fun q2 => ?_⟩⟩
        · rcases hb with w | w
          · refine hq0 (Or.inl ⟨rfl, rfl, w.2.2⟩)
          · have := w.1.1; omega
        · rcases hb with w | w
          · exact absurd w.1 q
          · have hbb : isB t0 t1 h P (tn t0) 0 (b.1, b.2) := Or.inr w
            exact ⟨(te t0 b.1 - b.1).toNat + 1, fin b.1 b.2 hbb w.1 _ 0 S (by omega) (by have := te_rng w.1.1.2; omega) (by omega) Kp.rf (by rw [jTn_0]; exact hC)⟩
        · rcases hb with w | w
          · exact absurd w.1 q
          · have := w.1.2.1; omega
      · have r0x := r0 x a1 (by omega)
        rw [rP0 x a1 (by omega)]
        refine ⟨by unfold inR; omega, fun q => ?_, fun q => ?_⟩
        · exact ih (x + 1) b be (by omega) (by omega) (by omega) (isB_row hb (fun y' _ e => q e.2.2.1)) hb0 hb1
        · intro a' ha'
          have h8 : S.1 a' 8 x = th t0 x := by rw [ha']; exact (c0.2.1 x a1 (by omega)).2.2.2.2.2.2.2
          rw [h8]
          have thr := th_rng w0 x
          refine ⟨by omega, by unfold inR; omega, by unfold inR; omega, fun q2 => ?_, fun q2 => ?_⟩
          · refine ⟨(tn t1).toNat + 1, ?_⟩
            have inner : ∀ (g : Nat) (y : Int) (b : Int × Int) (be : Int), 0 ≤ y → y ≤ tn t1 → tn t1 - y < g → isB t0 t1 h P x y b → (b.1 = -1 → be = -1) → (b.1 ≠ -1 → be = nr t0 t1 b.1 b.2) → w_Ma_pairNearest_54 Λ (fun v0' v1' v2' v3' v4' v5' v6' S' => w_Ma_pairNearest_11 Λ Q f v0' v1' v2' v3' v4' v5' v6' S') Q g ma se h b.1 b.2 be x y S := by
              intro g
              induction g with
              | zero => intro y b be c1 c2 c3; omega
              | succ g ihg =>
                intro y b be d1 d2 d3 hb hb0 hb1
                rw [w_Ma_pairNearest_54]
                intro b' hb'
                rw [hb', c1.1]
                refine ⟨by unfold inR; omega, by unfold inR; omega, fun z => ?_, fun z => ⟨by omega, ?_⟩⟩
                · exact ih (x + 1) b be (by omega) (by omega) (by omega) (isB_row hb (fun y' hy' e => by have := e.2.1.2; omega)) hb0 hb1
                · have r1y := r1 y d1 (by omega)
                  rw [rP1 y d1 (by omega)]
                  refine ⟨by unfold inR; omega, fun q3 => ?_, fun q3 => ?_⟩
                  · exact ihg (y + 1) b be (by omega) (by omega) (by omega) (isB_skip hb (fun e => q3 e.2.2.2.1)) hb0 hb1
                  · refine s_Se_areEqual hWW a1 (by omega) d1 (by omega) (fun he => ?_) (fun he => ?_)
                    · have hel : el t0 t1 h P x y := ⟨⟨a1, by omega⟩, ⟨d1, by omega⟩, q, q3, q2, he⟩
                      refine ⟨by unfold inR; omega, fun _ => ?_, fun q4 => absurd q4 (by decide)⟩
                      refine s_Ma_nearness hWW a1 (by omega) d1 (by omega) ?_
                      have nrr := nr_rng w0 w1 a1 (by omega) d1 (by omega)
                      have ber : -1 ≤ be ∧ be ≤ 1000 := by
                        by_cases q5 : b.1 = -1
                        · rw [hb0 q5]; omega
                        · rw [hb1 q5]
                          rcases hb with w | w
                          · exact absurd w.1 q5
                          · have := nr_rng w0 w1 w.1.1.1 w.1.1.2 w.1.2.1.1 w.1.2.1.2
                            omega
                      refine ⟨by unfold inR; omega, by unfold inR; omega, fun q4 => ?_, fun q4 => ?_⟩
                      · have hb1n : b.1 ≠ -1 := fun z => by have := hb0 z; omega
                        exact ihg (y + 1) b be (by omega) (by omega) (by omega) (isB_keep hb hel hb1n (by rw [← hb1 hb1n]; exact q4)) hb0 hb1
                      · have hn : b.1 = -1 ∨ nr t0 t1 b.1 b.2 < nr t0 t1 x y := by
                          by_cases q5 : b.1 = -1
                          · exact Or.inl q5
                          · right; rw [← hb1 q5]; omega
                        exact ihg (y + 1) (x, y) (nr t0 t1 x y) (by omega) (by omega) (by omega) (isB_take hb hel hn) (fun z => by have z : x = -1 := z; omega) (fun _ => rfl)
                    · exact ⟨by unfold inR; omega, fun q4 => absurd rfl q4, fun _ => ihg (y + 1) b be (by omega) (by omega) (by omega) (isB_skip hb (fun e => he e.2.2.2.2.2)) hb0 hb1⟩
            exact inner _ 0 b be (by omega) (by omega) (by omega) hb hb0 hb1
          · exact ih (x + 1) b be (by omega) (by omega) (by omega) (isB_row hb (fun y' _ e => q2 e.2.2.2.2.1)) hb0 hb1
  exact key _ 0 (-1, -1) (-1) (by omega) (by omega) (by omega) isB_0 (fun _ => rfl) (fun z => absurd rfl z)
