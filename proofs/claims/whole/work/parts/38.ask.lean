/-! what both sides say of trees -/
theorem s_Se_haveSameLabel {Λ : QLay} {se : Nat} {x y : Int} {S : QMem} {Q : Int → QMem → Prop} {t0 t1 : TT} (hW : WC se S t0 t1) (x0 : 0 ≤ x) (x1 : x < tn t0) (y0 : 0 ≤ y) (y1 : y < tn t1) (h1 : tl t0 x = tl t1 y → Q 1 S) (h0 : ¬ tl t0 x = tl t1 y → Q 0 S) : w_Se_haveSameLabel Λ se x y S Q := by
  obtain ⟨c0, c1, w0, w1⟩ := hW
  have n0 := tn_rng w0
  have n1 := tn_rng w1
  unfold w_Se_haveSameLabel
  intro a ha
  refine ⟨by omega, ?_⟩
  intro b hb
  rw [ha, hb, (c0.2.1 x x0 x1).1, (c1.2.1 y y0 y1).1]
  have r0 := (w0.2 x x0 x1).1
  have r1 := (w1.2 y y0 y1).1
  exact ⟨by omega, by unfold inR; omega, by unfold inR; omega, h0, h1⟩
theorem s_Se_haveSameContent {Λ : QLay} {se : Nat} {x y : Int} {S : QMem} {Q : Int → QMem → Prop} {t0 t1 : TT} (hW : WC se S t0 t1) (x0 : 0 ≤ x) (x1 : x < tn t0) (y0 : 0 ≤ y) (y1 : y < tn t1) (h1 : tl t0 x = tl t1 y → tv t0 x = tv t1 y → Q 1 S) (h0 : ¬ (tl t0 x = tl t1 y ∧ tv t0 x = tv t1 y) → Q 0 S) : w_Se_haveSameContent Λ se x y S Q := by
  obtain ⟨c0, c1, w0, w1⟩ := hW
  have n0 := tn_rng w0
  have n1 := tn_rng w1
  unfold w_Se_haveSameContent
  intro a ha
  refine ⟨by omega, ?_⟩
  intro b hb
  rw [ha, hb, (c0.2.1 x x0 x1).1, (c1.2.1 y y0 y1).1]
  have r0 := w0.2 x x0 x1
  have r1 := w1.2 y y0 y1
  refine ⟨by omega, by unfold inR; omega, by unfold inR; omega, fun z => h0 (fun q => z q.1), fun z => ?_⟩
  intro a' ha'
  refine ⟨by omega, ?_⟩
  intro b' hb'
  rw [ha', hb', (c0.2.1 x x0 x1).2.1, (c1.2.1 y y0 y1).2.1]
  exact ⟨by omega, by unfold inR; omega, by unfold inR; omega, fun z2 => h0 (fun q => z2 q.2), fun z2 => h1 z z2⟩
theorem s_Se_areEqual {Λ : QLay} {se : Nat} {x y : Int} {S : QMem} {Q : Int → QMem → Prop} {t0 t1 : TT} (hW : WC se S t0 t1) (x0 : 0 ≤ x) (x1 : x < tn t0) (y0 : 0 ≤ y) (y1 : y < tn t1) (h1 : eqT t0 t1 x y → Q 1 S) (h0 : ¬ eqT t0 t1 x y → Q 0 S) : w_Se_areEqual Λ se x y S Q := by
  have hWW := hW
  obtain ⟨c0, c1, w0, w1⟩ := hW
  have n0 := tn_rng w0
  have n1 := tn_rng w1
  have ex := te_rng x1
  have ey := te_rng y1
  rw [← eq_CT w0 w1 x0 x1 y0 y1] at h1 h0
  have b7 : ∀ k, 0 ≤ k → k < tn t0 → S.1 (S.2 se 0) 7 k = te t0 k - k - 1 := fun k k0 k1 => (c0.2.1 k k0 k1).2.2.2.2.2.2.1
  have d7 : ∀ k, 0 ≤ k → k < tn t1 → S.1 (S.2 se 1) 7 k = te t1 k - k - 1 := fun k k0 k1 => (c1.2.1 k k0 k1).2.2.2.2.2.2.1
  unfold w_Se_areEqual
  intro a ha
  refine ⟨by omega, ?_⟩
  intro b hb
  rw [ha, hb, b7 x x0 x1, d7 y y0 y1]
  refine ⟨by omega, by unfold inR; omega, by unfold inR; omega, fun hs => ?_, fun z => h0 (fun q => z (by have := q.1; omega))⟩
  refine ⟨(te t0 x - x).toNat + 1, ?_⟩
  have key : ∀ (f : Nat) (i : Int), 0 ≤ i → i ≤ te t0 x - x → te t0 x - x - i < f → (∀ k, 0 ≤ k → k < i → tl t0 (x + k) = tl t1 (y + k) ∧ tv t0 (x + k) = tv t1 (y + k) ∧ te t0 (x + k) - (x + k) = te t1 (y + k) - (y + k)) → w_Se_areEqual_25 Λ Q f se x y i S := by
    intro f
    induction f with
    | zero => intro i a1 a2 a3; omega
    | succ f ih =>
      intro i a1 a2 a3 hi
      rw [w_Se_areEqual_25]
      intro a ha
      rw [ha, b7 x x0 x1]
      refine ⟨by omega, by unfold inR; omega, by unfold inR; omega, fun z => h1 ⟨by omega, fun k k0 k1 => hi k k0 (by omega)⟩, fun z => ?_⟩
      refine s_Se_haveSameContent hWW (by omega) (by omega) (by omega) (by omega) (fun z1 z2 => ?_) (fun z1 => ?_)
      · refine ⟨by unfold inR; omega, fun q => absurd q (by decide), fun _ => ?_⟩
        intro a2 ha2
        refine ⟨by omega, ?_⟩
        intro b2 hb2
        rw [ha2, hb2, b7 (x + i) (by omega) (by omega), d7 (y + i) (by omega) (by omega)]
        have e1 := te_rng (t := t0) (k := x + i) (by omega)
        have e2 := te_rng (t := t1) (k := y + i) (by omega)
        refine ⟨by omega, by unfold inR; omega, by unfold inR; omega, fun q => ?_, fun q => h0 (fun z3 => q (by have := (z3.2 i a1 (by omega)).2.2; omega))⟩
        refine ih (i + 1) (by omega) (by omega) (by omega) (fun k k0 k1 => ?_)
        by_cases qk : k = i
        · rw [qk]; exact ⟨z1, z2, by omega⟩
        · exact hi k k0 (by omega)
      · refine ⟨by unfold inR; omega, fun _ => h0 (fun z3 => z1 ⟨(z3.2 i a1 (by omega)).1, (z3.2 i a1 (by omega)).2.1⟩), fun q => absurd rfl q⟩
  exact key _ 0 (by omega) (by omega) (by omega) (fun k k0 k1 => by omega)
theorem s_Mo_size {Λ : QLay} {m : Nat} {i x : Int} {S : QMem} {Q : Int → QMem → Prop} {t : TT} (hT : mT S m i t) (hw : wfT t) (hi : i = 0 ∨ i = 1) (x0 : 0 ≤ x) (x1 : x < tn t) (hq : Q (te t x - x) S) : w_Mo_size Λ m i x S Q := by
  have n0 := tn_rng hw
  unfold w_Mo_size w_Mo_at
  refine ⟨by omega, ?_⟩
  rw [(hT.2 x x0 x1).1]
  exact hq
theorem s_Mo_height {Λ : QLay} {m : Nat} {i x : Int} {S : QMem} {Q : Int → QMem → Prop} {t : TT} (hT : mT S m i t) (hw : wfT t) (hi : i = 0 ∨ i = 1) (x0 : 0 ≤ x) (x1 : x < tn t) (hq : Q (th t x) S) : w_Mo_height Λ m i x S Q := by
  have n0 := tn_rng hw
  unfold w_Mo_height w_Mo_at
  refine ⟨by omega, ?_⟩
  rw [(hT.2 x x0 x1).2]
  exact hq
theorem s_Mo_areEqual {Λ : QLay} {m : Nat} {x y : Int} {S : QMem} {Q : Int → QMem → Prop} {t0 t1 : TT} (hW : WM m S t0 t1) (x0 : 0 ≤ x) (x1 : x < tn t0) (y0 : 0 ≤ y) (y1 : y < tn t1) (h1 : eqT t0 t1 x y → Q 1 S) (h0 : ¬ eqT t0 t1 x y → Q 0 S) : w_Mo_areEqual Λ m x y S Q := by
  obtain ⟨c0, c1, w0, w1⟩ := hW
  have n0 := tn_rng w0
  have n1 := tn_rng w1
  have ex := te_rng x1
  have ey := te_rng y1
  unfold w_Mo_areEqual
  refine s_Mo_size c0 w0 (Or.inl rfl) x0 x1 ?_
  refine s_Mo_size c1 w1 (Or.inr rfl) y0 y1 ?_
  have key : ∀ (f : Nat) (i v : Int), 0 ≤ i → i ≤ te t0 x - x → te t0 x - x - i < f → bl v → (v = 1 → te t0 x - x = te t1 y - y ∧ ∀ k, 0 ≤ k → k < i → tl t0 (x + k) = tl t1 (y + k) ∧ tv t0 (x + k) = tv t1 (y + k) ∧ (k = 0 ∨ tp t0 (x + k) - x = tp t1 (y + k) - y)) → (v = 0 → ¬ eqT t0 t1 x y) → w_Mo_areEqual_27 Λ Q f m x y (te t0 x - x) v i S := by
    intro f
    induction f with
    | zero => intro i v a1 a2 a3; omega
    | succ f ih =>
      intro i v a1 a2 a3 hv hi hz
      rw [w_Mo_areEqual_27]
      have out : v = 0 → bl v ∧ Q v S := fun z => by subst z; exact ⟨Or.inl rfl, h0 (hz rfl)⟩
      refine ⟨by unfold inR; omega, by unfold inR; omega, fun z => ?_, fun z => ⟨by rcases hv with q | q <;> unfold inR <;> omega, out, fun z2 => ?_⟩⟩
      · rcases hv with q | q
        · exact out q
        · subst q
          have := hi rfl
          exact ⟨Or.inr rfl, h1 ⟨this.1, fun k k0 k1 => this.2 k k0 (by omega)⟩⟩
      · have v1 : v = 1 := by rcases hv with q | q; exact absurd q z2; exact q
        have hh := hi v1
        have hs := hh.1
        dsimp only [w_Mo_at]
        have u0 := c0.1.2 (x + i) (by omega) (by omega)
        have u1 := c1.1.2 (y + i) (by omega) (by omega)
        rw [u0.1, u1.1, u0.2.1, u1.2.1, u0.2.2, u1.2.2]
        have r0 := w0.2 (x + i) (by omega) (by omega)
        have r1 := w1.2 (y + i) (by omega) (by omega)
        have p0 := tp_rng w0 (k := x + i) (by omega) (by omega)
        have p1 := tp_rng w1 (k := y + i) (by omega) (by omega)
        have no : ¬ (tl t0 (x + i) = tl t1 (y + i) ∧ tv t0 (x + i) = tv t1 (y + i) ∧ (i = 0 ∨ tp t0 (x + i) - x = tp t1 (y + i) - y)) → w_Mo_areEqual_27 Λ Q f m x y (te t0 x - x) 0 (i + 1) S := fun q =>
          ih (i + 1) 0 (by omega) (by omega) (by omega) (Or.inl rfl) (fun z => absurd z (by decide)) (fun _ z3 => q (z3.2 i a1 (by omega)))
        have yes : tl t0 (x + i) = tl t1 (y + i) ∧ tv t0 (x + i) = tv t1 (y + i) ∧ (i = 0 ∨ tp t0 (x + i) - x = tp t1 (y + i) - y) → w_Mo_areEqual_27 Λ Q f m x y (te t0 x - x) 1 (i + 1) S := fun q =>
          ih (i + 1) 1 (by omega) (by omega) (by omega) (Or.inr rfl) (fun _ => ⟨hs, fun k k0 k1 => by
            by_cases qk : k = i
            · rw [qk]; exact q
            · exact hh.2 k k0 (by omega)⟩) (fun z => absurd z (by decide))
        refine ⟨by omega, by omega, by unfold inR; omega, by unfold inR; omega, fun q => no (fun z => q z.1), fun q => ⟨by omega, by omega, by unfold inR; omega, by unfold inR; omega, fun q2 => no (fun z => q2 z.2.1), fun q2 => ⟨by unfold inR; omega, fun q3 => yes ⟨q, q2, Or.inl q3⟩, fun q3 => ⟨by omega, by omega, by unfold inR; omega, by unfold inR; omega, fun q4 => no (fun z => by rcases z.2.2 with z | z; exact q3 z; exact q4 z), fun q4 => yes ⟨q, q2, Or.inr q4⟩⟩⟩⟩⟩
  refine ⟨by unfold inR; omega, by unfold inR; omega, fun z => ⟨(te t0 x - x).toNat + 1, ?_⟩, fun z => ⟨(te t0 x - x).toNat + 1, ?_⟩⟩
  · exact key _ 0 0 (by omega) (by omega) (by omega) (Or.inl rfl) (fun q => absurd q (by decide)) (fun _ q => z q.1)
  · exact key _ 0 1 (by omega) (by omega) (by omega) (Or.inr rfl) (fun _ => ⟨z, fun k k0 k1 => by omega⟩) (fun q => absurd q (by decide))
theorem s_Se_kinship {Λ : QLay} {se : Nat} {x y : Int} {S : QMem} {Q : Int → QMem → Prop} {t0 t1 : TT} (hW : WC se S t0 t1) (x0 : 0 ≤ x) (x1 : x < tn t0) (y0 : 0 ≤ y) (y1 : y < tn t1) (hq : Q (kin t0 t1 x y) S) : w_Se_kinship Λ se x y S Q := by
  obtain ⟨c0, c1, w0, w1⟩ := hW
  have n0 := tn_rng w0
  have n1 := tn_rng w1
  unfold w_Se_kinship
  intro a ha
  rw [ha, (c0.2.1 x x0 x1).2.2.1]
  refine ⟨by omega, ?_⟩
  intro p hp b hb
  rw [hb, (c1.2.1 y y0 y1).2.2.1]
  refine ⟨by omega, ?_⟩
  intro q hq2
  refine ⟨30, ?_⟩
  have p0 := tp_rng w0 x0 x1
  have p1 := tp_rng w1 y0 y1
  have key : ∀ (f : Nat) (a b lev : Int), -1 ≤ a → a < tn t0 → -1 ≤ b → b < tn t1 → a < f → 0 ≤ lev → lev + a < 23 → Q (lev + kinF t0 t1 (f + 1) a b) S → w_Se_kinship_24 Λ Q (f + 1) se a b lev S := by
    intro f
    induction f with
    | zero =>
      intro a b lev a0 a1 b0 b1 af l0 l1 hq
      rw [w_Se_kinship_24]
      refine ⟨by unfold inR; omega, fun z => by omega, fun _ => ⟨by unfold inR; omega, fun z => ?_, fun z => by omega⟩⟩
      unfold kinF at hq
      rw [if_pos (Or.inl z), Int.add_zero] at hq
      exact hq
    | succ f ih =>
      intro a b lev a0 a1 b0 b1 af l0 l1 hq
      rw [w_Se_kinship_24]
      unfold kinF at hq
      refine ⟨by unfold inR; omega, fun z => by omega, fun _ => ⟨by unfold inR; omega, fun z => ?_, fun z => ⟨by unfold inR; omega, fun z2 => ?_, fun z2 => ?_⟩⟩⟩
      · rw [if_pos (Or.inl z), Int.add_zero] at hq
        exact hq
      · rw [if_pos (Or.inr (Or.inl z2)), Int.add_zero] at hq
        exact hq
      · intro c hc
        refine ⟨by omega, ?_⟩
        intro d hd
        have u0 := c0.2.1 a (by omega) a1
        have u1 := c1.2.1 b (by omega) b1
        rw [hc, hd, u0.1, u1.1]
        have r0 := (w0.2 a (by omega) a1).1
        have r1 := (w1.2 b (by omega) b1).1
        refine ⟨by omega, by unfold inR; omega, by unfold inR; omega, fun z3 => ?_, fun z3 => ?_⟩
        · intro c' hc'
          rw [hc', u0.2.2.1]
          refine ⟨by omega, ?_⟩
          intro x' hx' d' hd'
          rw [hd', u1.2.2.1]
          refine ⟨by omega, ?_⟩
          intro y' hy'
          have pp0 := tp_rng w0 (k := a) (by omega) a1
          have pp1 := tp_rng w1 (k := b) (by omega) b1
          rw [hx', hy']
          refine ih (tp t0 a) (tp t1 b) (lev + 1) (by omega) (by omega) (by omega) (by omega) (by omega) (by omega) (by omega) ?_
          rw [if_neg (by omega)] at hq
          rw [show lev + 1 + kinF t0 t1 (f + 1) (tp t0 a) (tp t1 b) = lev + (kinF t0 t1 (f + 1) (tp t0 a) (tp t1 b) + 1) by omega]
          exact hq
        · rw [if_pos (Or.inr (Or.inr z3)), Int.add_zero] at hq
          exact hq
  rw [hp, hq2]
  refine key 29 (tp t0 x) (tp t1 y) 0 (by omega) (by omega) (by omega) (by omega) (by omega) (by omega) (by omega) ?_
  rw [Int.zero_add]
  exact hq
theorem s_Mo_kinship {Λ : QLay} {m : Nat} {x y : Int} {S : QMem} {Q : Int → QMem → Prop} {t0 t1 : TT} (hW : WM m S t0 t1) (x0 : 0 ≤ x) (x1 : x < tn t0) (y0 : 0 ≤ y) (y1 : y < tn t1) (hq : Q (kin t0 t1 x y) S) : w_Mo_kinship Λ m x y S Q := by
  obtain ⟨c0, c1, w0, w1⟩ := hW
  have n0 := tn_rng w0
  have n1 := tn_rng w1
  have p0 := tp_rng w0 x0 x1
  have p1 := tp_rng w1 y0 y1
  unfold w_Mo_kinship
  dsimp only [w_Mo_at]
  rw [(c0.1.2 x x0 x1).2.2, (c1.1.2 y y0 y1).2.2]
  refine ⟨by omega, ?_⟩
  intro p hp
  refine ⟨by omega, ?_⟩
  intro q hq2
  refine ⟨30, ?_⟩
  have key : ∀ (f : Nat) (a b lev : Int), -1 ≤ a → a < tn t0 → -1 ≤ b → b < tn t1 → a < f → 0 ≤ lev → lev + a < 23 → Q (lev + kinF t0 t1 (f + 1) a b) S → w_Mo_kinship_26 Λ Q (f + 1) m lev a b S := by
    intro f
    induction f with
    | zero =>
      intro a b lev a0 a1 b0 b1 af l0 l1 hq
      rw [w_Mo_kinship_26]
      refine ⟨by unfold inR; omega, fun z => ?_, fun z => by omega⟩
      unfold kinF at hq
      rw [if_pos (Or.inl z), Int.add_zero] at hq
      exact hq
    | succ f ih =>
      intro a b lev a0 a1 b0 b1 af l0 l1 hq
      rw [w_Mo_kinship_26]
      unfold kinF at hq
      refine ⟨by unfold inR; omega, fun z => ?_, fun z => ⟨by unfold inR; omega, fun z2 => ?_, fun z2 => ?_⟩⟩
      · rw [if_pos (Or.inl z), Int.add_zero] at hq
        exact hq
      · rw [if_pos (Or.inr (Or.inl z2)), Int.add_zero] at hq
        exact hq
      · dsimp only [w_Mo_at]
        have u0 := c0.1.2 a (by omega) a1
        have u1 := c1.1.2 b (by omega) b1
        rw [u0.1, u1.1, u0.2.2, u1.2.2]
        have r0 := (w0.2 a (by omega) a1).1
        have r1 := (w1.2 b (by omega) b1).1
        refine ⟨by omega, by omega, by unfold inR; omega, by unfold inR; omega, fun z3 => ?_, fun z3 => ?_⟩
        · rw [if_pos (Or.inr (Or.inr z3)), Int.add_zero] at hq
          exact hq
        · refine ⟨by omega, ?_⟩
          intro x' hx'
          refine ⟨by omega, ?_⟩
          intro y' hy'
          have pp0 := tp_rng w0 (k := a) (by omega) a1
          have pp1 := tp_rng w1 (k := b) (by omega) b1
          rw [hx', hy']
          refine ih (tp t0 a) (tp t1 b) (lev + 1) (by omega) (by omega) (by omega) (by omega) (by omega) (by omega) (by omega) ?_
          rw [if_neg (by omega)] at hq
          rw [show lev + 1 + kinF t0 t1 (f + 1) (tp t0 a) (tp t1 b) = lev + (kinF t0 t1 (f + 1) (tp t0 a) (tp t1 b) + 1) by omega]
          exact hq
  rw [hp, hq2]
  refine key 29 (tp t0 x) (tp t1 y) 0 (by omega) (by omega) (by omega) (by omega) (by omega) (by omega) (by omega) ?_
  rw [Int.zero_add]
  exact hq
