/-! the class's distance -/
def fT (t : TT) : IF := (tn t, te t)
theorem fT_ok {t : TT} (hw : wfT t) : okF (fT t) := fun k k0 k1 => ⟨(te_rng k1).1, (te_rng k1).2, fun k' a b => en_in hw.1 k0 k1 (k'.toNat + 1) k' (by omega) a b⟩
def chT (t0 t1 : TT) (x y : Int) : Int := if tl t0 x = tl t1 y ∧ tv t0 x = tv t1 y then 0 else 1
def wT (t0 t1 : TT) (x y : Int) : Int := 2 - chT t0 t1 x y
theorem chT_rng (t0 t1 : TT) (x y : Int) : 0 ≤ chT t0 t1 x y ∧ chT t0 t1 x y ≤ 1 := by unfold chT; split <;> omega
def isDist (t0 t1 : TT) (d : Int) : Prop := isD (fT t0) (fT t1) (wT t0 t1) 0 0 (tn t0) (tn t1) d
/-- no node before ends there -/
def ky (F : IF) (x : Int) : Prop := ∀ z, 0 ≤ z → z < x → F.2 z ≠ F.2 x
theorem ky_ex (F : IF) : ∀ (f : Nat) (i : Int), i < f → 0 ≤ i → ∃ x, 0 ≤ x ∧ x ≤ i ∧ F.2 x = F.2 i ∧ ky F x
  | 0, i, a, b => by omega
  | f + 1, i, a, b => by
    by_cases q : ∃ z, (0 ≤ z ∧ z < i) ∧ F.2 z = F.2 i
    · obtain ⟨z, z0, ez⟩ := q
      obtain ⟨x, x0, x1, ex, kx⟩ := ky_ex F f z (by omega) z0.1
      exact ⟨x, x0, by omega, ex.trans ez, kx⟩
    · exact ⟨i, b, Int.le_refl _, rfl, fun z z0 z1 e => q ⟨z, ⟨z0, z1⟩, e⟩⟩
def isK (F : IF) (x i : Int) : Prop := 0 ≤ x ∧ x ≤ i ∧ F.2 x = F.2 i ∧ ky F x
theorem isK_u {F : IF} {x x' i i' : Int} (h : isK F x i) (h' : isK F x' i') (e : F.2 i = F.2 i') : x = x' := by
  obtain ⟨a, b, c, d⟩ := h
  obtain ⟨a', b', c', d'⟩ := h'
  rcases Int.lt_trichotomy x x' with z | z | z
  · exact absurd (by omega) (d' x a z)
  · exact z
  · exact absurd (by omega) (d x' a' z)
/-- the subtrees that were compared -/
def TI (F0 F1 : IF) (w : Int → Int → Int) (T : Int → Int → Int) (x y : Int) : Prop := ∀ i j x' y', 0 ≤ i → i < F0.1 → 0 ≤ j → j < F1.1 → isK F0 x' i → isK F1 y' j → (x < x' ∨ (x = x' ∧ y < y')) → isD F0 F1 w i j (F0.2 i) (F1.2 j) (T i j)
/-- a node inside of a key's subtree -/
theorem ky_in {F : IF} (hF : okF F) {x i x' : Int} (x0 : 0 ≤ x) (x1 : x < F.1) (hx : ky F x) (hi : x ≤ i) (hi2 : i < F.2 x) (hk : isK F x' i) : x ≤ x' ∧ (F.2 i = F.2 x → x' = x) ∧ (F.2 i ≠ F.2 x → x < x') := by
  have o := hF x x0 x1
  have oi := o.2.2 i hi hi2
  obtain ⟨a, b, c, d⟩ := hk
  have key : F.2 i = F.2 x → x' = x := fun e => by
    rcases Int.lt_trichotomy x' x with z | z | z
    · exact absurd (c.trans e) (hx x' a z)
    · exact z
    · exact absurd (e.symm.trans c.symm) (d x x0 z)
  refine ⟨?_, key, fun e => ?_⟩
  · by_cases q : x ≤ x'
    · exact q
    · have o' := (hF x' a (by omega)).2.2 x (by omega) (by have := (hF i (by omega) (by omega)).1; omega)
      exact Int.le_of_eq (key (by omega)).symm
  · by_cases q : x < x'
    · exact q
    · exfalso
      have o' := (hF x' a (by omega)).2.2 x (by omega) (by have := (hF i (by omega) (by omega)).1; omega)
      omega
def fo (S : QMem) (ed : Nat) (a b : Int) : Int := S.1 ed (rw_ 0 a) b
def tt (S : QMem) (ed : Nat) (a b : Int) : Int := S.1 ed (rw_ 1 a) b
abbrev Ped (ed : Nat) : Nat → Nat → Prop := fun o _ => o = ed
theorem fo_st {S S' : QMem} {ed : Nat} {i j v : Int} (i0 : 0 ≤ i) (e : S' = q_st S ed (rw_ 0 i) j v) {a b : Int} (a0 : 0 ≤ a) : (a = i → b = j → fo S' ed a b = v) ∧ (¬ (a = i ∧ b = j) → fo S' ed a b = fo S ed a b) := by
  refine ⟨fun h1 h2 => ?_, fun h => ?_⟩
  · unfold fo; rw [e, h1, h2]; simp [q_st]
  · unfold fo
    rw [e]
    show (if ed = ed ∧ rw_ 0 a = rw_ 0 i ∧ b = j then v else S.1 ed (rw_ 0 a) b) = _
    rw [if_neg (fun z => h ⟨by have := z.2.1; unfold rw_ at this; omega, z.2.2⟩)]
theorem tt_fo {S S' : QMem} {ed : Nat} {i j v : Int} (i0 : 0 ≤ i) (i1 : i ≤ 24) (e : S' = q_st S ed (rw_ 0 i) j v) {a b : Int} (a0 : 0 ≤ a) : tt S' ed a b = tt S ed a b := by
  unfold tt
  rw [e]
  show (if ed = ed ∧ rw_ 1 a = rw_ 0 i ∧ b = j then v else S.1 ed (rw_ 1 a) b) = _
  rw [if_neg (fun z => by have := z.2.1; unfold rw_ at this; omega)]
theorem tt_st {S S' : QMem} {ed : Nat} {i j v : Int} (i0 : 0 ≤ i) (e : S' = q_st S ed (rw_ 1 i) j v) {a b : Int} (a0 : 0 ≤ a) : (a = i → b = j → tt S' ed a b = v) ∧ (¬ (a = i ∧ b = j) → tt S' ed a b = tt S ed a b) := by
  refine ⟨fun h1 h2 => ?_, fun h => ?_⟩
  · unfold tt; rw [e, h1, h2]; simp [q_st]
  · unfold tt
    rw [e]
    show (if ed = ed ∧ rw_ 1 a = rw_ 1 i ∧ b = j then v else S.1 ed (rw_ 1 a) b) = _
    rw [if_neg (fun z => h ⟨by have := z.2.1; unfold rw_ at this; omega, z.2.2⟩)]
theorem fo_tt {S S' : QMem} {ed : Nat} {i j v : Int} (i0 : 0 ≤ i) (e : S' = q_st S ed (rw_ 1 i) j v) {a b : Int} (a0 : 0 ≤ a) (a1 : a ≤ 24) : fo S' ed a b = fo S ed a b := by
  unfold fo
  rw [e]
  show (if ed = ed ∧ rw_ 0 a = rw_ 1 i ∧ b = j then v else S.1 ed (rw_ 0 a) b) = _
  rw [if_neg (fun z => by have := z.2.1; unfold rw_ at this; omega)]
theorem s_ED_compare {Λ : QLay} {ed se : Nat} {x y : Int} {S : QMem} {Q : QMem → Prop} {t0 t1 : TT} (hW : WC se S t0 t1) (n0 : S.2 se 0 ≠ ed) (n1 : S.2 se 1 ≠ ed) (x0 : 0 ≤ x) (x1 : x < tn t0) (y0 : 0 ≤ y) (y1 : y < tn t1) (hkx : ky (fT t0) x) (hky : ky (fT t1) y) (hT : TI (fT t0) (fT t1) (wT t0 t1) (tt S ed) x y)
    (hq : ∀ S', Kp (Ped ed) S S' → TI (fT t0) (fT t1) (wT t0 t1) (tt S' ed) x (y - 1) → Q S') : w_ED_compareSubtrees Λ ed se x y S Q := by
  have hWW := hW
  obtain ⟨c0, c1, w0, w1⟩ := hW
  have m0 := tn_rng w0
  have m1 := tn_rng w1
  have o0 := fT_ok w0
  have o1 := fT_ok w1
  have ex := te_rng x1
  have ey := te_rng y1
  -- what is known between two cells
  have Tend : ∀ S', (∀ a b, 0 ≤ a → a < tn t0 → 0 ≤ b → b < tn t1 → ¬ (te t0 a = te t0 x ∧ te t1 b = te t1 y) → tt S' ed a b = tt S ed a b) → (∀ a b, x ≤ a → a < te t0 x → y ≤ b → b < te t1 y → te t0 a = te t0 x → te t1 b = te t1 y → isD (fT t0) (fT t1) (wT t0 t1) a b (te t0 x) (te t1 y) (tt S' ed a b)) → TI (fT t0) (fT t1) (wT t0 t1) (tt S' ed) x (y - 1) := by
    intro S' hs hd i j x' y' i0 i1 j0 j1 kx' ky' hlt
    have i1 : i < tn t0 := i1
    have j1 : j < tn t1 := j1
    by_cases q : te t0 i = te t0 x ∧ te t1 j = te t1 y
    · have e1 := isK_u kx' (⟨x0, Int.le_refl _, rfl, hkx⟩ : isK (fT t0) x x) q.1
      have e2 := isK_u ky' (⟨y0, Int.le_refl _, rfl, hky⟩ : isK (fT t1) y y) q.2
      have bi := kx'.2.1
      have bj := ky'.2.1
      have hi := (te_rng i1).1
      have hj := (te_rng j1).1
      have := hd i j (by omega) (by omega) (by omega) (by omega) q.1 q.2
      show isD (fT t0) (fT t1) (wT t0 t1) i j (te t0 i) (te t1 j) _
      rw [q.1, q.2]
      exact this
    · rw [hs i j i0 i1 j0 j1 q]
      refine hT i j x' y' i0 i1 j0 j1 kx' ky' ?_
      rcases hlt with z | z
      · exact Or.inl z
      · by_cases q2 : y < y'
        · exact Or.inr ⟨z.1, q2⟩
        · exfalso
          have e2 : y' = y := by omega
          exact q ⟨by have := kx'.2.2.1; rw [← z.1] at this; exact this.symm, by have := ky'.2.2.1; rw [e2] at this; exact this.symm⟩
  have Tknow : ∀ i j, x ≤ i → i < te t0 x → y ≤ j → j < te t1 y → ¬ (te t0 i = te t0 x ∧ te t1 j = te t1 y) → isD (fT t0) (fT t1) (wT t0 t1) i j (te t0 i) (te t1 j) (tt S ed i j) := by
    intro i j i0 i1 j0 j1 q
    obtain ⟨x', kx'⟩ := ky_ex (fT t0) (i.toNat + 1) i (by omega) (by omega)
    obtain ⟨y', ky'⟩ := ky_ex (fT t1) (j.toNat + 1) j (by omega) (by omega)
    have hx := ky_in o0 (x := x) (i := i) x0 x1 hkx i0 i1 kx'
    have hy := ky_in o1 (x := y) (i := j) y0 y1 hky j0 j1 ky'
    refine hT i j x' y' (by omega) (by show i < tn t0; omega) (by omega) (by show j < tn t1; omega) kx' ky' ?_
    by_cases q1 : te t0 i = te t0 x
    · exact Or.inr ⟨(hx.2.1 q1).symm, hy.2.2 (fun z => q ⟨q1, z⟩)⟩
    · exact Or.inl (hx.2.2 q1)
  unfold w_ED_compareSubtrees
  intro a ha
  rw [ha]
  refine s_Tr_endOf c0 w0.1 ⟨by omega, x1⟩ ?_
  rw [if_neg (by omega)]
  intro b hb
  rw [hb]
  refine s_Tr_endOf c1 w1.1 ⟨by omega, y1⟩ ?_
  rw [if_neg (by omega)]
  -- cells known
  have main : ∀ (f : Nat) (i : Int) (S1 : QMem), x - 1 ≤ i → i + 1 = x + f → i < te t0 x → Kp (Ped ed) S S1 →
      (∀ a b, x ≤ a → a ≤ te t0 x → y ≤ b → b ≤ te t1 y → b = te t1 y ∨ a = te t0 x ∨ i < a → isD (fT t0) (fT t1) (wT t0 t1) a b (te t0 x) (te t1 y) (fo S1 ed a b)) →
      (∀ a b, 0 ≤ a → a < tn t0 → 0 ≤ b → b < tn t1 → ¬ (te t0 a = te t0 x ∧ te t1 b = te t1 y) → tt S1 ed a b = tt S ed a b) →
      (∀ a b, i < a → a < te t0 x → y ≤ b → b < te t1 y → te t0 a = te t0 x → te t1 b = te t1 y → isD (fT t0) (fT t1) (wT t0 t1) a b (te t0 x) (te t1 y) (tt S1 ed a b)) → w_ED_compareSubtrees_88 Λ Q (f + 1) ed se x y (te t0 x) (te t1 y) i S1 := by
    intro f
    induction f with
    | zero =>
      intro i S1 i0 hi i1 hk hF hs hd
      rw [w_ED_compareSubtrees_88]
      exact ⟨by unfold inR; omega, by unfold inR; omega, fun _ => hq S1 hk (Tend S1 hs (fun a b a0 => hd a b (by omega))), fun z => by omega⟩
    | succ f ih =>
      intro i S1 i0 hi i1 hk hF hs hd
      rw [w_ED_compareSubtrees_88]
      refine ⟨by unfold inR; omega, by unfold inR; omega, fun z => by omega, fun _ => ?_⟩
      intro jj hjj
      have row : ∀ (g : Nat) (j : Int) (S2 : QMem), y - 1 ≤ j → j + 1 = y + g → j < te t1 y → Kp (Ped ed) S S2 →
          (∀ a b, x ≤ a → a ≤ te t0 x → y ≤ b → b ≤ te t1 y → b = te t1 y ∨ a = te t0 x ∨ i < a ∨ (a = i ∧ j < b) → isD (fT t0) (fT t1) (wT t0 t1) a b (te t0 x) (te t1 y) (fo S2 ed a b)) →
          (∀ a b, 0 ≤ a → a < tn t0 → 0 ≤ b → b < tn t1 → ¬ (te t0 a = te t0 x ∧ te t1 b = te t1 y) → tt S2 ed a b = tt S ed a b) →
          (∀ a b, i < a ∨ (a = i ∧ j < b) → a < te t0 x → y ≤ b → b < te t1 y → te t0 a = te t0 x → te t1 b = te t1 y → isD (fT t0) (fT t1) (wT t0 t1) a b (te t0 x) (te t1 y) (tt S2 ed a b)) → w_ED_compareSubtrees_100 Λ (fun v0' v1' v2' v3' v4' v5' v6' S' => w_ED_compareSubtrees_88 Λ Q (f + 1) v0' v1' v2' v3' v4' v5' v6' S') Q (g + 1) ed se x y (te t0 x) (te t1 y) i j S2 := by
        intro g
        induction g with
        | zero =>
          intro j S2 j0 hj j1 hk2 hF2 hs2 hd2
          rw [w_ED_compareSubtrees_100]
          refine ⟨by unfold inR; omega, by unfold inR; omega, fun _ => ih (i + (-1)) S2 (by omega) (by omega) (by omega) hk2 (fun a b a0 a1 b0 b1 h => hF2 a b a0 a1 b0 b1 (by omega)) hs2 (fun a b a0 a1 b0 b1 => hd2 a b (by omega) a1 b0 b1), fun z => by omega⟩
        | succ g ihg =>
          intro j S2 j0 hj j1 hk2 hF2 hs2 hd2
          have W2 : WC se S2 t0 t1 := WC_kp hk2 (fun _ => n0) (fun _ => n1) hWW
          have ei := te_rng (t := t0) (k := i) (by omega)
          have ej := te_rng (t := t1) (k := j) (by omega)
          have ni : te t0 i ≤ te t0 x := (o0 x x0 x1).2.2 i (by omega) i1
          have nj : te t1 j ≤ te t1 y := (o1 y y0 y1).2.2 j (by omega) j1
          have v1 := hF2 (i + 1) j (by omega) (by omega) (by omega) (by omega) (by omega)
          have v2 := hF2 i (j + 1) (by omega) (by omega) (by omega) (by omega) (by omega)
          have b1 := isD_le v1
          have b2 := isD_le v2
          have p1 := v1.2
          have p2 := v2.2
          have f1 : S2.1 ed (rw_ 0 (i + 1)) j = fo S2 ed (i + 1) j := rfl
          have f2 : S2.1 ed (rw_ 0 i) (j + 1) = fo S2 ed i (j + 1) := rfl
          rw [w_ED_compareSubtrees_100, f1, f2]
          refine ⟨by unfold inR; omega, by unfold inR; omega, fun z => by omega, fun _ => ⟨by omega, by omega, by omega, by omega, by unfold inR; omega, by unfold inR; omega, ?_⟩⟩
          intro ol hol
          have hol' : ol ≤ fo S2 ed (i + 1) j + 1 ∧ ol ≤ fo S2 ed i (j + 1) + 1 ∧ (ol = fo S2 ed (i + 1) j + 1 ∨ ol = fo S2 ed i (j + 1) + 1) := by
            by_cases q : fo S2 ed i (j + 1) < fo S2 ed (i + 1) j
            · rw [if_pos q] at hol; omega
            · rw [if_neg q] at hol; omega
          intro a2 ha2
          rw [ha2]
          refine s_Tr_endOf W2.1 w0.1 ⟨by omega, by omega⟩ ?_
          rw [if_neg (by omega)]
          intro b2' hb2
          rw [hb2]
          refine s_Tr_endOf W2.2.1 w1.1 ⟨by omega, by omega⟩ ?_
          rw [if_neg (by omega)]
          have ei' : en (tn t0) (tp t0) i = te t0 i := rfl
          have ej' : en (tn t1) (tp t1) j = te t1 j := rfl
          rw [ei', ej']
          have v3 := hF2 (te t0 i) (te t1 j) (by omega) (by omega) (by omega) (by omega) (by omega)
          have b3 := isD_le v3
          have p3 := v3.2
          -- the cell is written
          have fin : ∀ (S3 : QMem) (dT : Int), Kp (Ped ed) S S3 → (∀ a b, 0 ≤ a → a ≤ 24 → fo S3 ed a b = fo S2 ed a b) → tt S3 ed i j = dT → isD (fT t0) (fT t1) (wT t0 t1) i j (te t0 i) (te t1 j) dT →
              (∀ a b, 0 ≤ a → a < tn t0 → 0 ≤ b → b < tn t1 → ¬ (te t0 a = te t0 x ∧ te t1 b = te t1 y) → tt S3 ed a b = tt S ed a b) →
              (∀ a b, i < a ∨ (a = i ∧ j ≤ b) → a < te t0 x → y ≤ b → b < te t1 y → te t0 a = te t0 x → te t1 b = te t1 y → isD (fT t0) (fT t1) (wT t0 t1) a b (te t0 x) (te t1 y) (tt S3 ed a b)) →
              w_ED_compareSubtrees_223 Λ (fun v0' v1' v2' v3' v4' v5' v6' S' => w_ED_compareSubtrees_88 Λ Q (f + 1) v0' v1' v2' v3' v4' v5' v6' S') (fun v0' v1' v2' v3' v4' v5' v6' v7' S' => w_ED_compareSubtrees_100 Λ (fun v0' v1' v2' v3' v4' v5' v6' S' => w_ED_compareSubtrees_88 Λ Q (f + 1) v0' v1' v2' v3' v4' v5' v6' S') Q (g + 1) v0' v1' v2' v3' v4' v5' v6' v7' S') Q ed se x y (te t0 x) (te t1 y) i j ol (te t0 i) (te t1 j) S3 := by
            intro S3 dT hk3 hfo htt hdT hs3 hd3
            have bT := isD_le hdT
            have pT := hdT.2
            have g1 : S3.1 ed (rw_ 0 (te t0 i)) (te t1 j) = fo S2 ed (te t0 i) (te t1 j) := hfo (te t0 i) (te t1 j) (by omega) (by omega)
            have g2 : S3.1 ed (rw_ 1 i) j = dT := htt
            unfold w_ED_compareSubtrees_223
            rw [g1, g2]
            refine ⟨by omega, by omega, by omega, by omega, by omega, by unfold inR; omega, by unfold inR; omega, by omega, ?_⟩
            intro S4 e4
            have cell : ∀ v, v = (if fo S2 ed (te t0 i) (te t1 j) + dT < ol then fo S2 ed (te t0 i) (te t1 j) + dT else ol) → isD (fT t0) (fT t1) (wT t0 t1) i j (te t0 x) (te t1 y) v := fun v hv => by
              refine isD_step o0 o1 (by omega) (by omega) i1 j1 ni nj (by show te t0 x ≤ tn t0; omega) (by show te t1 y ≤ tn t1; omega) v1 v2 v3 hdT ?_ ?_ ?_ ?_
              · by_cases q : fo S2 ed (te t0 i) (te t1 j) + dT < ol
                · rw [if_pos q] at hv; omega
                · rw [if_neg q] at hv; omega
              · by_cases q : fo S2 ed (te t0 i) (te t1 j) + dT < ol
                · rw [if_pos q] at hv; omega
                · rw [if_neg q] at hv; omega
              · by_cases q : fo S2 ed (te t0 i) (te t1 j) + dT < ol
                · rw [if_pos q] at hv; omega
                · rw [if_neg q] at hv; omega
              · by_cases q : fo S2 ed (te t0 i) (te t1 j) + dT < ol
                · rw [if_pos q] at hv; omega
                · rw [if_neg q] at hv; omega
            refine ihg (j + (-1)) S4 (by omega) (by omega) (by omega) (by rw [e4]; exact hk3.st rfl) (fun a b a0 a1 b0 b1 h => ?_) (fun a b a0 a1 b0 b1 h => ?_) (fun a b h a1 b0 b1 e1 e2 => ?_)
            · have st := fo_st (i := i) (j := j) (by omega) e4 (a := a) (b := b) (by omega)
              by_cases q : a = i ∧ b = j
              · rw [st.1 q.1 q.2, q.1, q.2]; exact cell _ rfl
              · rw [st.2 q, hfo a b (by omega) (by omega)]; exact hF2 a b a0 a1 b0 b1 (by omega)
            · rw [tt_fo (by omega) (by omega) e4 a0]; exact hs3 a b a0 a1 b0 b1 h
            · rw [tt_fo (by omega) (by omega) e4 (by omega)]; exact hd3 a b (by omega) a1 b0 b1 e1 e2
          have notend : ¬ (te t0 i = te t0 x ∧ te t1 j = te t1 y) → w_ED_compareSubtrees_223 Λ (fun v0' v1' v2' v3' v4' v5' v6' S' => w_ED_compareSubtrees_88 Λ Q (f + 1) v0' v1' v2' v3' v4' v5' v6' S') (fun v0' v1' v2' v3' v4' v5' v6' v7' S' => w_ED_compareSubtrees_100 Λ (fun v0' v1' v2' v3' v4' v5' v6' S' => w_ED_compareSubtrees_88 Λ Q (f + 1) v0' v1' v2' v3' v4' v5' v6' S') Q (g + 1) v0' v1' v2' v3' v4' v5' v6' v7' S') Q ed se x y (te t0 x) (te t1 y) i j ol (te t0 i) (te t1 j) S2 := fun hne => by
            refine fin S2 _ hk2 (fun _ _ _ _ => rfl) rfl ?_ hs2 (fun a b h a1 b0 b1 e1 e2 => ?_)
            · rw [hs2 i j (by omega) (by omega) (by omega) (by omega) hne]
              exact Tknow i j (by omega) i1 (by omega) j1 hne
            · refine hd2 a b ?_ a1 b0 b1 e1 e2
              by_cases q : a = i ∧ b = j
              · rw [q.1] at e1; rw [q.2] at e2; exact absurd ⟨e1, e2⟩ hne
              · omega
          refine ⟨by unfold inR; omega, by unfold inR; omega, fun z => notend (fun w => z w.1), fun z => ⟨by unfold inR; omega, by unfold inR; omega, fun z2 => notend (fun w => z2 w.2), fun z2 => ?_⟩⟩
          have v4 := hF2 (i + 1) (j + 1) (by omega) (by omega) (by omega) (by omega) (by omega)
          have b4 := isD_le v4
          have p4 := v4.2
          have tree : ∀ c, c = chT t0 t1 i j → w_ED_compareSubtrees_189 Λ (fun v0' v1' v2' v3' v4' v5' v6' S' => w_ED_compareSubtrees_88 Λ Q (f + 1) v0' v1' v2' v3' v4' v5' v6' S') (fun v0' v1' v2' v3' v4' v5' v6' v7' S' => w_ED_compareSubtrees_100 Λ (fun v0' v1' v2' v3' v4' v5' v6' S' => w_ED_compareSubtrees_88 Λ Q (f + 1) v0' v1' v2' v3' v4' v5' v6' S') Q (g + 1) v0' v1' v2' v3' v4' v5' v6' v7' S') Q ed se x y (te t0 x) (te t1 y) i j ol (te t0 i) (te t1 j) c S2 := fun c hc => by
            have cr := chT_rng t0 t1 i j
            have f4 : S2.1 ed (rw_ 0 (i + 1)) (j + 1) = fo S2 ed (i + 1) (j + 1) := rfl
            unfold w_ED_compareSubtrees_189
            rw [f4]
            refine ⟨by omega, by omega, by omega, by unfold inR; omega, by unfold inR; omega, by omega, ?_⟩
            intro S3 e3
            have cell : ∀ v, v = (if fo S2 ed (i + 1) (j + 1) + c < ol then fo S2 ed (i + 1) (j + 1) + c else ol) → isD (fT t0) (fT t1) (wT t0 t1) i j (te t0 x) (te t1 y) v := fun v hv => by
              refine isD_tree o0 o1 (by omega) (by omega) i1 j1 z z2 (by show te t0 x ≤ tn t0; omega) (by show te t1 y ≤ tn t1; omega) v1 v2 v4 (c := c) (by rw [hc]; rfl) (by omega) ?_ ?_ ?_ ?_
              · by_cases q : fo S2 ed (i + 1) (j + 1) + c < ol
                · rw [if_pos q] at hv; omega
                · rw [if_neg q] at hv; omega
              · by_cases q : fo S2 ed (i + 1) (j + 1) + c < ol
                · rw [if_pos q] at hv; omega
                · rw [if_neg q] at hv; omega
              · by_cases q : fo S2 ed (i + 1) (j + 1) + c < ol
                · rw [if_pos q] at hv; omega
                · rw [if_neg q] at hv; omega
              · by_cases q : fo S2 ed (i + 1) (j + 1) + c < ol
                · rw [if_pos q] at hv; omega
                · rw [if_neg q] at hv; omega
            refine fin S3 _ (by rw [e3]; exact hk2.st rfl) (fun a b a0 a1 => fo_tt (by omega) e3 a0 a1) ((tt_st (by omega) e3 (by omega)).1 rfl rfl) ?_ (fun a b a0 a1 b0 b1 h => ?_) (fun a b h a1 b0 b1 e1 e2 => ?_)
            · rw [z, z2]; exact cell _ rfl
            · rw [(tt_st (by omega) e3 a0).2 (fun q => h (by rw [q.1, q.2]; exact ⟨z, z2⟩))]; exact hs2 a b a0 a1 b0 b1 h
            · by_cases q : a = i ∧ b = j
              · rw [(tt_st (by omega) e3 (by omega)).1 q.1 q.2, q.1, q.2]; exact cell _ rfl
              · rw [(tt_st (by omega) e3 (by omega)).2 q]; exact hd2 a b (by omega) a1 b0 b1 e1 e2
          refine s_Se_haveSameContent W2 (by omega) (by omega) (by omega) (by omega) (fun h1 h2 => ⟨by unfold inR; omega, fun w => by omega, fun _ => tree 0 (by unfold chT; rw [if_pos ⟨h1, h2⟩])⟩) (fun h => ⟨by unfold inR; omega, fun _ => tree 1 (by unfold chT; rw [if_neg h]), fun w => absurd rfl w⟩)
      rw [hjj]
      exact ⟨_, row (te t1 y - y).toNat (te t1 y - 1) S1 (by omega) (by omega) (by omega) hk (fun a b a0 a1 b0 b1 h => hF a b a0 a1 b0 b1 (by omega)) hs (fun a b h a1 b0 b1 => hd a b (by omega) a1 b0 b1)⟩
  have last : ∀ (f : Nat) (j : Int) (S1 : QMem), y - 1 ≤ j → j + 1 = y + f → j ≤ te t1 y → Kp (Ped ed) S S1 →
      (∀ a, x ≤ a → a ≤ te t0 x → fo S1 ed a (te t1 y) = te t0 x - a) → (∀ b, j < b → b ≤ te t1 y → fo S1 ed (te t0 x) b = te t1 y - b) → (∀ a b, 0 ≤ a → tt S1 ed a b = tt S ed a b) → w_ED_compareSubtrees_55 Λ Q (f + 1) ed se x y (te t0 x) (te t1 y) j S1 := by
    intro f
    induction f with
    | zero =>
      intro j S1 j0 hj j1 hk hc hr hs
      rw [w_ED_compareSubtrees_55]
      refine ⟨by unfold inR; omega, by unfold inR; omega, fun _ => ?_, fun z => by omega⟩
      intro ii hii
      rw [hii]
      refine ⟨_, main (te t0 x - x).toNat (te t0 x - 1) S1 (by omega) (by omega) (by omega) hk (fun a b a0 a1 b0 b1 h => ?_) (fun a b a0 _ _ _ _ => hs a b a0) (fun a b h h2 => by omega)⟩
      by_cases q : b = te t1 y
      · rw [q, hc a a0 a1]; exact isD_b1 rfl a1
      · have qa : a = te t0 x := by omega
        rw [qa, hr b (by omega) b1]; exact isD_b0 rfl b1
    | succ f ih =>
      intro j S1 j0 hj j1 hk hc hr hs
      rw [w_ED_compareSubtrees_55]
      refine ⟨by unfold inR; omega, by unfold inR; omega, fun z => by omega, fun _ => ⟨by omega, by omega, ?_⟩⟩
      intro S2 e2
      refine ih (j + (-1)) S2 (by omega) (by omega) (by omega) (by rw [e2]; exact hk.st rfl) (fun a a0 a1 => ?_) (fun b b0 b1 => ?_) (fun a b a0 => by rw [tt_fo (by omega) (by omega) e2 a0]; exact hs a b a0)
      · have st := fo_st (i := te t0 x) (j := j) (by omega) e2 (a := a) (b := te t1 y) (by omega)
        by_cases q : a = te t0 x ∧ te t1 y = j
        · rw [st.1 q.1 q.2]; omega
        · rw [st.2 q]; exact hc a a0 a1
      · have st := fo_st (i := te t0 x) (j := j) (by omega) e2 (a := te t0 x) (b := b) (by omega)
        by_cases q : b = j
        · rw [st.1 rfl q]; omega
        · rw [st.2 (fun w => q w.2)]; exact hr b (by omega) b1
  have first : ∀ (f : Nat) (i : Int) (S1 : QMem), x - 1 ≤ i → i + 1 = x + f → i ≤ te t0 x → Kp (Ped ed) S S1 →
      (∀ a, i < a → a ≤ te t0 x → fo S1 ed a (te t1 y) = te t0 x - a) → (∀ a b, 0 ≤ a → tt S1 ed a b = tt S ed a b) → w_ED_compareSubtrees_24 Λ Q (f + 1) ed se x y (te t0 x) (te t1 y) i S1 := by
    intro f
    induction f with
    | zero =>
      intro i S1 i0 hi i1 hk hc hs
      rw [w_ED_compareSubtrees_24]
      refine ⟨by unfold inR; omega, by unfold inR; omega, fun _ => ⟨_, last (te t1 y + 1 - y).toNat (te t1 y) S1 (by omega) (by omega) (by omega) hk (fun a a0 a1 => hc a (by omega) a1) (fun b b0 b1 => by omega) hs⟩, fun z => by omega⟩
    | succ f ih =>
      intro i S1 i0 hi i1 hk hc hs
      rw [w_ED_compareSubtrees_24]
      refine ⟨by unfold inR; omega, by unfold inR; omega, fun z => by omega, fun _ => ⟨by omega, by omega, ?_⟩⟩
      intro S2 e2
      refine ih (i + (-1)) S2 (by omega) (by omega) (by omega) (by rw [e2]; exact hk.st rfl) (fun a a0 a1 => ?_) (fun a b a0 => by rw [tt_fo (by omega) (by omega) e2 a0]; exact hs a b a0)
      have st := fo_st (i := i) (j := te t1 y) (by omega) e2 (a := a) (b := te t1 y) (by omega)
      by_cases q : a = i
      · rw [st.1 q rfl]; omega
      · rw [st.2 (fun w => q w.1)]; exact hc a (by omega) a1
  have ex' : en (tn t0) (tp t0) x = te t0 x := rfl
  have ey' : en (tn t1) (tp t1) y = te t1 y := rfl
  rw [ex', ey']
  exact ⟨_, first (te t0 x + 1 - x).toNat (te t0 x) S (by omega) (by omega) (by omega) Kp.rf (fun a a0 a1 => by omega) (fun _ _ _ => rfl)⟩
theorem s_ED_isKey {Λ : QLay} {a : Nat} {x : Int} {S : QMem} {Q : Int → QMem → Prop} {t : TT} (hT : cT S a t) (hw : wfT t) (x0 : 0 ≤ x) (x1 : x < tn t) (h1 : ky (fT t) x → Q 1 S) (h0 : ¬ ky (fT t) x → Q 0 S) : w_ED_isKey Λ a x S Q := by
  have n := tn_rng hw
  have pr := tp_rng hw x0 x1
  have ex := te_rng x1
  unfold w_ED_isKey
  rw [(hT.2.1 x x0 x1).2.2.1]
  refine ⟨by omega, ?_⟩
  intro p hp
  rw [hp]
  refine ⟨by unfold inR; omega, fun z => h1 (fun w w0 w1 => ?_), fun z => ?_⟩
  · have := pr.2.2.1
    omega
  · have ep := te_rng (t := t) (k := tp t x) (by omega)
    refine s_Tr_endOf hT hw.1 ⟨by omega, by omega⟩ ?_
    refine s_Tr_endOf hT hw.1 ⟨by omega, x1⟩ ?_
    rw [if_neg z, if_neg (by omega)]
    have e1 : en (tn t) (tp t) (tp t x) = te t (tp t x) := rfl
    have e2 : en (tn t) (tp t) x = te t x := rfl
    rw [e1, e2]
    have hx1 : 1 ≤ x := by
      by_cases q : x = 0
      · have := pr.2.2.2 q; omega
      · omega
    have le := en_le hw.1 hx1 x1
    have le1 : x < te t (tp t x) := le.1
    have le2 : te t x ≤ te t (tp t x) := le.2
    refine ⟨by unfold inR; omega, by unfold inR; omega, fun w => h0 (fun k => k (tp t x) (by omega) (by omega) w), fun w => h1 (fun y y0 y1 e => ?_)⟩
    have e' : te t y = te t x := e
    -- y is above x, so above x's parent too
    obtain ⟨a1, a2, a3, a4⟩ := en_ok (n := tn t) (pa := tp t) (k := y) (by omega)
    have := a3 x y1 (by show x < te t y; omega)
    have := (fT_ok hw y y0 (by show y < tn t; omega)).2.2 (tp t x) this (by show tp t x < te t y; omega)
    have this : te t (tp t x) ≤ te t y := this
    omega
theorem s_ED_compute {Λ : QLay} {ed se : Nat} {S : QMem} {Q : Int → QMem → Prop} {t0 t1 : TT} (hW : WC se S t0 t1) (n0 : S.2 se 0 ≠ ed) (n1 : S.2 se 1 ≠ ed) (hq : ∀ d S', Kp (Ped ed) S S' → isDist t0 t1 d → Q d S') : w_ED_compute Λ ed se S Q := by
  have hWW := hW
  obtain ⟨c0, c1, w0, w1⟩ := hW
  have m0 := tn_rng w0
  have m1 := tn_rng w1
  have kW : ∀ {S'}, Kp (Ped ed) S S' → WC se S' t0 t1 ∧ S'.2 se 0 ≠ ed ∧ S'.2 se 1 ≠ ed := fun hk => ⟨WC_kp hk (fun _ => n0) (fun _ => n1) hWW, by rw [hk.1]; exact n0, by rw [hk.1]; exact n1⟩
  unfold w_ED_compute
  intro a ha x hx
  rw [ha, c0.1] at hx
  rw [hx]
  have key : ∀ (f : Nat) (x : Int) (S1 : QMem), -1 ≤ x → x + 1 = f → x < tn t0 → Kp (Ped ed) S S1 → TI (fT t0) (fT t1) (wT t0 t1) (tt S1 ed) x (tn t1) → w_ED_compute_10 Λ Q (f + 1) ed se x S1 := by
    intro f
    induction f with
    | zero =>
      intro x S1 a0 a1 a2 hk hT
      rw [w_ED_compute_10]
      refine ⟨by unfold inR; omega, fun _ => hq _ S1 hk ?_, fun z => by omega⟩
      have h := hT 0 0 0 0 (by omega) (by show 0 < tn t0; omega) (by omega) (by show 0 < tn t1; omega) ⟨by omega, by omega, rfl, fun z z0 z1 => by omega⟩ ⟨by omega, by omega, rfl, fun z z0 z1 => by omega⟩ (by omega)
      have e0 : (fT t0).2 0 = tn t0 := te_0 w0
      have e1 : (fT t1).2 0 = tn t1 := te_0 w1
      rw [e0, e1] at h
      exact h
    | succ f ih =>
      intro x S1 a0 a1 a2 hk hT
      rw [w_ED_compute_10]
      refine ⟨by unfold inR; omega, fun z => by omega, fun _ => ?_⟩
      intro b hb y hy
      rw [hb, (kW hk).1.2.1.1] at hy
      rw [hy]
      have inner : ∀ (g : Nat) (y : Int) (S2 : QMem), -1 ≤ y → y + 1 = g → y < tn t1 → Kp (Ped ed) S S2 → TI (fT t0) (fT t1) (wT t0 t1) (tt S2 ed) x y → w_ED_compute_24 Λ (fun v0' v1' v2' S' => w_ED_compute_10 Λ Q (f + 1) v0' v1' v2' S') Q (g + 1) ed se x y S2 := by
        intro g
        induction g with
        | zero =>
          intro y S2 b0 b1 b2 hk2 hT2
          rw [w_ED_compute_24]
          refine ⟨by unfold inR; omega, fun _ => ih (x + (-1)) S2 (by omega) (by omega) (by omega) hk2 (fun i j x' y' i0 i1 j0 j1 k1 k2 h => hT2 i j x' y' i0 i1 j0 j1 k1 k2 ?_), fun z => by omega⟩
          have j1 : j < tn t1 := j1
          have := k2.1
          have := k2.2.1
          omega
        | succ g ihg =>
          intro y S2 b0 b1 b2 hk2 hT2
          obtain ⟨W2, d0, d1⟩ := kW hk2
          have skip : ¬ (ky (fT t0) x ∧ ky (fT t1) y) → w_ED_compute_24 Λ (fun v0' v1' v2' S' => w_ED_compute_10 Λ Q (f + 1) v0' v1' v2' S') Q (g + 1) ed se x (y + (-1)) S2 := fun hn => by
            refine ihg (y + (-1)) S2 (by omega) (by omega) (by omega) hk2 (fun i j x' y' i0 i1 j0 j1 k1 k2 h => hT2 i j x' y' i0 i1 j0 j1 k1 k2 ?_)
            by_cases q : x = x' ∧ y = y'
            · exact absurd ⟨by rw [q.1]; exact k1.2.2.2, by rw [q.2]; exact k2.2.2.2⟩ hn
            · omega
          rw [w_ED_compute_24]
          refine ⟨by unfold inR; omega, fun z => by omega, fun _ => ?_⟩
          intro a2 ha2
          rw [ha2]
          refine s_ED_isKey W2.1 w0 (by omega) (by omega) (fun hkx => ⟨by unfold inR; omega, fun z => by omega, fun _ => ?_⟩) (fun hkx => ⟨by unfold inR; omega, fun _ => skip (fun z => hkx z.1), fun z => absurd rfl z⟩)
          intro b2 hb2
          rw [hb2]
          refine s_ED_isKey W2.2.1 w1 (by omega) (by omega) (fun hky => ⟨by unfold inR; omega, fun z => by omega, fun _ => ?_⟩) (fun hky => ⟨by unfold inR; omega, fun _ => skip (fun z => hky z.2), fun z => absurd rfl z⟩)
          refine s_ED_compare W2 d0 d1 (by omega) (by omega) (by omega) (by omega) hkx hky hT2 (fun S3 hk3 hT3 => ihg (y + (-1)) S3 (by omega) (by omega) (by omega) (hk2.tr hk3) hT3)
      refine ⟨_, inner (tn t1).toNat (tn t1 - 1) S1 (by omega) (by omega) (by omega) hk (fun i j x' y' i0 i1 j0 j1 k1 k2 h => hT i j x' y' i0 i1 j0 j1 k1 k2 ?_)⟩
      have j1 : j < tn t1 := j1
      have := k2.2.1
      omega
  refine ⟨_, key (tn t0).toNat (tn t0 - 1) S (by omega) (by omega) (by omega) Kp.rf (fun i j x' y' i0 i1 j0 j1 k1 k2 h => ?_)⟩
  have i1 : i < tn t0 := i1
  have j1 : j < tn t1 := j1
  have := k1.2.1
  have := k2.2.1
  omega
