/-! the class's matching, whole -/
def GM (t0 t1 : TT) (h : Int) (P : MM) : Prop := MOK t0 t1 P ∧ EH t0 h (q0 P) ∧ EH t1 h (q1 P)
theorem GM_le {t0 t1 : TT} {h h' : Int} {P : MM} (hG : GM t0 t1 h P) (hl : h' ≤ h) : GM t0 t1 h' P :=
  ⟨hG.1, fun a d z1 z2 z3 z4 z5 z6 => by have := hG.2.1 a d z1 z2 z3 z4 z5 z6; omega, fun a d z1 z2 z3 z4 z5 z6 => by have := hG.2.2 a d z1 z2 z3 z4 z5 z6; omega⟩
theorem GM_0 {t0 t1 : TT} {h : Int} : GM t0 t1 h M0 := ⟨M0_ok, fun a d _ _ _ _ _ z => absurd rfl z, fun a d _ _ _ _ _ z => absurd rfl z⟩
theorem bB_cases {t0 t1 : TT} {h : Int} {P : MM} {b : Int × Int} (hb : isB t0 t1 h P (tn t0) 0 b) : (b.1 < 0 ∧ ∀ x y, ¬ el t0 t1 h P x y) ∨ (0 ≤ b.1 ∧ el t0 t1 h P b.1 b.2) := by
  rcases hb with z | z
  · exact Or.inl ⟨by omega, fun x y e => z.2.2 x y (Or.inl e.1.2) e⟩
  · exact Or.inr ⟨z.1.1.1, z.1⟩
theorem dnF_0 {t0 t1 : TT} {h : Int} {P : MM} (f : Nat) (hb : isB t0 t1 h P (tn t0) 0 (-1, -1)) : dnF t0 t1 h f P = P := by
  cases f with
  | zero => rfl
  | succ f => unfold dnF; rw [bB_eq hb]; exact if_pos (by decide)
theorem dnF_s {t0 t1 : TT} {h : Int} {P : MM} {x y : Int} (f : Nat) (hb : isB t0 t1 h P (tn t0) 0 (x, y)) (he : el t0 t1 h P x y) : dnF t0 t1 h (f + 1) P = dnF t0 t1 h f (jT t0 t1 P x y) := by
  show (if (bB t0 t1 h P).1 < 0 then P else dnF t0 t1 h f (jT t0 t1 P (bB t0 t1 h P).1 (bB t0 t1 h P).2)) = _
  rw [bB_eq hb]
  exact if_neg (by have := he.1.1; show ¬ x < 0; omega)
theorem te_0 {t : TT} (h : wfT t) : te t 0 = tn t := by
  have h1 := tn_rng h
  obtain ⟨a1, a2, a3, a4⟩ := en_ok (n := tn t) (pa := tp t) (k := 0) (by omega)
  rcases a4 with z | z
  · exact z
  · by_cases q : te t 0 = tn t
    · exact q
    · have a2' : te t 0 ≤ tn t := a2
      have a1' : 0 < te t 0 := a1
      have z' : tp t (te t 0) < 0 := z
      have := (tp_rng h (k := te t 0) (by omega) (by omega)).2.2.1 (by omega)
      omega
theorem th_root {t : TT} (h : wfT t) {x : Int} (x0 : 0 ≤ x) (x1 : x < tn t) : th t x ≤ th t 0 := by
  by_cases q : x = 0
  · rw [q]; exact Int.le_refl _
  · have h1 := tn_rng h
    have := th_up h (a := 0) (by omega) (by omega) (x.toNat + 1) x (by omega) (by omega) (by rw [te_0 h]; exact x1)
    omega
/-- there is a best pair or none -/
theorem isB_ex (t0 t1 : TT) (h : Int) (P : MM) : ∃ b, isB t0 t1 h P (tn t0) 0 b := by
  have row : ∀ (g : Nat) (x y : Int) (b : Int × Int), tn t1 - y ≤ g → isB t0 t1 h P x y b → ∃ b', isB t0 t1 h P (x + 1) 0 b' := by
    intro g
    induction g with
    | zero => intro x y b hy hb; exact ⟨b, isB_row hb (fun y' hy' e => by have := e.2.1.2; omega)⟩
    | succ g ih =>
      intro x y b hy hb
      by_cases he : el t0 t1 h P x y
      · by_cases q : b.1 = -1 ∨ nr t0 t1 b.1 b.2 < nr t0 t1 x y
        · exact ih x (y + 1) (x, y) (by omega) (isB_take hb he q)
        · exact ih x (y + 1) b (by omega) (isB_keep hb he (by omega) (by omega))
      · exact ih x (y + 1) b (by omega) (isB_skip hb he)
  have all : ∀ (f : Nat) (x : Int) (b : Int × Int), tn t0 - x = f → isB t0 t1 h P x 0 b → ∃ b', isB t0 t1 h P (tn t0) 0 b' := by
    intro f
    induction f with
    | zero => intro x b hx hb; rw [show tn t0 = x by omega]; exact ⟨b, hb⟩
    | succ f ih =>
      intro x b hx hb
      obtain ⟨b', hb'⟩ := row (tn t1).toNat x 0 b (by omega) hb
      exact ih (x + 1) b' (by omega) hb'
  by_cases q : 0 ≤ tn t0
  · exact all (tn t0).toNat 0 (-1, -1) (by omega) isB_0
  · exact ⟨(-1, -1), Or.inl ⟨rfl, rfl, fun x' y' _ e => by have := e.1; omega⟩⟩
theorem isB_split (t0 t1 : TT) (h : Int) (P : MM) : isB t0 t1 h P (tn t0) 0 (-1, -1) ∨ ∃ x y, isB t0 t1 h P (tn t0) 0 (x, y) ∧ el t0 t1 h P x y := by
  obtain ⟨b, hb⟩ := isB_ex t0 t1 h P
  rcases hb with z | z
  · exact Or.inl (Or.inl ⟨rfl, rfl, z.2.2⟩)
  · exact Or.inr ⟨b.1, b.2, Or.inr z, z.1⟩
theorem dnF_ok {t0 t1 : TT} (h0 : wfT t0) (h1 : wfT t1) {h : Int} : ∀ (f : Nat) (P : MM), GM t0 t1 h P → GM t0 t1 h (dnF t0 t1 h f P)
  | 0, P, hG => hG
  | f + 1, P, hG => by
    rcases isB_split t0 t1 h P with z | ⟨x, y, z, e⟩
    · rw [dnF_0 _ z]; exact hG
    · rw [dnF_s f z e]
      exact dnF_ok h0 h1 f _ (jT_ok h0 h1 hG.1 hG.2.1 hG.2.2 e)
theorem hsF_ok {t0 t1 : TT} (h0 : wfT t0) (h1 : wfT t1) : ∀ (k : Nat) (h : Int) (P : MM), GM t0 t1 h P → MOK t0 t1 (hsF t0 t1 k h P)
  | 0, h, P, hG => hG.1
  | k + 1, h, P, hG => hsF_ok h0 h1 k (h - 1) _ (GM_le (dnF_ok h0 h1 24 P hG) (by omega))
theorem s_Ma_rounds {Λ : QLay} {ma se : Nat} {h : Int} {S : QMem} {Q : QMem → Prop} {K : Nat → Nat → Int → QMem → Prop} {t0 t1 : TT} (hW : WC se S t0 t1) (n0 : S.2 se 0 ≠ ma) (n1 : S.2 se 1 ≠ ma) (hh : 0 ≤ h ∧ h ≤ 24) :
    ∀ (f n : Nat) (i : Int) (P : MM) (S1 : QMem), 0 ≤ i → i + f = 24 → f < n → GM t0 t1 h P → CM S1 ma t0 P → Kp (Pma ma) S S1 → (∀ S2, Kp (Pma ma) S S2 → CM S2 ma t0 (dnF t0 t1 h f P) → K ma se (h + (-1)) S2) → w_Ma_pairEqualSubtrees_38 Λ K Q n ma se h 1 i S1
  | f, 0, i, P, S1, a0, a1, a2, _, _, _, _ => by omega
  | 0, n + 1, i, P, S1, a0, a1, a2, hG, hC, hk, hq => by
    rw [w_Ma_pairEqualSubtrees_38]
    exact ⟨by unfold inR; omega, fun _ => hq S1 hk hC, fun z => by omega⟩
  | f + 1, n + 1, i, P, S1, a0, a1, a2, hG, hC, hk, hq => by
    rw [w_Ma_pairEqualSubtrees_38]
    refine ⟨by unfold inR; omega, fun z => by omega, fun _ => ⟨by unfold inR; omega, fun z => by omega, fun _ => ?_⟩⟩
    have hW1 : WC se S1 t0 t1 := WC_kp hk (fun _ => n0) (fun _ => n1) hW
    refine s_Ma_pairNearest hW1 (by rw [hk.1]; exact n0) (by rw [hk.1]; exact n1) hh hC hG.1 hG.2.1 hG.2.2 (fun hb => ?_) (fun x y hb he S2 hk2 hC2 => ?_)
    · have e := dnF_0 (f + 1) hb
      cases n with
      | zero => omega
      | succ n =>
        rw [w_Ma_pairEqualSubtrees_38]
        exact ⟨by unfold inR; omega, fun _ => hq S1 hk (by rw [e]; exact hC), fun _ => ⟨by unfold inR; omega, fun _ => hq S1 hk (by rw [e]; exact hC), fun z => absurd rfl z⟩⟩
    · refine s_Ma_rounds hW n0 n1 hh f n (i + 1) (jT t0 t1 P x y) S2 (by omega) (by omega) (by omega) (jT_ok hW.2.2.1 hW.2.2.2 hG.1 hG.2.1 hG.2.2 he) hC2 (hk.tr hk2) (fun S3 hk3 hC3 => hq S3 hk3 ?_)
      rw [dnF_s f hb he]
      exact hC3
theorem s_Ma_pairEqualSubtrees {Λ : QLay} {ma se : Nat} {least : Int} {S : QMem} {Q : QMem → Prop} {t0 t1 : TT} {P : MM} (hW : WC se S t0 t1) (n0 : S.2 se 0 ≠ ma) (n1 : S.2 se 1 ≠ ma) (n2 : se ≠ ma) (hl : S.1 se 2 0 = least) (hl2 : 1 ≤ least ∧ least ≤ 9) (hC : CM S ma t0 P) (hG : GM t0 t1 24 P)
    (hq : ∀ S', Kp (Pma ma) S S' → CM S' ma t0 (hsF t0 t1 (25 - least).toNat 24 P) → Q S') : w_Ma_pairEqualSubtrees Λ ma se S Q := by
  obtain ⟨c0, c1, w0, w1⟩ := hW
  have m0 := tn_rng w0
  have m1 := tn_rng w1
  have k0 := th_rng w0 0
  have k1 := th_rng w1 0
  unfold w_Ma_pairEqualSubtrees
  intro a ha b hb
  have e0 : S.1 a 8 0 = th t0 0 := by rw [ha]; exact (c0.2.1 0 (by omega) (by omega)).2.2.2.2.2.2.2
  have e1 : S.1 b 8 0 = th t1 0 := by rw [hb]; exact (c1.2.1 0 (by omega) (by omega)).2.2.2.2.2.2.2
  rw [e0, e1]
  refine ⟨by unfold inR; omega, by unfold inR; omega, ?_⟩
  intro H hH
  have hHr : 1 ≤ H ∧ H ≤ 24 := by rw [hH]; split <;> omega
  have hHm : ∀ x y, 0 ≤ x → x < tn t0 → 0 ≤ y → y < tn t1 → eqT t0 t1 x y → th t0 x ≤ H := fun x y x0 x1 y0 y1 e => by
    have z0 := th_root w0 x0 x1
    have z1 := th_root w1 y0 y1
    have ex := te_rng x1
    have z2 := eq_ht w0 w1 x0 x1 y0 y1 e (te t0 x - x + 1).toNat 0 (by omega) (by omega) (by omega)
    rw [Int.add_zero, Int.add_zero] at z2
    rw [hH]
    split <;> omega
  have loop : ∀ (k n : Nat) (h : Int) (P : MM) (S1 : QMem), (h - least + 1 = k ∨ (h - least + 1 ≤ 0 ∧ k = 0)) → h ≤ 24 → 0 ≤ h → k < n → GM t0 t1 h P → CM S1 ma t0 P → Kp (Pma ma) S S1 → (∀ S2, Kp (Pma ma) S S2 → CM S2 ma t0 (hsF t0 t1 k h P) → Q S2) → w_Ma_pairEqualSubtrees_24 Λ Q n ma se h S1 := by
    intro k
    induction k with
    | zero =>
      intro n h P S1 a1 a2 a3 a4 hG hC hk hq
      cases n with
      | zero => omega
      | succ n =>
        rw [w_Ma_pairEqualSubtrees_24, hk.at (f := 2) n2, hl]
        exact ⟨by unfold inR; omega, by unfold inR; omega, fun _ => hq S1 hk hC, fun z => by omega⟩
    | succ k ih =>
      intro n h P S1 a1 a2 a3 a4 hG hC hk hq
      cases n with
      | zero => omega
      | succ n =>
        rw [w_Ma_pairEqualSubtrees_24, hk.at (f := 2) n2, hl]
        refine ⟨by unfold inR; omega, by unfold inR; omega, fun z => by omega, fun _ => ⟨25, ?_⟩⟩
        refine s_Ma_rounds ⟨c0, c1, w0, w1⟩ n0 n1 ⟨a3, a2⟩ 24 25 0 P S1 (by omega) (by omega) (by omega) hG hC hk (fun S2 hk2 hC2 => ?_)
        refine ih n (h + (-1)) _ S2 (by omega) (by omega) (by omega) (by omega) (GM_le (dnF_ok w0 w1 24 P hG) (by omega)) hC2 hk2 (fun S3 hk3 hC3 => hq S3 hk3 ?_)
        exact hC3
  have GH : GM t0 t1 H P := GM_le hG (by omega)
  by_cases q : least ≤ H
  · refine ⟨(H - least + 1).toNat + 1, loop (H - least + 1).toNat _ H P S (by omega) (by omega) (by omega) (by omega) GH hC Kp.rf (fun S2 hk2 hC2 => hq S2 hk2 ?_)⟩
    have := hsF_skip w0 w1 (P := P) hHm (24 - H).toNat (H - least + 1).toNat
    rw [show (24 - H).toNat + (H - least + 1).toNat = (25 - least).toNat by omega, show H + ((24 - H).toNat : Int) = 24 by omega] at this
    rw [this]
    exact hC2
  · refine ⟨1, loop 0 _ H P S (by omega) (by omega) (by omega) (by omega) GH hC Kp.rf (fun S2 hk2 hC2 => hq S2 hk2 ?_)⟩
    have := hsF_skip w0 w1 (P := P) (H := least - 1) (fun x y a b c d e => by have := hHm x y a b c d e; omega) (25 - least).toNat 0
    rw [Nat.add_zero, show least - 1 + ((25 - least).toNat : Int) = 24 by omega] at this
    rw [this]
    exact hC2
theorem s_Ma_commonBelow {Λ : QLay} {ma se : Nat} {x y : Int} {S : QMem} {Q : Int → QMem → Prop} {t0 t1 : TT} {P : MM} (hW : WC se S t0 t1) (hC : CM S ma t0 P) (hP : MOK t0 t1 P) (x0 : 0 ≤ x) (x1 : x < tn t0) (y0 : 0 ≤ y) (y1 : y < tn t1) (hq : Q (cm t0 t1 P x y) S) : w_Ma_commonBelow Λ ma se x y S Q := by
  obtain ⟨c0, c1, w0, w1⟩ := hW
  have m0 := tn_rng w0
  have m1 := tn_rng w1
  have ex := te_rng x1
  have ey := te_rng y1
  unfold w_Ma_commonBelow
  intro a ha
  rw [ha]
  refine s_Tr_endOf c0 w0.1 ⟨by omega, x1⟩ ?_
  rw [if_neg (by omega)]
  intro b hb
  rw [hb]
  refine s_Tr_endOf c1 w1.1 ⟨by omega, y1⟩ ?_
  rw [if_neg (by omega)]
  intro i hi
  rw [hi]
  have key : ∀ (f k : Nat), (k : Int) + f = te t0 x - x - 1 → w_Ma_commonBelow_28 Λ Q (f + 1) ma y (cmF P x (te t1 y) y k) (te t0 x) (te t1 y) (x + 1 + (k : Int)) S := by
    intro f
    induction f with
    | zero =>
      intro k hk
      rw [w_Ma_commonBelow_28]
      refine ⟨by unfold inR; omega, by unfold inR; omega, fun _ => ?_, fun z => by omega⟩
      have e : cm t0 t1 P x y = cmF P x (te t1 y) y k := by unfold cm; rw [show (te t0 x - x - 1).toNat = k by omega]
      rw [← e]
      exact hq
    | succ f ih =>
      intro k hk
      rw [w_Ma_commonBelow_28]
      have hr := hP.1 (x + 1 + (k : Int)) (by omega) (by omega)
      have hs := ih (k + 1) (by omega)
      have e : cmF P x (te t1 y) y (k + 1) = cmF P x (te t1 y) y k + (if y < q0 P (x + 1 + (k : Int)) ∧ q0 P (x + 1 + (k : Int)) < te t1 y then 1 else 0) := rfl
      rw [e, show x + 1 + ((k + 1 : Nat) : Int) = x + 1 + (k : Int) + 1 by omega] at hs
      rw [(hC.1 (x + 1 + (k : Int)) (by omega) (by omega)).1]
      refine ⟨by unfold inR; omega, by unfold inR; omega, fun z => by omega, fun _ => ⟨by omega, by unfold inR; omega, by unfold inR; omega, fun z => ?_, fun z => ⟨by omega, by unfold inR; omega, by unfold inR; omega, fun z2 => ?_, fun z2 => ?_⟩⟩⟩
      · rw [if_neg (by omega), Int.add_zero] at hs; exact hs
      · rw [if_neg (by omega), Int.add_zero] at hs; exact hs
      · rw [if_pos (by omega)] at hs; exact hs
  have := key (te t0 x - x - 1).toNat 0 (by omega)
  rw [show x + 1 + ((0 : Nat) : Int) = x + 1 by omega] at this
  exact ⟨_, this⟩
theorem s_Ma_mostAlike {Λ : QLay} {ma se : Nat} {x : Int} {S : QMem} {Q : Int → QMem → Prop} {t0 t1 : TT} {P : MM} (hW : WC se S t0 t1) (hC : CM S ma t0 P) (hP : MOK t0 t1 P) (x0 : 0 ≤ x) (x1 : x < tn t0) (hq : Q (bu t0 t1 P x) S) : w_Ma_mostAlike Λ ma se x S Q := by
  have hWW := hW
  obtain ⟨c0, c1, w0, w1⟩ := hW
  have m0 := tn_rng w0
  have m1 := tn_rng w1
  unfold w_Ma_mostAlike
  have key : ∀ (f k : Nat) (v4 v5 : Int), (k : Int) + f = tn t1 → (buF t0 t1 P x k < 0 → v4 = 0 ∧ v5 = 1) → (0 ≤ buF t0 t1 P x k → v4 = cm t0 t1 P x (buF t0 t1 P x k) ∧ v5 = sm t0 t1 x (buF t0 t1 P x k)) → w_Ma_mostAlike_11 Λ Q (f + 1) ma se x (buF t0 t1 P x k) v4 v5 (k : Int) S := by
    intro f
    induction f with
    | zero =>
      intro k v4 v5 hk hn hp
      rw [w_Ma_mostAlike_11]
      intro b hb
      rw [hb, c1.1]
      refine ⟨by unfold inR; omega, by unfold inR; omega, fun _ => ?_, fun z => by omega⟩
      have e : bu t0 t1 P x = buF t0 t1 P x k := by unfold bu; rw [show (tn t1).toNat = k by omega]
      rw [← e]
      exact hq
    | succ f ih =>
      intro k v4 v5 hk hn hp
      rw [w_Ma_mostAlike_11]
      intro b hb
      rw [hb, c1.1]
      have hr := hP.2 (k : Int) (by omega) (by omega)
      have ihk := ih (k + 1)
      rw [show ((k + 1 : Nat) : Int) = (k : Int) + 1 by omega] at ihk
      refine ⟨by unfold inR; omega, by unfold inR; omega, fun z => by omega, fun _ => ⟨by omega, ?_⟩⟩
      rw [(hC.1 (k : Int) (by omega) (by omega)).2.1]
      refine ⟨by unfold inR; omega, fun z => ?_, fun z => ?_⟩
      · have e := buF_n (t0 := t0) (t1 := t1) (P := P) (x := x) (k := k) (fun w => z w.1.1)
        rw [e] at ihk
        exact ihk v4 v5 (by omega) hn hp
      · refine s_Se_haveSameLabel hWW x0 x1 (by omega) (by omega) (fun hl => ⟨by unfold inR; omega, fun _ => ?_, fun z => by omega⟩) (fun hl => ⟨by unfold inR; omega, fun z => absurd rfl z, fun _ => ?_⟩)
        · refine s_Ma_commonBelow hWW hC hP x0 x1 (by omega) (by omega) ?_
          intro a ha
          refine ⟨by omega, ?_⟩
          intro b2 hb2
          refine ⟨by omega, ?_⟩
          intro su hsu
          have es : su = sm t0 t1 x (k : Int) := by
            rw [hsu, ha, hb2, (c0.2.1 x x0 x1).2.2.2.2.2.2.1, (c1.2.1 (k : Int) (by omega) (by omega)).2.2.2.2.2.2.1]
            rfl
          rw [es]
          have rs := sm_rng (x := x) (y := (k : Int)) w0 w1 x0 x1 (by omega) (by omega)
          have rc := cm_rng (t1 := t1) (P := P) (y := (k : Int)) w0 x0 x1
          by_cases qb : buF t0 t1 P x k < 0
          · obtain ⟨e4, e5⟩ := hn qb
            rw [e4, e5, Int.mul_one, Int.zero_mul]
            refine ⟨by unfold inR; omega, by unfold inR; omega, fun w => ?_, fun w => ?_⟩
            · have e := buF_n (t0 := t0) (t1 := t1) (P := P) (x := x) (k := k) (fun w2 => by have := w2.1.2.2; omega)
              rw [e] at ihk
              exact ihk 0 1 (by omega) (fun _ => ⟨rfl, rfl⟩) (fun z => by omega)
            · have e := buF_y (t0 := t0) (t1 := t1) (P := P) (x := x) (k := k) ⟨⟨z, hl, by omega⟩, Or.inl qb⟩
              rw [e] at ihk
              exact ihk _ _ (by omega) (fun z => by omega) (fun _ => ⟨rfl, rfl⟩)
          · obtain ⟨e4, e5⟩ := hp (by omega)
            have hbk : buF t0 t1 P x k < tn t1 := by
              rcases buF_ok (t0 := t0) (t1 := t1) (P := P) (x := x) k with w | w <;> omega
            have rs2 := sm_rng (x := x) (y := buF t0 t1 P x k) w0 w1 x0 x1 (by omega) hbk
            have rc2 := cm_rng (t1 := t1) (P := P) (y := buF t0 t1 P x k) w0 x0 x1
            have g1 := mul_rng (a := cm t0 t1 P x (k : Int)) (b := v5) (by omega) (by omega) (by omega) (by omega)
            have g2 := mul_rng (a := v4) (b := sm t0 t1 x (k : Int)) (by omega) (by omega) (by omega) (by omega)
            refine ⟨by unfold inR; omega, by unfold inR; omega, fun w => ?_, fun w => ?_⟩
            · have e := buF_n (t0 := t0) (t1 := t1) (P := P) (x := x) (k := k) (fun w2 => by
                rcases w2.2 with w3 | w3
                · omega
                · rw [← e4, ← e5] at w3; omega)
              rw [e] at ihk
              exact ihk v4 v5 (by omega) (fun z => by omega) (fun _ => ⟨e4, e5⟩)
            · have hpos : 0 < cm t0 t1 P x (k : Int) := by
                by_cases w2 : cm t0 t1 P x (k : Int) = 0
                · rw [w2, Int.zero_mul] at w; omega
                · omega
              have e := buF_y (t0 := t0) (t1 := t1) (P := P) (x := x) (k := k) ⟨⟨z, hl, hpos⟩, Or.inr (by rw [← e4, ← e5]; omega)⟩
              rw [e] at ihk
              exact ihk _ _ (by omega) (fun z => by omega) (fun _ => ⟨rfl, rfl⟩)
        · have e := buF_n (t0 := t0) (t1 := t1) (P := P) (x := x) (k := k) (fun w => hl w.1.2.1)
          rw [e] at ihk
          exact ihk v4 v5 (by omega) hn hp
  have := key (tn t1).toNat 0 0 1 (by omega) (fun _ => ⟨rfl, rfl⟩) (fun z => by have z : (0 : Int) ≤ -1 := z; omega)
  exact ⟨_, this⟩
theorem bu_ok {t0 t1 : TT} (w1 : wfT t1) {P : MM} {x : Int} (h : ¬ bu t0 t1 P x < 0) : 0 ≤ bu t0 t1 P x ∧ bu t0 t1 P x < tn t1 ∧ q1 P (bu t0 t1 P x) = -1 := by
  have m1 := tn_rng w1
  rcases buF_ok (t0 := t0) (t1 := t1) (P := P) (x := x) (tn t1).toNat with w | w
  · have : bu t0 t1 P x = -1 := w
    omega
  · have w' : 0 ≤ bu t0 t1 P x ∧ bu t0 t1 P x < ((tn t1).toNat : Int) ∧ elU t0 t1 P x (bu t0 t1 P x) := w
    exact ⟨w'.1, by omega, w'.2.2.1⟩
theorem upS_ok {t0 t1 : TT} {P : MM} {x per : Int} (w1 : wfT t1) (hP : MOK t0 t1 P) (x0 : 0 ≤ x) (x1 : x < tn t0) : MOK t0 t1 (upS t0 t1 per P x) := by
  unfold upS
  by_cases q1 : ¬ q0 P x = -1 ∨ te t0 x - x - 1 = 0
  · rw [if_pos q1]; exact hP
  · rw [if_neg q1]
    by_cases q2 : bu t0 t1 P x < 0
    · rw [if_pos q2]; exact hP
    · rw [if_neg q2]
      by_cases q3 : 200 * cm t0 t1 P x (bu t0 t1 P x) < per * sm t0 t1 x (bu t0 t1 P x)
      · rw [if_pos q3]; exact hP
      · rw [if_neg q3]
        have hb := bu_ok w1 q2
        exact j1_ok hP x0 x1 hb.1 hb.2.1 (by omega) hb.2.2 (by omega)
theorem upR_ok {t0 t1 : TT} {per : Int} (w0 : wfT t0) (w1 : wfT t1) : ∀ (k : Nat) (i : Int) (P : MM), 0 ≤ i → i + k ≤ tn t0 → MOK t0 t1 P → MOK t0 t1 (upR t0 t1 per k i P)
  | 0, _, P, _, _, hP => hP
  | k + 1, i, P, a, b, hP => by
    have hn := nAt_ok w0 (i := i) a (by omega)
    exact upR_ok w0 w1 k (i + 1) _ (by omega) (by omega) (upS_ok w1 hP hn.1 hn.2.1)
theorem rtS_ok {t0 t1 : TT} {P : MM} (w0 : wfT t0) (w1 : wfT t1) (hP : MOK t0 t1 P) : MOK t0 t1 (rtS t0 t1 P) := by
  have m0 := tn_rng w0
  have m1 := tn_rng w1
  unfold rtS
  by_cases q : q0 P 0 = -1 ∧ q1 P 0 = -1 ∧ tl t0 0 = tl t1 0
  · rw [if_pos q]; exact j1_ok hP (by omega) (by omega) (by omega) (by omega) q.1 q.2.1 (by omega)
  · rw [if_neg q]; exact hP
theorem matF_ok {t0 t1 : TT} {least per : Int} (w0 : wfT t0) (w1 : wfT t1) : MOK t0 t1 (matF t0 t1 least per) := by
  have m0 := tn_rng w0
  exact rtS_ok w0 w1 (upR_ok w0 w1 _ 0 _ (by omega) (by omega) (hsF_ok w0 w1 _ 24 M0 GM_0))
theorem s_Ma_pairByDescendants {Λ : QLay} {ma se : Nat} {per : Int} {S : QMem} {Q : QMem → Prop} {t0 t1 : TT} {P : MM} (hW : WC se S t0 t1) (n0 : S.2 se 0 ≠ ma) (n1 : S.2 se 1 ≠ ma) (n2 : se ≠ ma) (hl : S.1 se 3 0 = per) (hl2 : 0 ≤ per ∧ per ≤ 100) (hC : CM S ma t0 P) (hP : MOK t0 t1 P)
    (hq : ∀ S', Kp (Pma ma) S S' → CM S' ma t0 (upR t0 t1 per (tn t0).toNat 0 P) → Q S') : w_Ma_pairByDescendants Λ ma se S Q := by
  obtain ⟨c0, c1, w0, w1⟩ := hW
  have m0 := tn_rng w0
  have m1 := tn_rng w1
  unfold w_Ma_pairByDescendants
  intro a ha
  have loop : ∀ (k : Nat) (i : Int) (P : MM) (S1 : QMem), 0 ≤ i → i + k = tn t0 → MOK t0 t1 P → CM S1 ma t0 P → Kp (Pma ma) S S1 → (∀ S2, Kp (Pma ma) S S2 → CM S2 ma t0 (upR t0 t1 per k i P) → Q S2) → w_Ma_pairByDescendants_7 Λ Q (k + 1) ma se a i S1 := by
    intro k
    induction k with
    | zero =>
      intro i P S1 i0 hi hP hC hk hq
      rw [w_Ma_pairByDescendants_7, hk.at (by rw [ha]; exact n0), ha, c0.1]
      exact ⟨by unfold inR; omega, by unfold inR; omega, fun _ => hq S1 hk hC, fun z => by omega⟩
    | succ k ih =>
      intro i P S1 i0 hi hP hC hk hq
      have hW1 : WC se S1 t0 t1 := WC_kp hk (fun _ => n0) (fun _ => n1) ⟨c0, c1, w0, w1⟩
      have hn := nAt_ok w0 (i := i) i0 (by omega)
      have step : ∀ S2, Kp (Pma ma) S S2 → CM S2 ma t0 (upS t0 t1 per P (nAt t0 i)) → w_Ma_pairByDescendants_7 Λ Q (k + 1) ma se a (i + 1) S2 := fun S2 hk2 hC2 =>
        ih (i + 1) _ S2 (by omega) (by omega) (upS_ok w1 hP hn.1 hn.2.1) hC2 hk2 (fun S3 hk3 hC3 => hq S3 hk3 hC3)
      rw [w_Ma_pairByDescendants_7, hk.at (o := a) (f := 0) (by rw [ha]; exact n0)]
      rw [show S.1 a 0 0 = tn t0 by rw [ha]; exact c0.1]
      refine ⟨by unfold inR; omega, by unfold inR; omega, fun z => by omega, fun _ => ⟨by omega, ?_⟩⟩
      intro x hx
      have ex : x = nAt t0 i := by
        rw [hx, hk.at (by rw [ha]; exact n0), ha]
        exact nAt_eq w0 i0 (by omega) c0.2.2
      rw [← ex] at hn step
      have hr := hP.1 x hn.1 hn.2.1
      have es : S1.1 a 7 x = te t0 x - x - 1 := by rw [hk.at (by rw [ha]; exact n0), ha]; exact (c0.2.1 x hn.1 hn.2.1).2.2.2.2.2.2.1
      have rx := te_rng hn.2.1
      rw [(hC.1 x hn.1 (by omega)).1, es]
      refine ⟨by omega, by unfold inR; omega, fun z => ?_, fun z => ⟨by omega, by unfold inR; omega, fun z2 => ?_, fun z2 => ?_⟩⟩
      · refine step S1 hk ?_
        unfold upS
        rw [if_pos (Or.inl z)]
        exact hC
      · have f1 : ¬ (¬ q0 P x = -1 ∨ te t0 x - x - 1 = 0) := by omega
        refine s_Ma_mostAlike hW1 hC hP hn.1 hn.2.1 ?_
        have rb : -1 ≤ bu t0 t1 P x ∧ bu t0 t1 P x ≤ 24 := by
          rcases buF_ok (t0 := t0) (t1 := t1) (P := P) (x := x) (tn t1).toNat with w | w
          · have : bu t0 t1 P x = -1 := w
            omega
          · have w' : 0 ≤ bu t0 t1 P x ∧ bu t0 t1 P x < ((tn t1).toNat : Int) := ⟨w.1, w.2.1⟩
            omega
        refine ⟨by unfold inR; omega, fun w => ?_, fun w => ?_⟩
        · refine step S1 hk ?_
          unfold upS
          rw [if_neg f1, if_pos (by omega)]
          exact hC
        · have hb := bu_ok w1 (t0 := t0) (P := P) (x := x) (by omega)
          have rs := sm_rng (x := x) (y := bu t0 t1 P x) w0 w1 hn.1 hn.2.1 hb.1 hb.2.1
          have rc := cm_rng (t1 := t1) (P := P) (y := bu t0 t1 P x) w0 hn.1 hn.2.1
          refine ⟨by omega, ?_⟩
          intro b hb2
          refine ⟨by omega, ?_⟩
          intro su hsu
          have esu : su = sm t0 t1 x (bu t0 t1 P x) := by
            rw [hsu, es, hb2, (hW1.2.1.2.1 (bu t0 t1 P x) hb.1 hb.2.1).2.2.2.2.2.2.1]
            rfl
          refine s_Ma_commonBelow hW1 hC hP hn.1 hn.2.1 hb.1 hb.2.1 ?_
          rw [hk.at (f := 3) n2, hl, esu]
          have g1 := mul_rng (a := per) (b := sm t0 t1 x (bu t0 t1 P x)) (by omega) (by omega) (by omega) (by omega)
          refine ⟨by unfold inR; omega, by unfold inR; omega, fun w2 => ?_, fun w2 => ?_⟩
          · refine step S1 hk ?_
            unfold upS
            rw [if_neg f1, if_neg (by omega), if_pos w2]
            exact hC
          · refine s_Ma_pair w0 w1 hC hn.1 hn.2.1 hb.1 hb.2.1 z (fun S2 hk2 hC2 => ?_)
            refine step S2 (hk.tr hk2) ?_
            unfold upS
            rw [if_neg f1, if_neg (by omega), if_neg w2]
            exact hC2
      · refine step S1 hk ?_
        unfold upS
        rw [if_pos (Or.inr z2)]
        exact hC
  exact ⟨_, loop (tn t0).toNat 0 P S (by omega) (by omega) hP hC Kp.rf hq⟩
theorem s_Ma_find {Λ : QLay} {ma se : Nat} {least per : Int} {S : QMem} {Q : QMem → Prop} {t0 t1 : TT} (hW : WC se S t0 t1) (n0 : S.2 se 0 ≠ ma) (n1 : S.2 se 1 ≠ ma) (n2 : se ≠ ma) (hl : S.1 se 2 0 = least) (hl2 : 1 ≤ least ∧ least ≤ 9) (hp : S.1 se 3 0 = per) (hp2 : 0 ≤ per ∧ per ≤ 100)
    (hq : ∀ S', Kp (Pma ma) S S' → CM S' ma t0 (matF t0 t1 least per) → Q S') : w_Ma_find Λ ma se S Q := by
  have hWW := hW
  obtain ⟨c0, c1, w0, w1⟩ := hW
  have m0 := tn_rng w0
  have m1 := tn_rng w1
  unfold w_Ma_find
  intro S2 e2
  refine ⟨25, ?_⟩
  have k2 : Kp (Pma ma) S S2 := by rw [e2]; exact Kp.rf.st rfl
  have main : ∀ (k : Nat) (i : Int) (S1 : QMem), 0 ≤ i → i + k = 24 → Kp (Pma ma) S S1 → S1.1 ma 0 0 = 0 → (∀ j, 0 ≤ j → j < i → S1.1 ma 1 j = -1 ∧ S1.1 ma 2 j = -1 ∧ S1.1 ma 3 j = -1) → w_Ma_find_7 Λ Q (k + 1) ma se i S1 := by
    intro k
    induction k with
    | zero =>
      intro i S1 i0 hi hk h0 hj
      rw [w_Ma_find_7]
      refine ⟨by unfold inR; omega, fun _ => ?_, fun z => by omega⟩
      have cu : ∀ n : Nat, cU (q0 M0) n = n := by
        intro n
        induction n with
        | zero => rfl
        | succ n ih => unfold cU; rw [ih]; exact congrArg (n + ·) (if_pos rfl)
      have hC : CM S1 ma t0 M0 := ⟨fun j j0 j1 => hj j j0 (by omega), by rw [h0, cu]; omega⟩
      have kat : ∀ S3, Kp (Pma ma) S S3 → WC se S3 t0 t1 ∧ S3.2 se 0 ≠ ma ∧ S3.2 se 1 ≠ ma ∧ S3.1 se 2 0 = least ∧ S3.1 se 3 0 = per := fun S3 hk3 => ⟨WC_kp hk3 (fun _ => n0) (fun _ => n1) hWW, by rw [hk3.1]; exact n0, by rw [hk3.1]; exact n1, by rw [hk3.at n2]; exact hl, by rw [hk3.at n2]; exact hp⟩
      obtain ⟨z1, z2, z3, z4, z5⟩ := kat S1 hk
      refine s_Ma_pairEqualSubtrees z1 z2 z3 n2 z4 hl2 hC GM_0 (fun S3 hk3 hC3 => ?_)
      obtain ⟨z1, z2, z3, z4, z5⟩ := kat S3 (hk.tr hk3)
      have ok3 := hsF_ok w0 w1 (25 - least).toNat 24 M0 GM_0
      refine s_Ma_pairByDescendants z1 z2 z3 n2 z5 hp2 hC3 ok3 (fun S4 hk4 hC4 => ?_)
      have k4 := (hk.tr hk3).tr hk4
      obtain ⟨z1, z2, z3, z4, z5⟩ := kat S4 k4
      have ok4 := upR_ok (per := per) w0 w1 (tn t0).toNat 0 _ (by omega) (by omega) ok3
      have r0 := ok4.1 0 (by omega) (by omega)
      have r1 := ok4.2 0 (by omega) (by omega)
      have fin : ∀ (b : Prop), ¬ (q0 (upR t0 t1 per (tn t0).toNat 0 (hsF t0 t1 (25 - least).toNat 24 M0)) 0 = -1 ∧ q1 (upR t0 t1 per (tn t0).toNat 0 (hsF t0 t1 (25 - least).toNat 24 M0)) 0 = -1 ∧ tl t0 0 = tl t1 0) → Q S4 := fun _ hn => by
        refine hq S4 k4 ?_
        unfold matF rtS
        rw [if_neg hn]
        exact hC4
      unfold w_Ma_pairRoots
      obtain ⟨y1, y2, y3⟩ := hC4.1 0 (by omega) (by omega)
      rw [y1, y2]
      refine ⟨by unfold inR; omega, fun z => ?_, fun z => ⟨by unfold inR; omega, fun w => ?_, fun w => ?_⟩⟩
      · unfold w_Ma_pairRoots_24 w_Ma_pairRoots_25
        exact ⟨by unfold inR; omega, fun _ => fin True (fun y => z y.1), fun y => absurd rfl y⟩
      · unfold w_Ma_pairRoots_24 w_Ma_pairRoots_25
        exact ⟨by unfold inR; omega, fun _ => fin True (fun y => w y.2.1), fun y => absurd rfl y⟩
      · unfold w_Ma_pairRoots_25
        refine ⟨by unfold inR; omega, fun y => by omega, fun _ => ?_⟩
        refine s_Se_haveSameLabel z1 (by omega) (by omega) (by omega) (by omega) (fun hl => ⟨by unfold inR; omega, fun y => by omega, fun _ => ?_⟩) (fun hl => ⟨by unfold inR; omega, fun _ => fin True (fun y => hl y.2.2), fun y => absurd rfl y⟩)
        refine s_Ma_pair w0 w1 hC4 (by omega) (by omega) (by omega) (by omega) z (fun S5 hk5 hC5 => hq S5 (k4.tr hk5) ?_)
        unfold matF rtS
        rw [if_pos ⟨z, w, hl⟩]
        exact hC5
    | succ k ih =>
      intro i S1 i0 hi hk h0 hj
      rw [w_Ma_find_7]
      refine ⟨by unfold inR; omega, fun z => by omega, fun _ => ⟨by omega, ?_⟩⟩
      intro A eA
      refine ⟨by omega, ?_⟩
      intro B eB
      refine ⟨by omega, ?_⟩
      intro C eC
      refine ih (i + 1) C (by omega) (by omega) (by rw [eC, eB, eA]; exact ((hk.st rfl).st rfl).st rfl) (by rw [eC, eB, eA]; simp [q_st, h0]) (fun j j0 j1 => ?_)
      by_cases q : j = i
      · rw [eC, eB, eA, q]; simp [q_st]
      · have := hj j j0 (by omega)
        rw [eC, eB, eA]; simp [q_st, q, this.1, this.2.1, this.2.2]
  exact main 24 0 S2 (by omega) (by omega) k2 (by rw [e2]; exact q_st_eq ..) (fun j a b => by omega)
