/-! the class's script -/
def CS (S : QMem) (o : Nat) (s : ST) : Prop := (S.1 o 0 0 = sk s ∧ S.1 o 1 0 = sr s) ∧ (sk s = 1 ∨ sk s = 2 → S.1 o 2 0 = su s ∧ S.1 o 3 0 = sp s) ∧ (sk s = 1 → S.1 o 4 0 = sl s) ∧ (sk s = 0 ∨ sk s = 1 → S.1 o 5 0 = sv s) ∧ (sk s = 2 ∨ sk s = 3 → S.1 o 6 0 = ou s ∧ S.1 o 7 0 = op s) ∧ (sk s = 0 → S.1 o 8 0 = ov s)
theorem CS_kp {P : Nat → Nat → Prop} {S S' : QMem} {o : Nat} {s : ST} (hk : Kp P S S') (hn : ∀ f, ¬ P o f) (h : CS S o s) : CS S' o s := by
  unfold CS
  rw [hk.at (hn 0), hk.at (hn 1), hk.at (hn 2), hk.at (hn 3), hk.at (hn 4), hk.at (hn 5), hk.at (hn 6), hk.at (hn 7), hk.at (hn 8)]
  exact h
theorem CS_0 {S : QMem} {o : Nat} {r u p l v a b w : Int} (h0 : S.1 o 0 0 = 0) (h1 : S.1 o 1 0 = r) (h5 : S.1 o 5 0 = v) (h8 : S.1 o 8 0 = w) : CS S o (0, r, u, p, l, v, a, b, w) := ⟨⟨h0, h1⟩, fun z => by have z : (0 : Int) = 1 ∨ (0 : Int) = 2 := z; omega, fun z => by have z : (0 : Int) = 1 := z; omega, fun _ => h5, fun z => by have z : (0 : Int) = 2 ∨ (0 : Int) = 3 := z; omega, fun _ => h8⟩
theorem CS_1 {S : QMem} {o : Nat} {r u p l v a b w : Int} (h0 : S.1 o 0 0 = 1) (h1 : S.1 o 1 0 = r) (h2 : S.1 o 2 0 = u) (h3 : S.1 o 3 0 = p) (h4 : S.1 o 4 0 = l) (h5 : S.1 o 5 0 = v) : CS S o (1, r, u, p, l, v, a, b, w) := ⟨⟨h0, h1⟩, fun _ => ⟨h2, h3⟩, fun _ => h4, fun _ => h5, fun z => by have z : (1 : Int) = 2 ∨ (1 : Int) = 3 := z; omega, fun z => by have z : (1 : Int) = 0 := z; omega⟩
theorem CS_2 {S : QMem} {o : Nat} {r u p l v a b w : Int} (h0 : S.1 o 0 0 = 2) (h1 : S.1 o 1 0 = r) (h2 : S.1 o 2 0 = u) (h3 : S.1 o 3 0 = p) (h6 : S.1 o 6 0 = a) (h7 : S.1 o 7 0 = b) : CS S o (2, r, u, p, l, v, a, b, w) := ⟨⟨h0, h1⟩, fun _ => ⟨h2, h3⟩, fun z => by have z : (2 : Int) = 1 := z; omega, fun z => by have z : (2 : Int) = 0 ∨ (2 : Int) = 1 := z; omega, fun _ => ⟨h6, h7⟩, fun z => by have z : (2 : Int) = 0 := z; omega⟩
theorem CS_3 {S : QMem} {o : Nat} {r u p l v a b w : Int} (h0 : S.1 o 0 0 = 3) (h1 : S.1 o 1 0 = r) (h6 : S.1 o 6 0 = a) (h7 : S.1 o 7 0 = b) : CS S o (3, r, u, p, l, v, a, b, w) := ⟨⟨h0, h1⟩, fun z => by have z : (3 : Int) = 1 ∨ (3 : Int) = 2 := z; omega, fun z => by have z : (3 : Int) = 1 := z; omega, fun z => by have z : (3 : Int) = 0 ∨ (3 : Int) = 1 := z; omega, fun _ => ⟨h6, h7⟩, fun z => by have z : (3 : Int) = 0 := z; omega⟩
def CL (S : QMem) (wt : Nat) (W : WW) (n : Int) : Prop := ∀ x, 0 ≤ x → x < n → S.1 wt 0 x = wl W x ∧ S.1 wt 1 x = wv W x
theorem okA_rng {W : WW} {x u a : Int} (hw : wfW W) (hu : 0 ≤ u) (ho : okA W x u a) : 0 ≤ a ∧ a ≤ 48 := by
  refine ⟨ho.1, ?_⟩
  rcases ho.2 with z | ⟨z, z0, z1, _, z2, z3⟩
  · omega
  · have := (wfW_rng hw z0 z1).resolve_left (by omega)
    omega
theorem Pw2_l {wt : Nat} {S S' : QMem} (h : Kp (Pw2 wt) S S') {f : Nat} (hf : f = 0 ∨ f = 1) (i : Int) : S'.1 wt f i = S.1 wt f i := h.at (fun z => by have := z.2; omega)
theorem s_Wt_carryOut {Λ : QLay} {wt o : Nat} {S : QMem} {Q : QMem → Prop} {W : WW} {s : ST} (hS : CS S o s) (hne : o ≠ wt) (hC : CW S wt W) (hw : wfW W) (ho : okS W s)
    (hq : ∀ S', Kp (Pwt wt) S S' → CW S' wt (ap W s) → (∀ n, CL S wt W n → CL S' wt (ap W s) n) → Q S') : w_Wt_carryOut Λ wt o S Q := by
  obtain ⟨⟨s0, s1⟩, s2, s4, s5, s6, s8⟩ := hS
  obtain ⟨hr, hk⟩ := ho
  have up2 : ∀ {S1 S2 : QMem}, Kp (Pw2 wt) S1 S2 → Kp (Pwt wt) S1 S2 := fun h => h.mono (fun o f z => z.1)
  unfold w_Wt_carryOut
  rw [s0, s1]
  rcases hk with z | z | z | z
  · have zk := z.1
    refine ⟨by unfold inR; omega, fun _ => ⟨by omega, ?_⟩, fun y => by omega, fun y => by omega, fun y => by omega⟩
    intro S1 e1
    rw [s5 (Or.inl zk)] at e1
    rw [ap_0 zk] at hq
    refine hq S1 (by rw [e1]; exact Kp.rf.st rfl) (fun x x0 x1 => ?_) (fun n hL x x0 x1 => ?_)
    · have h1 := hC x x0 x1
      refine ⟨by rw [e1]; simp [q_st]; exact h1.1, fun y => ?_⟩
      have h2 := h1.2 y
      refine ⟨by rw [e1]; simp [q_st]; exact h2.1, by rw [e1]; simp [q_st]; exact h2.2.1, ?_⟩
      show S1.1 wt 1 x = up (wv W) (sr s) (sv s) x
      by_cases q : x = sr s
      · rw [q, up_s, e1]; simp [q_st]
      · rw [up_n _ _ q, e1]; simp [q_st, q]; exact h2.2.2
    · show S1.1 wt 0 x = wl W x ∧ S1.1 wt 1 x = up (wv W) (sr s) (sv s) x
      refine ⟨by rw [e1]; simp [q_st]; exact (hL x x0 x1).1, ?_⟩
      by_cases q : x = sr s
      · rw [q, up_s, e1]; simp [q_st]
      · rw [up_n _ _ q, e1]; simp [q_st, q]; exact (hL x x0 x1).2
  · have zk := z.1
    have hor := okA_rng hw z.2.2.1.1 z.2.2.2.1
    refine ⟨by unfold inR; omega, fun y => by omega, fun _ => ⟨by omega, ?_⟩, fun y => by omega, fun y => by omega⟩
    intro S1 e1
    rw [s4 zk] at e1
    have k1 : Kp (Pwt wt) S S1 := by rw [e1]; exact Kp.rf.st rfl
    rw [k1.at hne, s1]
    refine ⟨by omega, ?_⟩
    intro S2 e2
    rw [k1.at hne, s5 (Or.inr zk)] at e2
    have k2 : Kp (Pwt wt) S S2 := by rw [e2]; exact k1.st rfl
    rw [k2.at hne, k2.at hne, k2.at hne, s1, (s2 (Or.inl zk)).1, (s2 (Or.inl zk)).2]
    rw [ap_1 zk] at hq
    refine s_Wt_putIn (W := labW W (sr s) (sl s) (sv s)) (fun x x0 x1 => ?_) (wfW_lab hw) hr.1 hr.2 z.2.1 z.2.2.1.1 z.2.2.1.2 (by omega) ?_ (fun S3 hk3 hC3 => hq S3 (k2.tr (up2 hk3)) hC3 (fun n hL x x0 x1 => ?_))
    · have h1 := hC x x0 x1
      refine ⟨by rw [e2, e1]; simp [q_st]; exact h1.1, fun y => ?_⟩
      have q : x ≠ sr s := fun w => y (by rw [w]; exact z.2.1)
      have h2 := h1.2 y
      refine ⟨by rw [e2, e1]; simp [q_st]; exact h2.1, ?_, ?_⟩
      · show S2.1 wt 0 x = up (wl W) (sr s) (sl s) x
        rw [up_n _ _ q, e2, e1]; simp [q_st, q]; exact h2.2.1
      · show S2.1 wt 1 x = up (wv W) (sr s) (sv s) x
        rw [up_n _ _ q, e2, e1]; simp [q_st, q]; exact h2.2.2
    · show S2.1 wt 0 (sr s) = up (wl W) (sr s) (sl s) (sr s) ∧ S2.1 wt 1 (sr s) = up (wv W) (sr s) (sv s) (sr s)
      rw [up_s, up_s, e2, e1]; simp [q_st]
    · rw [Pw2_l hk3 (Or.inl rfl), Pw2_l hk3 (Or.inr rfl)]
      show S2.1 wt 0 x = up (wl W) (sr s) (sl s) x ∧ S2.1 wt 1 x = up (wv W) (sr s) (sv s) x
      by_cases q : x = sr s
      · rw [q, up_s, up_s, e2, e1]; simp [q_st]
      · rw [up_n _ _ q, up_n _ _ q, e2, e1]; simp [q_st, q]; exact hL x x0 x1
  · have zk := z.1
    have hwo := wfW_out hw hr.1 hr.2 z.2.1
    have hor := okA_rng hwo z.2.2.1.1 z.2.2.2.1
    refine ⟨by unfold inR; omega, fun y => by omega, fun y => by omega, fun _ => ?_, fun y => by omega⟩
    refine s_Wt_takeOut hC hw hr.1 hr.2 z.2.1 (fun S1 hk1 hC1 => ?_)
    have hn2 : ∀ f, ¬ Pw2 wt o f := fun f y => hne y.1
    rw [hk1.at (hn2 1), hk1.at (hn2 2), hk1.at (hn2 3), s1, (s2 (Or.inr zk)).1, (s2 (Or.inr zk)).2]
    rw [ap_2 zk] at hq
    have hl := (hC (sr s) hr.1 hr.2).2 z.2.1
    refine s_Wt_putIn hC1 hwo hr.1 hr.2 (out_self _ _) z.2.2.1.1 z.2.2.1.2 (by omega) ?_ (fun S3 hk3 hC3 => hq S3 (up2 (hk1.tr hk3)) hC3 (fun n hL x x0 x1 => ?_))
    · rw [Pw2_l hk1 (Or.inl rfl), Pw2_l hk1 (Or.inr rfl)]; exact ⟨hl.2.1, hl.2.2⟩
    · rw [Pw2_l hk3 (Or.inl rfl), Pw2_l hk3 (Or.inr rfl), Pw2_l hk1 (Or.inl rfl), Pw2_l hk1 (Or.inr rfl)]; exact hL x x0 x1
  · have zk := z.1
    refine ⟨by unfold inR; omega, fun y => by omega, fun y => by omega, fun y => by omega, fun _ => ?_⟩
    rw [ap_3 zk] at hq
    refine s_Wt_takeOut hC hw hr.1 hr.2 z.2.1 (fun S1 hk1 hC1 => hq S1 (up2 hk1) hC1 (fun n hL x x0 x1 => ?_))
    rw [Pw2_l hk1 (Or.inl rfl), Pw2_l hk1 (Or.inr rfl)]; exact hL x x0 x1
theorem s_Wt_takeBack {Λ : QLay} {wt o : Nat} {n : Int} {S : QMem} {Q : QMem → Prop} {W : WW} {s : ST} (hS : CS S o s) (hne : o ≠ wt) (hC : CW S wt (ap W s)) (hL : CL S wt (ap W s) n) (hn : n ≤ 24) (hd : sk s = 3 → sr s < n) (hw : wfW W) (ho : okS W s)
    (hq : ∀ S', Kp (Pwt wt) S S' → CW S' wt W → CL S' wt W n → Q S') : w_Wt_takeBack Λ wt o S Q := by
  have hb := tb_ap hw ho
  have hwa := wfW_ap hw ho
  obtain ⟨⟨s0, s1⟩, s2, s4, s5, s6, s8⟩ := hS
  obtain ⟨hr, hk⟩ := ho
  have up2 : ∀ {S1 S2 : QMem}, Kp (Pw2 wt) S1 S2 → Kp (Pwt wt) S1 S2 := fun h => h.mono (fun o f z => z.1)
  unfold w_Wt_takeBack
  rw [s0, s1]
  rcases hk with z | z | z | z
  · have zk := z.1
    rw [tb_0 zk] at hb
    rw [ap_0 zk] at hC hL
    refine ⟨by unfold inR; omega, fun _ => ⟨by omega, ?_⟩, fun y => by omega, fun y => by omega, fun y => by omega⟩
    intro S1 e1
    rw [s8 zk] at e1
    have hv : ∀ x, up (wv W) (sr s) (sv s) x = (if x = sr s then sv s else wv W x) := fun x => rfl
    refine hq S1 (by rw [e1]; exact Kp.rf.st rfl) (fun x x0 x1 => ?_) (fun x x0 x1 => ?_)
    · have h1 := hC x x0 x1
      refine ⟨by rw [e1]; simp [q_st]; exact h1.1, fun y => ?_⟩
      have h2 := h1.2 y
      refine ⟨by rw [e1]; simp [q_st]; exact h2.1, by rw [e1]; simp [q_st]; exact h2.2.1, ?_⟩
      have h3 : S.1 wt 1 x = up (wv W) (sr s) (sv s) x := h2.2.2
      by_cases q : x = sr s
      · rw [q, e1, ← z.2.2.1]; simp [q_st]
      · rw [up_n _ _ q] at h3
        rw [e1]; simp [q_st, q]; exact h3
    · refine ⟨by rw [e1]; simp [q_st]; exact (hL x x0 x1).1, ?_⟩
      have h3 : S.1 wt 1 x = up (wv W) (sr s) (sv s) x := (hL x x0 x1).2
      by_cases q : x = sr s
      · rw [q, e1, ← z.2.2.1]; simp [q_st]
      · rw [up_n _ _ q] at h3
        rw [e1]; simp [q_st, q]; exact h3
  · have zk := z.1
    rw [tb_1 zk] at hb
    refine ⟨by unfold inR; omega, fun y => by omega, fun _ => ?_, fun y => by omega, fun y => by omega⟩
    have hp : wa (ap W s) (sr s) ≠ -1 := by rw [ap_1 zk, put_a, up_s]; omega
    refine s_Wt_takeOut hC hwa hr.1 hr.2 hp (fun S1 hk1 hC1 => hq S1 (up2 hk1) (CW_eq hC1 hb) (fun x x0 x1 => ?_))
    rw [Pw2_l hk1 (Or.inl rfl), Pw2_l hk1 (Or.inr rfl)]
    have h1 := hL x x0 x1
    rw [ap_1 zk] at h1
    have q : x ≠ sr s := by have := z.2.2.2.2.2.2; omega
    exact ⟨h1.1.trans (up_n _ _ q), h1.2.trans (up_n _ _ q)⟩
  · have zk := z.1
    rw [tb_2 zk] at hb
    refine ⟨by unfold inR; omega, fun y => by omega, fun y => by omega, fun _ => ?_, fun y => by omega⟩
    have hp : wa (ap W s) (sr s) ≠ -1 := by rw [ap_2 zk, put_a, up_s]; omega
    have hwo := wfW_out hwa hr.1 hr.2 hp
    have hxr := (wfW_rng hw hr.1 hr.2).resolve_left z.2.1
    have hl := (hC (sr s) hr.1 hr.2).2 hp
    refine s_Wt_takeOut hC hwa hr.1 hr.2 hp (fun S1 hk1 hC1 => ?_)
    have hn2 : ∀ f, ¬ Pw2 wt o f := fun f y => hne y.1
    rw [hk1.at (hn2 1), hk1.at (hn2 6), hk1.at (hn2 7), s1, (s6 (Or.inl zk)).1, (s6 (Or.inl zk)).2]
    refine s_Wt_putIn hC1 hwo hr.1 hr.2 (out_self _ _) (by rw [z.2.2.2.2.1]; exact hxr.1) (by rw [z.2.2.2.2.1]; exact hxr.2.1) (by rw [z.2.2.2.2.2]; omega) ?_ (fun S3 hk3 hC3 => hq S3 (up2 (hk1.tr hk3)) (CW_eq hC3 hb) (fun x x0 x1 => ?_))
    · rw [Pw2_l hk1 (Or.inl rfl), Pw2_l hk1 (Or.inr rfl)]; exact ⟨hl.2.1, hl.2.2⟩
    · rw [Pw2_l hk3 (Or.inl rfl), Pw2_l hk3 (Or.inr rfl), Pw2_l hk1 (Or.inl rfl), Pw2_l hk1 (Or.inr rfl)]
      have h1 := hL x x0 x1
      rw [ap_2 zk] at h1
      exact h1
  · have zk := z.1
    rw [tb_3 zk] at hb
    have hxr := (wfW_rng hw hr.1 hr.2).resolve_left z.2.1
    refine ⟨by unfold inR; omega, fun y => by omega, fun y => by omega, fun y => by omega, fun _ => ?_⟩
    rw [(s6 (Or.inr zk)).1, (s6 (Or.inr zk)).2]
    have hp : wa (ap W s) (sr s) = -1 := by rw [ap_3 zk]; exact out_self _ _
    refine s_Wt_putIn hC hwa hr.1 hr.2 hp (by rw [z.2.2.1]; exact hxr.1) (by rw [z.2.2.1]; exact hxr.2.1) (by rw [z.2.2.2.1]; omega) (hL _ hr.1 (hd zk)) (fun S3 hk3 hC3 => hq S3 (up2 hk3) (CW_eq hC3 hb) (fun x x0 x1 => ?_))
    rw [Pw2_l hk3 (Or.inl rfl), Pw2_l hk3 (Or.inr rfl)]
    have h1 := hL x x0 x1
    rw [ap_3 zk] at h1
    exact h1
/-- the script's objects are apart -/
def ScS (Λ : QLay) (sc : Nat) : Prop := yR Λ sc 2 0 ≠ sc ∧ (∀ i, 0 ≤ i → i < 96 → yR Λ sc 0 i ≠ sc ∧ yR Λ sc 0 i ≠ yR Λ sc 2 0) ∧ ∀ i j, 0 ≤ i → i < 96 → 0 ≤ j → j < 96 → yR Λ sc 0 i = yR Λ sc 0 j → i = j
def Psc (Λ : QLay) (sc o f : Nat) : Prop := o = sc ∨ o = yR Λ sc 2 0 ∨ ∃ i : Int, 0 ≤ i ∧ i < 96 ∧ o = yR Λ sc 0 i
def Psf (Λ : QLay) (sc n o f : Nat) : Prop := (o = sc ∧ (f = 1 ∨ f = 3 ∨ f = 4)) ∨ o = yR Λ sc 2 0 ∨ o = yR Λ sc 0 (n : Int)
/-- steps, partners and marks as the value says -/
def CZ (Λ : QLay) (S : QMem) (sc : Nat) (t1 : TT) (Z : ZZ) : Prop := CW S (yR Λ sc 2 0) (zw Z) ∧ S.1 sc 1 0 = (zn Z : Int) ∧ (∀ i : Nat, i < zn Z → CS S (yR Λ sc 0 (i : Int)) (zs Z i)) ∧ ∀ y, 0 ≤ y → y < tn t1 → S.1 sc 3 y = zp Z y ∧ S.1 sc 4 y = zm Z y
theorem CZ_add {Λ : QLay} {S S' : QMem} {sc : Nat} {t1 : TT} {Z : ZZ} {s : ST} {p m : Int → Int} (hs : ScS Λ sc) (hZ : CZ Λ S sc t1 Z) (hn : zn Z ≤ 95) (hk : Kp (Psf Λ sc (zn Z)) S S') (h1 : CW S' (yR Λ sc 2 0) (ap (zw Z) s)) (h2 : S'.1 sc 1 0 = (zn Z : Int) + 1) (h3 : CS S' (yR Λ sc 0 (zn Z : Int)) s) (h4 : ∀ y, 0 ≤ y → y < tn t1 → S'.1 sc 3 y = p y ∧ S'.1 sc 4 y = m y) : CZ Λ S' sc t1 (addZ Z s p m) := by
  refine ⟨h1, by rw [h2]; show (zn Z : Int) + 1 = ((zn Z + 1 : Nat) : Int); omega, fun i hi => ?_, h4⟩
  have hi : i < zn Z + 1 := hi
  show CS S' _ (if i = zn Z then s else zs Z i)
  by_cases q : i = zn Z
  · rw [if_pos q, q]; exact h3
  · rw [if_neg q]
    refine CS_kp hk (fun f z => ?_) (hZ.2.2.1 i (by omega))
    have a := hs.2.1 (i : Int) (by omega) (by omega)
    rcases z with z | z | z
    · exact a.1 z.1
    · exact a.2 z
    · have := hs.2.2 (i : Int) (zn Z : Int) (by omega) (by omega) (by omega) (by omega) z; omega
theorem s_Sc_addStep {Λ : QLay} {sc n : Nat} {k r : Int} {S : QMem} {Q : Nat → QMem → Prop} (hn : S.1 sc 1 0 = (n : Int)) (h95 : n ≤ 95) (hq : Q (yR Λ sc 0 (n : Int)) (q_st (q_st (q_st S sc 1 0 ((n : Int) + 1)) (yR Λ sc 0 (n : Int)) 0 0 k) (yR Λ sc 0 (n : Int)) 1 0 r)) : w_Sc_addStep Λ sc k r S Q := by
  unfold w_Sc_addStep
  rw [hn]
  refine ⟨by unfold inR; omega, by unfold inR; omega, ?_⟩
  intro x hx
  rw [if_neg (by omega)] at hx
  rw [hx]
  intro S1 e1
  refine ⟨by omega, ?_⟩
  intro S2 e2 S3 e3
  rw [e3, e2, e1]
  exact hq
theorem s_Sc_partnerOf {Λ : QLay} {sc : Nat} {y : Int} {S : QMem} {Q : Int → QMem → Prop} {t1 : TT} (w1 : wfT t1) {Z : ZZ} (hp : ∀ y, 0 ≤ y → y < tn t1 → S.1 sc 3 y = zp Z y) (y0 : -1 ≤ y) (y1 : y < tn t1) (hq : Q (rm Z y) S) : w_Sc_partnerOf Λ sc y S Q := by
  have n1 := tn_rng w1
  unfold w_Sc_partnerOf
  unfold rm at hq
  refine ⟨by unfold inR; omega, fun z => ⟨by omega, ?_⟩, fun z => ?_⟩
  · rw [if_neg (by omega)] at hq; rw [hp y z y1]; exact hq
  · rw [if_pos (by omega)] at hq; exact hq
theorem s_Sc_placeFor {Λ : QLay} {sc tr : Nat} {y : Int} {S : QMem} {Q : Int → QMem → Prop} {t1 : TT} {W : WW} {p m : Int → Int} (hT : cT S tr t1) (w1 : wfT t1) (hC : CW S (yR Λ sc 2 0) W) (hw : wfW W) (hp : ∀ k, 0 ≤ k → k < tn t1 → S.1 sc 3 k = p k ∧ S.1 sc 4 k = m k) (y0 : 0 ≤ y) (y1 : y < tn t1)
    (hm : ∀ k, 0 ≤ k → k < y → (m k = 0 ∨ m k = 1) ∧ (tp t1 k = tp t1 y → m k ≠ 0 → 0 ≤ p k ∧ p k < 48 ∧ wa W (p k) ≠ -1)) (hq : Q (plc t1 W p m y) S) : w_Sc_placeFor Λ sc tr y S Q := by
  have n1 := tn_rng w1
  have hty := tp_rng w1 y0 y1
  unfold w_Sc_placeFor
  rw [(hT.2.1 y y0 y1).2.2.1]
  refine ⟨by omega, ?_⟩
  intro u hu v hv
  have pk : ∀ (f k : Nat), (k : Int) + f = y → w_Sc_placeFor_16 Λ Q (f + 1) sc tr y (if lsM t1 m y k < 0 then 0 else wp W (p (lsM t1 m y k)) + 1) u (k : Int) S := by
    intro f
    induction f with
    | zero =>
      intro k hk
      rw [w_Sc_placeFor_16]
      refine ⟨by unfold inR; omega, by unfold inR; omega, fun _ => ?_, fun z => by omega⟩
      unfold plc at hq
      rw [show y.toNat = k by omega] at hq
      exact hq
    | succ f ih =>
      intro k hk
      have ihk := ih (k + 1) (by omega)
      rw [show ((k + 1 : Nat) : Int) = (k : Int) + 1 by omega] at ihk
      have hkp := tp_rng w1 (k := (k : Int)) (by omega) (by omega)
      rw [w_Sc_placeFor_16, (hT.2.1 (k : Int) (by omega) (by omega)).2.2.1, hu]
      rw [hu] at ihk
      have hpk := hp (k : Int) (by omega) (by omega)
      have hmk := hm (k : Int) (by omega) (by omega)
      rw [hpk.1, hpk.2]
      have skip : ¬ (tp t1 (k : Int) = tp t1 y ∧ m (k : Int) ≠ 0) → lsM t1 m y (k + 1) = lsM t1 m y k := fun h => if_neg h
      have take : (tp t1 (k : Int) = tp t1 y ∧ m (k : Int) ≠ 0) → lsM t1 m y (k + 1) = (k : Int) := fun h => if_pos h
      refine ⟨by unfold inR; omega, by unfold inR; omega, fun z => by omega, fun _ => ⟨by omega, by unfold inR; omega, by unfold inR; omega, fun z => ?_, fun z => ⟨by omega, by unfold inR; omega, fun z2 => ?_, fun z2 => ?_⟩⟩⟩
      · rw [skip (fun w => z w.1)] at ihk; exact ihk
      · rw [skip (fun w => w.2 z2)] at ihk; exact ihk
      · have h3 := hmk.2 z z2
        refine ⟨by omega, by omega, ?_⟩
        intro x hx
        rw [take ⟨z, z2⟩, if_neg (by omega)] at ihk
        rw [hx, ((hC _ h3.1 h3.2.1).2 h3.2.2).1]
        exact ihk
  have hz : ∀ k : Nat, (k : Int) ≤ tp t1 y + 1 → lsM t1 m y k = -1 := by
    intro k
    induction k with
    | zero => intro _; rfl
    | succ k ih =>
      intro hk
      have hkp := tp_rng w1 (k := (k : Int)) (by omega) (by omega)
      unfold lsM
      rw [if_neg (by omega)]
      exact ih (by omega)
  have := pk (y - (tp t1 y + 1)).toNat (tp t1 y + 1).toNat (by omega)
  rw [hz _ (by omega), if_pos (by omega), show (((tp t1 y + 1).toNat : Nat) : Int) = tp t1 y + 1 by omega] at this
  rw [hv, hu]
  rw [hu] at this
  exact ⟨_, this⟩
theorem s_Sc_move {Λ : QLay} {sc tr : Nat} {y : Int} {S : QMem} {Q : QMem → Prop} {t0 t1 : TT} {Z : ZZ} (hs : ScS Λ sc) (hT : cT S tr t1) (w1 : wfT t1) (ht : ∀ f, ¬ Psc Λ sc tr f) (hZ : CZ Λ S sc t1 Z) (hI : ZI t0 t1 Z) (y0 : 0 ≤ y) (y1 : y < tn t1) (hp : zp Z y ≠ -1) (hr : rm Z (tp t1 y) ≠ -1) (hn : zn Z ≤ 95)
    (hq : ∀ S', Kp (Psf Λ sc (zn Z)) S S' → CZ Λ S' sc t1 (mvZ t1 Z y) → Q S') : w_Sc_move Λ sc tr y S Q := by
  have n1 := tn_rng w1
  have hty := tp_rng w1 y0 y1
  have hA := (ZI_mv w1 hI y0 y1 hp hr).2
  have hrr := ZI_rm w1 hI (y := tp t1 y) (by omega) (by omega) hr
  have hy := (hI.2.2.2.1 y y0 y1).resolve_left hp
  have hwo := wfW_out hI.2.1 hy.1 hy.2.1 hy.2.2.1
  have har := okA_rng hwo hrr.1 hA
  obtain ⟨d0, d1, d2⟩ := hs
  obtain ⟨o1, o2⟩ := d1 (zn Z : Int) (by omega) (by omega)
  have t1' : tr ≠ sc := fun z => ht 0 (Or.inl z)
  have t2' : tr ≠ yR Λ sc 2 0 := fun z => ht 0 (Or.inr (Or.inl z))
  have t3' : tr ≠ yR Λ sc 0 (zn Z : Int) := fun z => ht 0 (Or.inr (Or.inr ⟨(zn Z : Int), by omega, by omega, z⟩))
  obtain ⟨z1, z2, z3, z4⟩ := hZ
  unfold w_Sc_move
  refine ⟨by omega, ?_⟩
  intro x hx
  rw [(z4 y y0 y1).1] at hx
  rw [hx]
  refine s_Sc_addStep z2 hn ?_
  have cx := z1 (zp Z y) hy.1 hy.2.1
  have cx2 := cx.2 hy.2.2.1
  refine ⟨by omega, ?_⟩
  intro S1 e1
  have a1 : (q_st (q_st (q_st S sc 1 0 ((zn Z : Int) + 1)) (yR Λ sc 0 (zn Z : Int)) 0 0 2) (yR Λ sc 0 (zn Z : Int)) 1 0 (zp Z y)).1 (yR Λ sc 2 0) 2 (zp Z y) = wa (zw Z) (zp Z y) := by
    rw [← cx.1]; simp [q_st, o2, o2.symm, d0]
  rw [a1] at e1
  refine ⟨by omega, ?_⟩
  intro S2 e2
  have k1 : Kp (fun q f => (q = sc ∧ f = 1) ∨ q = yR Λ sc 0 (zn Z : Int)) S S1 := by
    rw [e1]; exact (((Kp.rf.st (Or.inl ⟨rfl, rfl⟩)).st (Or.inr rfl)).st (Or.inr rfl)).st (Or.inr rfl)
  have nc : ∀ f, ¬ ((yR Λ sc 2 0 = sc ∧ f = 1) ∨ yR Λ sc 2 0 = yR Λ sc 0 (zn Z : Int)) := fun f z => by
    rcases z with z | z
    · exact d0 z.1
    · exact o2 z.symm
  rw [k1.at (nc 3), cx2.1] at e2
  have k2 : Kp (fun q f => (q = sc ∧ f = 1) ∨ q = yR Λ sc 0 (zn Z : Int)) S S2 := by rw [e2]; exact k1.st (Or.inr rfl)
  have nt : ∀ f, ¬ ((tr = sc ∧ f = 1) ∨ tr = yR Λ sc 0 (zn Z : Int)) := fun f z => by
    rcases z with z | z
    · exact t1' z.1
    · exact t3' z
  have ns : ∀ f, f ≠ 1 → ¬ ((sc = sc ∧ f = 1) ∨ sc = yR Λ sc 0 (zn Z : Int)) := fun f hf z => by
    rcases z with z | z
    · exact hf z.2
    · exact o1 z.symm
  rw [k2.at (nt 3), (hT.2.1 y y0 y1).2.2.1]
  refine ⟨by omega, ?_⟩
  refine s_Sc_partnerOf w1 (Z := Z) (fun k k0 k1 => by rw [k2.at (ns 3 (by omega))]; exact (z4 k k0 k1).1) (by omega) (by omega) ?_
  intro S3 e3
  have k3 : Kp (fun q f => (q = sc ∧ f = 1) ∨ q = yR Λ sc 0 (zn Z : Int)) S S3 := by rw [e3]; exact k2.st (Or.inr rfl)
  have C3 : CW S3 (yR Λ sc 2 0) (zw Z) := CW_kp k3 nc z1
  refine s_Wt_takeOut C3 hI.2.1 hy.1 hy.2.1 hy.2.2.1 (fun S4 hk4 hC4 => ?_)
  have nw : ∀ q f, q ≠ yR Λ sc 2 0 → ¬ Pw2 (yR Λ sc 2 0) q f := fun q f h z => h z.1
  have hT4 : cT S4 tr t1 := cT_kp hk4 (fun f => nw tr f t2') (cT_kp k3 nt hT)
  have p4 : ∀ k, 0 ≤ k → k < tn t1 → S4.1 sc 3 k = zp Z k ∧ S4.1 sc 4 k = zm Z k := fun k k0 k1 => by
    rw [hk4.at (nw sc 3 d0.symm), hk4.at (nw sc 4 d0.symm), k3.at (ns 3 (by omega)), k3.at (ns 4 (by omega))]
    exact z4 k k0 k1
  refine s_Sc_placeFor hT4 w1 hC4 hwo p4 y0 y1 (fun k k0 k1 => ⟨(hI.2.2.2.2.2.2.1 k k0 (by omega)).1, fun e1 e2 => ?_⟩) ?_
  · have hm := (hI.2.2.2.2.2.2.1 k k0 (by omega)).2 e2
    have hk := (hI.2.2.2.1 k k0 (by omega)).resolve_left hm.1
    refine ⟨hk.1, hk.2.1, ?_⟩
    rw [out_n _ (fun z => by have := hI.2.2.2.2.1 k y k0 (by omega) y0 y1 hm.1 z; omega)]
    exact hk.2.2.1
  · intro S5 e5
    have f5 : ∀ f, S5.1 (yR Λ sc 0 (zn Z : Int)) f 0 = if f = 3 then plc t1 (outW (zw Z) (zp Z y)) (zp Z) (zm Z) y else S3.1 (yR Λ sc 0 (zn Z : Int)) f 0 := fun f => by
      by_cases q : f = 3
      · rw [if_pos q, q, e5]; simp [q_st]
      · rw [if_neg q, e5, ← hk4.at (nw _ f o2)]; simp [q_st, q]
    have g3 : S3.1 (yR Λ sc 0 (zn Z : Int)) 0 0 = 2 ∧ S3.1 (yR Λ sc 0 (zn Z : Int)) 1 0 = zp Z y ∧ S3.1 (yR Λ sc 0 (zn Z : Int)) 2 0 = rm Z (tp t1 y) ∧ S3.1 (yR Λ sc 0 (zn Z : Int)) 6 0 = wa (zw Z) (zp Z y) ∧ S3.1 (yR Λ sc 0 (zn Z : Int)) 7 0 = wp (zw Z) (zp Z y) := by
      rw [e3, e2, e1]; simp [q_st]
    have f2 := f5 2
    have f3 := f5 3
    rw [if_neg (by omega), g3.2.2.1] at f2
    rw [if_pos rfl] at f3
    rw [f2, f3]
    have C5 : CW S5 (yR Λ sc 2 0) (outW (zw Z) (zp Z y)) := by
      have k5 : Kp (fun q _ => q = yR Λ sc 0 (zn Z : Int)) S4 S5 := by rw [e5]; exact Kp.rf.st rfl
      exact CW_kp k5 (fun f z => o2 z.symm) hC4
    have l5 : S5.1 (yR Λ sc 2 0) 0 (zp Z y) = wl (outW (zw Z) (zp Z y)) (zp Z y) ∧ S5.1 (yR Λ sc 2 0) 1 (zp Z y) = wv (outW (zw Z) (zp Z y)) (zp Z y) := by
      have c3 := (C3 (zp Z y) hy.1 hy.2.1).2 hy.2.2.1
      have e : ∀ f, f = 0 ∨ f = 1 → S5.1 (yR Λ sc 2 0) f (zp Z y) = S3.1 (yR Λ sc 2 0) f (zp Z y) := fun f hf => by
        rw [← Pw2_l hk4 hf, e5]; simp [q_st, o2.symm]
      rw [e 0 (Or.inl rfl), e 1 (Or.inr rfl)]
      exact ⟨c3.2.1, c3.2.2⟩
    refine s_Wt_putIn C5 hwo hy.1 hy.2.1 (out_self _ _) hrr.1 hrr.2 (by omega) l5 (fun S6 hk6 hC6 => ⟨by omega, ?_⟩)
    intro S7 e7
    have K7 : Kp (Psf Λ sc (zn Z)) S S7 := by
      rw [e7]
      have a : Kp (Psf Λ sc (zn Z)) S S3 := k3.mono (fun q f z => by
        rcases z with z | z
        · exact Or.inl ⟨z.1, Or.inl z.2⟩
        · exact Or.inr (Or.inr z))
      have b : Kp (Psf Λ sc (zn Z)) S3 S4 := hk4.mono (fun q f z => Or.inr (Or.inl z.1))
      have c : Kp (Psf Λ sc (zn Z)) S4 S5 := by rw [e5]; exact Kp.rf.st (Or.inr (Or.inr rfl))
      have d : Kp (Psf Λ sc (zn Z)) S5 S6 := hk6.mono (fun q f z => Or.inr (Or.inl z.1))
      exact (((a.tr b).tr c).tr d).st (Or.inl ⟨rfl, Or.inr (Or.inr rfl)⟩)
    have s6 : ∀ f i, S6.1 sc f i = S3.1 sc f i := fun f i => by
      rw [hk6.at (nw sc f d0.symm), e5, ← hk4.at (nw sc f d0.symm)]; simp [q_st, o1.symm]
    have o6 : ∀ f, S7.1 (yR Λ sc 0 (zn Z : Int)) f 0 = S5.1 (yR Λ sc 0 (zn Z : Int)) f 0 := fun f => by
      rw [e7, ← hk6.at (nw _ f o2)]; simp [q_st, o1]
    refine hq S7 K7 (CZ_add ⟨d0, d1, d2⟩ ⟨z1, z2, z3, z4⟩ hn K7 ?_ ?_ ?_ (fun k k0 k1 => ?_))
    · have ew := ap_2 (W := zw Z) (s := (2, zp Z y, rm Z (tp t1 y), plc t1 (outW (zw Z) (zp Z y)) (zp Z) (zm Z) y, 0, 0, wa (zw Z) (zp Z y), wp (zw Z) (zp Z y), 0)) rfl
      rw [ew]
      have k7 : Kp (fun q _ => q = sc) S6 S7 := by rw [e7]; exact Kp.rf.st rfl
      exact CW_kp k7 (fun f => d0) hC6
    · have e : S7.1 sc 1 0 = S6.1 sc 1 0 := by rw [e7]; simp [q_st]
      rw [e, s6, e3, e2, e1]
      simp [q_st, o1.symm]
    · refine CS_2 ?_ ?_ ?_ ?_ ?_ ?_
      · rw [o6, f5, if_neg (by omega)]; exact g3.1
      · rw [o6, f5, if_neg (by omega)]; exact g3.2.1
      · rw [o6]; exact f2
      · rw [o6]; exact f3
      · rw [o6, f5, if_neg (by omega)]; exact g3.2.2.2.1
      · rw [o6, f5, if_neg (by omega)]; exact g3.2.2.2.2
    · have e3' : S7.1 sc 3 k = S3.1 sc 3 k := by rw [← s6, e7]; simp [q_st]
      refine ⟨by rw [e3', k3.at (ns 3 (by omega))]; exact (z4 k k0 k1).1, ?_⟩
      by_cases q : k = y
      · rw [q, up_s, e7]; simp [q_st]
      · have e4' : S7.1 sc 4 k = S3.1 sc 4 k := by rw [← s6, e7]; simp [q_st, q]
        rw [up_n _ _ q, e4', k3.at (ns 4 (by omega))]; exact (z4 k k0 k1).2
