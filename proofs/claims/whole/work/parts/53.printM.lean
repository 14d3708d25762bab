/-! the reference prints -/
abbrev Pdr (m : Nat) : Nat → Nat → Prop := fun o f => o = m ∧ 41 ≤ f ∧ f ≤ 44
theorem MW_chd {S : QMem} {m : Nat} {W : WW} (hM : MW S m W) {u k : Int} (u0 : 0 ≤ u) (u1 : u ≤ 48) (k0 : 0 ≤ k) : (k < S.1 m 29 u → S.1 m 28 (49 * u + k) = chd W u k ∧ ¬ chd W u k = -1) ∧ (S.1 m 29 u ≤ k → chd W u k = -1) := by
  refine ⟨fun h => ?_, fun h => ?_⟩
  · obtain ⟨a, b, c, d⟩ := hM.2.2.1 u k u0 u1 k0 h
    have e := chd_eq (MW_wf hM) u0 a b c d
    have e' : chd W u k = S.1 m 28 (49 * u + k) := e
    have a' : 0 ≤ S.1 m 28 (49 * u + k) := a
    exact ⟨e'.symm, by omega⟩
  · rcases chd_ok W u k with z | z
    · exact z.1
    · have := (hM.2.1 _ z.1 z.2.1).resolve_left (by omega)
      rw [z.2.2.1, z.2.2.2] at this
      omega
theorem s_Mo_sign {Λ : QLay} {m : Nat} {c : Int} {S : QMem} {Q : QMem → Prop} {b : OB} (h : OM S m 41 42 b) (hb : 0 ≤ b.2 ∧ b.2 < 500) (hq : ∀ S', Kp (fun o f => o = m ∧ (f = 41 ∨ f = 42)) S S' → OM S' m 41 42 (emit b c) → Q S') : w_Mo_sign Λ m c S Q := by
  unfold w_Mo_sign
  rw [h.1]
  refine ⟨by omega, ?_⟩
  intro S1 e1 S2 e2
  have e : S1.1 m 42 0 = b.2 := by rw [e1]; simp [q_st, h.1]
  rw [e] at e2
  exact hq S2 (by rw [e2, e1]; exact (Kp.rf.st ⟨rfl, Or.inl rfl⟩).st ⟨rfl, Or.inr rfl⟩) (OM_emit (by decide) hb.1 h e1 e2)
theorem s_Mo_writesNode {Λ : QLay} {m : Nat} {x : Int} {S : QMem} {Q : QMem → Prop} {W : WW} {b : OB} (hM : MW S m W) (x0 : 0 ≤ x) (x1 : x < 48) (hx : wa W x ≠ -1) (h : OM S m 41 42 b) (hb : 0 ≤ b.2 ∧ b.2 < 490) (hv : 0 ≤ wv W x ∧ wv W x ≤ 99) (hq : ∀ S', Kp (fun o f => o = m ∧ (f = 41 ∨ f = 42)) S S' → OM S' m 41 42 (con W x b) → Q S') : w_Mo_writesNode Λ m x S Q := by
  have lv := (hM.1 x x0 x1).2 hx
  have rv : ∀ S2, Kp (fun o f => o = m ∧ (f = 41 ∨ f = 42)) S S2 → S2.1 m 27 x = wv W x := fun S2 hk => by rw [hk.at (by omega)]; exact lv.2
  unfold w_Mo_writesNode
  rw [lv.1]
  refine ⟨by omega, s_Mo_sign h (by omega) (fun S1 hk1 h1 => ?_)⟩
  have e1 : (emit b (97 + wl W x)).2 = b.2 + 1 := rfl
  have tail : ∀ S2 b2, Kp (fun o f => o = m ∧ (f = 41 ∨ f = 42)) S S2 → OM S2 m 41 42 b2 → b2 = con2 W x (emit b (97 + wl W x)) → 0 ≤ b2.2 ∧ b2.2 < 495 → w_Mo_writesNode_40 Λ Q m x S2 := fun S2 b2 hk2 h2 e2 hb2 => by
    unfold w_Mo_writesNode_40
    rw [rv S2 hk2]
    refine ⟨by omega, by unfold inR; omega, fun z => hq S2 hk2 ?_, fun z => ⟨by omega, ⟨hv.1, by unfold inR; omega⟩, ?_⟩⟩
    · unfold con con3; rw [if_neg (by omega), ← e2]; exact h2
    · refine s_Mo_sign h2 (by omega) (fun S3 hk3 h3 => hq S3 (hk2.tr hk3) ?_)
      unfold con con3; rw [if_pos (by omega), ← e2]; exact h3
  rw [rv S1 hk1]
  refine ⟨by omega, by unfold inR; omega, fun z => ?_, fun z => ⟨by omega, ⟨hv.1, by unfold inR; omega⟩, ?_⟩⟩
  · exact tail S1 _ hk1 h1 (by unfold con2; rw [if_neg (by omega)]) (by rw [e1]; omega)
  · refine s_Mo_sign h1 (by rw [e1]; omega) (fun S2 hk2 h2 => tail S2 _ (hk1.tr hk2) h2 (by unfold con2; rw [if_pos (by omega)]) ?_)
    show 0 ≤ b.2 + 1 + 1 ∧ b.2 + 1 + 1 < 495
    omega
/-- the open nodes -/
def SK (S : QMem) (m : Nat) (W : WW) : Nat → Int → Prop
  | 0, x => S.1 m 43 0 = 48 ∧ x = 48
  | d + 1, x => S.1 m 43 ((d : Int) + 1) = x ∧ S.1 m 44 (d : Int) = wp W x + 1 ∧ SK S m W d (wa W x)
theorem SK_line {S : QMem} {m : Nat} {W : WW} : ∀ (d : Nat) (x : Int), SK S m W d x → S.1 m 43 (d : Int) = x
  | 0, x, h => by rw [h.2]; exact h.1
  | d + 1, x, h => by rw [show ((d + 1 : Nat) : Int) = (d : Int) + 1 by omega]; exact h.1
theorem SK_ext {S S' : QMem} {m : Nat} {W : WW} : ∀ (d : Nat) (x : Int), (∀ i : Int, 0 ≤ i → i ≤ d → S'.1 m 43 i = S.1 m 43 i) → (∀ i : Int, 0 ≤ i → i < d → S'.1 m 44 i = S.1 m 44 i) → SK S m W d x → SK S' m W d x
  | 0, x, h1, _, h => ⟨by rw [h1 0 (by omega) (by omega)]; exact h.1, h.2⟩
  | d + 1, x, h1, h2, h => ⟨by rw [h1 _ (by omega) (by omega)]; exact h.1, by rw [h2 _ (by omega) (by omega)]; exact h.2.1, SK_ext d _ (fun i a b => h1 i a (by omega)) (fun i a b => h2 i a (by omega)) h.2.2⟩
theorem s_Mo_enter {Λ : QLay} {m : Nat} {S : QMem} {Q : QMem → Prop} {W : WW} {K : Nat → Int → QMem → Prop} {b : OB} {d : Nat} {u k : Int} (hM : MW S m W) (hg : rgW W) (u0 : 0 ≤ u) (u1 : u ≤ 48) (k0 : 0 ≤ k) (k1 : k < S.1 m 29 u) (hd : d ≤ 48) (hS : SK S m W d u) (hk : S.1 m 44 (d : Int) = k) (hO : OM S m 41 42 b) (hb : 0 ≤ b.2 ∧ b.2 < 490)
    (hq : ∀ S', Kp (Pdr m) S S' → OM S' m 41 42 (con W (chd W u k) b) → SK S' m W (d + 1) (chd W u k) → S'.1 m 44 ((d : Int) + 1) = 0 → K m ((d : Int) + 1 + 1) S') : w_Mo_drafts_101 Λ K Q m ((d : Int) + 1) u k S := by
  obtain ⟨ce, cn⟩ := (MW_chd hM u0 u1 k0).1 k1
  obtain ⟨c0, c1, c2, c3⟩ := (chd_ok W u k).resolve_left (fun z => cn z.1)
  have hkm := km_le hM.2 u0 u1
  unfold w_Mo_drafts_101
  rw [show (d : Int) + 1 - 1 = (d : Int) by omega, hk]
  refine ⟨by omega, by omega, ?_⟩
  intro S1 e1
  have r1 : S1.1 m 28 (49 * u + k) = chd W u k := by rw [← ce, e1]; simp [q_st]
  rw [r1]
  refine ⟨by omega, by omega, ?_⟩
  intro S2 e2
  refine ⟨by omega, ?_⟩
  intro S3 e3
  have l3 : S3.1 m 43 ((d : Int) + 1) = chd W u k := by rw [e3, e2]; simp [q_st]
  have k3 : Kp (fun o f => o = m ∧ (f = 43 ∨ f = 44)) S S3 := by rw [e3, e2, e1]; exact ((Kp.rf.st ⟨rfl, Or.inr rfl⟩).st ⟨rfl, Or.inl rfl⟩).st ⟨rfl, Or.inr rfl⟩
  rw [l3]
  refine ⟨by omega, s_Mo_writesNode (MW_kp k3 (fun f f0 f1 z => by have := z.2; omega) hM) c0 c1 (by omega) (OM_kp k3 (by omega) (by omega) hO) hb (hg _ c0 c1 (by omega)).2 (fun S4 hk4 hO4 => ?_)⟩
  have e43 : ∀ i, S4.1 m 43 i = S3.1 m 43 i := fun i => hk4.at (by omega)
  have e44 : ∀ i, S4.1 m 44 i = S3.1 m 44 i := fun i => hk4.at (by omega)
  refine hq S4 ((k3.mono (fun o f z => ⟨z.1, by have := z.2; omega, by have := z.2; omega⟩)).tr (hk4.mono (fun o f z => ⟨z.1, by have := z.2; omega, by have := z.2; omega⟩))) hO4 ⟨by rw [e43]; exact l3, ?_, ?_⟩ (by rw [e44, e3]; simp [q_st])
  · have q : ¬ (d : Int) = (d : Int) + 1 := by omega
    rw [e44, e3, e2, e1, c3]; simp [q_st, q]
  · rw [c2]
    refine SK_ext d u (fun i i0 i1 => ?_) (fun i i0 i1 => ?_) hS
    · have q : ¬ i = (d : Int) + 1 := by omega
      rw [e43, e3, e2, e1]; simp [q_st, q]
    · have q : ¬ i = (d : Int) + 1 := by omega
      have q2 : ¬ i = (d : Int) := by omega
      rw [e44, e3, e2, e1]; simp [q_st, q, q2]
theorem s_Mo_dloop {Λ : QLay} {m : Nat} {S : QMem} {Q : QMem → Prop} {W : WW} {r : OB} (hM : MW S m W) (hg : rgW W) (hq : ∀ S', Kp (Pdr m) S S' → OM S' m 41 42 r → Q S') : ∀ (f n e : Nat) (x : Int) (D : Int → Int) (b : OB) (S1 : QMem), f < n → PI W D e x → (0 ≤ b.2 ∧ b.2 + e + 1 ≤ 5 * vis D) → Kp (Pdr m) S S1 → OM S1 m 41 42 b → SK S1 m W (e + 1) x →
    (frs W D x → po W f 0 x b = some r → S1.1 m 44 ((e : Int) + 1) = 0 → w_Mo_drafts_22 Λ Q n m ((e : Int) + 2) S1) ∧ (po W f 1 x b = some r → w_Mo_drafts_22 Λ Q n m ((e : Int) + 1) S1)
  | 0, _, _, _, _, _, _, _, _, _, _, _, _ => ⟨fun _ h => (nomatch h), fun h => (nomatch h)⟩
  | f + 1, 0, _, _, _, _, _, hn, _, _, _, _, _ => by omega
  | f + 1, n + 1, e, x, D, b, S1, hn, hP, hb, hk, hO, hS => by
    have hv := vis_rng D
    have M1 : MW S1 m W := MW_kp hk (fun f f0 f1 z => by have := z.2; omega) hM
    have hw := MW_wf hM
    have hx := hP.1
    have he := hP.2.2.2.2
    have hxp := (hP.2.2.1 x hx.1 hx.2 hP.2.1).1
    have hxr := (wfW_rng hw hx.1 hx.2).resolve_left hxp
    have hxc := (M1.2.1 x hx.1 hx.2).resolve_left hxp
    refine ⟨fun hf hp h0 => ?_, fun hp => ?_⟩
    · have cc := MW_chd M1 hx.1 (by omega : x ≤ 48) (Int.le_refl 0)
      have k0 := M1.2.2.2 x hx.1 (by omega)
      have kl := km_le M1.2 hx.1 (by omega : x ≤ 48)
      rw [w_Mo_drafts_22, show (e : Int) + 2 - 1 = (e : Int) + 1 by omega]
      refine ⟨by unfold inR; omega, fun z => by omega, fun _ => ⟨by omega, ?_⟩⟩
      intro t ht
      rw [hS.1] at ht
      refine ⟨by omega, ?_⟩
      intro k hk'
      rw [h0] at hk'
      rw [ht, hk']
      refine ⟨by omega, by unfold inR; omega, by unfold inR; omega, fun z => ⟨by unfold inR; omega, fun w => by omega, fun _ => ⟨by unfold inR; omega, fun w => by omega, fun _ => ?_⟩⟩, fun z => ⟨by unfold inR; omega, fun w => by omega, fun _ => ⟨by unfold inR; omega, fun _ => ?_, fun w => absurd (Int.le_refl 0) w⟩⟩⟩
      · have cy := (cc.1 (by omega)).2
        have hE := PI_child hP hf cy
        have hPE := EO_PI hE
        have hvu := vis_up hE.1.1 hE.1.2 hE.2.1
        have hcr := con_rng W (chd W x 0) (emit b 40)
        have ee : (emit b 40).2 = b.2 + 1 := rfl
        rw [po_0y cy] at hp
        unfold w_Mo_drafts_86
        refine ⟨by unfold inR; omega, fun _ => ?_, fun w => absurd (Int.le_refl 0) w⟩
        unfold w_Mo_drafts_98
        refine s_Mo_sign hO (by omega) (fun S2 hk2 hO2 => ?_)
        have M2 : MW S2 m W := MW_kp hk2 (fun f f0 f1 z => by have := z.2; omega) M1
        have en := s_Mo_enter (Λ := Λ) (Q := Q) (K := fun v0' v1' S' => w_Mo_drafts_22 Λ Q n v0' v1' S') (b := emit b 40) (d := e + 1) (u := x) (k := 0) M2 hg hx.1 (by omega) (by omega) (by rw [hk2.at (by omega)]; omega) (by omega) (SK_ext _ _ (fun i _ _ => hk2.at (by omega)) (fun i _ _ => hk2.at (by omega)) hS) (by rw [hk2.at (by omega)]; exact h0) hO2 (by rw [ee]; omega) (fun S3 hk3 hO3 hS3 h03 => ?_)
        · rw [show ((e + 1 : Nat) : Int) + 1 = (e : Int) + 2 by omega] at en
          exact en
        · have := (s_Mo_dloop (Λ := Λ) hM hg hq f n (e + 1) (chd W x 0) (up D (chd W x 0) 0) (con W (chd W x 0) (emit b 40)) S3 (by omega) hPE.1 (by omega) ((hk.tr (hk2.mono (fun o f z => (⟨z.1, by have := z.2; omega, by have := z.2; omega⟩ : Pdr m o f)))).tr hk3) hO3 hS3).1 hPE.2 hp (by rw [show ((e + 1 : Nat) : Int) + 1 = ((e + 1 : Nat) : Int) + 1 from rfl]; exact h03)
          rw [show ((e + 1 : Nat) : Int) + 1 + 1 = ((e + 1 : Nat) : Int) + 2 by omega]
          exact this
      · have cn := cc.2 (by omega)
        rw [po_0n cn] at hp
        have := (s_Mo_dloop (Λ := Λ) hM hg hq f n e x D b S1 (by omega) hP hb hk hO hS).2 hp
        rw [show (e : Int) + 2 + (-1) = (e : Int) + 1 by omega]
        exact this
    · have cc := MW_chd M1 hxr.1 hxr.2.1 (by omega : 0 ≤ wp W x + 1)
      have kl := km_le M1.2 hxr.1 hxr.2.1
      rw [w_Mo_drafts_22, show (e : Int) + 1 - 1 = (e : Int) by omega]
      refine ⟨by unfold inR; omega, fun z => by omega, fun _ => ⟨by omega, ?_⟩⟩
      intro t ht
      rw [SK_line e _ hS.2.2] at ht
      refine ⟨by omega, ?_⟩
      intro k hk'
      rw [hS.2.1] at hk'
      rw [ht, hk']
      refine ⟨by omega, by unfold inR; omega, by unfold inR; omega, fun z => ⟨by unfold inR; omega, fun _ => ?_, fun w => by omega⟩, fun z => ⟨by unfold inR; omega, fun w => ?_, fun w => ⟨by unfold inR; omega, fun v => by omega, fun _ => ?_⟩⟩⟩
      · have cy := (cc.1 (by omega)).2
        have hE := PI_next hP cy
        have hPE := EO_PI hE
        have hvu := vis_up hE.1.1 hE.1.2 hE.2.1
        have hcr := con_rng W (chd W (wa W x) (wp W x + 1)) (emit b 32)
        have ee : (emit b 32).2 = b.2 + 1 := rfl
        rw [po_1y cy] at hp
        unfold w_Mo_drafts_86
        refine ⟨by unfold inR; omega, fun w => by omega, fun _ => ?_⟩
        unfold w_Mo_drafts_98
        refine s_Mo_sign hO (by omega) (fun S2 hk2 hO2 => ?_)
        have M2 : MW S2 m W := MW_kp hk2 (fun f f0 f1 z => by have := z.2; omega) M1
        have en := s_Mo_enter (Λ := Λ) (Q := Q) (K := fun v0' v1' S' => w_Mo_drafts_22 Λ Q n v0' v1' S') (b := emit b 32) (d := e) (u := wa W x) (k := wp W x + 1) M2 hg hxr.1 hxr.2.1 (by omega) (by rw [hk2.at (by omega)]; omega) (by omega) (SK_ext _ _ (fun i _ _ => hk2.at (by omega)) (fun i _ _ => hk2.at (by omega)) hS.2.2) (by rw [hk2.at (by omega)]; exact hS.2.1) hO2 (by rw [ee]; omega) (fun S3 hk3 hO3 hS3 h03 => ?_)
        · exact en
        · have := (s_Mo_dloop (Λ := Λ) hM hg hq f n e (chd W (wa W x) (wp W x + 1)) (up D (chd W (wa W x) (wp W x + 1)) 0) (con W (chd W (wa W x) (wp W x + 1)) (emit b 32)) S3 (by omega) hPE.1 (by omega) ((hk.tr (hk2.mono (fun o f z => (⟨z.1, by have := z.2; omega, by have := z.2; omega⟩ : Pdr m o f)))).tr hk3) hO3 hS3).1 hPE.2 hp h03
          rw [show (e : Int) + 1 + 1 = (e : Int) + 2 by omega]
          exact this
      · have cn := cc.2 (by omega)
        rw [po_1e cn w] at hp
        have er : b = r := Option.some.inj hp
        have hc := hP.2.2.2.1.2.2
        rw [w] at hc
        have e0 : e = 0 := by
          cases e with
          | zero => rfl
          | succ e => have := hc.1; omega
        cases n with
        | zero => omega
        | succ n =>
          rw [w_Mo_drafts_22]
          exact ⟨by unfold inR; omega, fun _ => hq S1 hk (by rw [← er]; exact hO), fun y => by omega⟩
      · have cn := cc.2 (by omega)
        rw [po_1n cn w] at hp
        obtain ⟨e', he', hP'⟩ := PI_up hP w
        refine s_Mo_sign hO (by omega) (fun S2 hk2 hO2 => ?_)
        have hS2 := hS.2.2
        rw [he'] at hS2
        have := (s_Mo_dloop (Λ := Λ) hM hg hq f n e' (wa W x) D (emit b 41) S2 (by omega) hP' (by show 0 ≤ b.2 + 1 ∧ b.2 + 1 + (e' : Int) + 1 ≤ 5 * vis D; omega) (hk.tr (hk2.mono (fun o f z => (⟨z.1, by have := z.2; omega, by have := z.2; omega⟩ : Pdr m o f)))) hO2 (SK_ext _ _ (fun i _ _ => hk2.at (by omega)) (fun i _ _ => hk2.at (by omega)) hS2)).2 hp
        rw [show (e : Int) + 1 + (-1) = (e' : Int) + 1 by omega]
        exact this
theorem s_Mo_drafts {Λ : QLay} {m : Nat} {S : QMem} {Q : QMem → Prop} {W : WW} (hM : MW S m W) (hg : rgW W) (hq : ∀ S', Kp (Pdr m) S S' → OM S' m 41 42 (outO W) → Q S') : w_Mo_drafts Λ m S Q := by
  unfold w_Mo_drafts
  intro S1 e1 S2 e2 S3 e3
  have k3 : Kp (Pdr m) S S3 := by rw [e3, e2, e1]; exact ((Kp.rf.st ⟨rfl, by omega, by omega⟩).st ⟨rfl, by omega, by omega⟩).st ⟨rfl, by omega, by omega⟩
  have O3 : OM S3 m 41 42 o0 := ⟨by rw [e3, e2, e1]; simp [q_st]; rfl, fun i a b => by have b : i < 0 := b; omega⟩
  have M3 : MW S3 m W := MW_kp k3 (fun f f0 f1 z => by have := z.2; omega) hM
  have a3 : S3.1 m 43 0 = 48 := by rw [e3, e2]; simp [q_st]
  have b3 : S3.1 m 44 0 = 0 := by rw [e3]; simp [q_st]
  have cc := MW_chd M3 (u := 48) (by omega) (by omega) (Int.le_refl 0)
  have k0 := M3.2.2.2 48 (by omega) (by omega)
  have kl := km_le M3.2 (u := 48) (by omega) (by omega)
  by_cases q : chd W 48 0 = -1
  · have km0 : S3.1 m 29 48 = 0 := by
      by_cases z : 0 < S3.1 m 29 48
      · exact absurd q (cc.1 z).2
      · omega
    refine ⟨2, ?_⟩
    rw [w_Mo_drafts_22]
    refine ⟨by unfold inR; omega, fun z => by omega, fun _ => ⟨by omega, ?_⟩⟩
    intro t ht
    rw [show (1 : Int) - 1 = 0 by omega, a3] at ht
    refine ⟨by omega, ?_⟩
    intro k hk'
    rw [show (1 : Int) - 1 = 0 by omega, b3] at hk'
    rw [ht, hk', km0]
    refine ⟨by omega, by unfold inR; omega, by unfold inR; omega, fun z => absurd rfl z, fun _ => ⟨by unfold inR; omega, fun _ => ?_, fun w => absurd rfl w⟩⟩
    rw [w_Mo_drafts_22]
    exact ⟨by unfold inR; omega, fun _ => hq S3 k3 (by rw [outO_0 q]; exact O3), fun y => by omega⟩
  · obtain ⟨f, hf⟩ := outO_1 q
    have kp : 0 < S3.1 m 29 48 := by
      by_cases z : 0 < S3.1 m 29 48
      · exact z
      · exact absurd (cc.2 (by omega)) q
    have hE := EO_0 q
    have hPE := EO_PI hE
    have hvu := vis_up hE.1.1 hE.1.2 hE.2.1
    rw [D0_vis] at hvu
    have hcr := con_rng W (chd W 48 0) o0
    have ee : o0.2 = 0 := rfl
    refine ⟨f + 2, ?_⟩
    rw [w_Mo_drafts_22]
    refine ⟨by unfold inR; omega, fun z => by omega, fun _ => ⟨by omega, ?_⟩⟩
    intro t ht
    rw [show (1 : Int) - 1 = 0 by omega, a3] at ht
    refine ⟨by omega, ?_⟩
    intro k hk'
    rw [show (1 : Int) - 1 = 0 by omega, b3] at hk'
    rw [ht, hk']
    refine ⟨by omega, by unfold inR; omega, by unfold inR; omega, fun z => ⟨by unfold inR; omega, fun w => by omega, fun _ => ⟨by unfold inR; omega, fun _ => ?_, fun w => absurd rfl w⟩⟩, fun z => by omega⟩
    have en := s_Mo_enter (Λ := Λ) (Q := Q) (K := fun v0' v1' S' => w_Mo_drafts_22 Λ Q (f + 1) v0' v1' S') (b := o0) (d := 0) (u := 48) (k := 0) M3 hg (by omega) (by omega) (by omega) kp (by omega) ⟨a3, rfl⟩ b3 O3 (by omega) (fun S4 hk4 hO4 hS4 h04 => ?_)
    · exact en
    · exact (s_Mo_dloop hM hg hq f (f + 1) 0 (chd W 48 0) (up D0 (chd W 48 0) 0) (con W (chd W 48 0) o0) S4 (by omega) hPE.1 (by omega) (k3.tr hk4) hO4 hS4).1 hPE.2 hf h04
theorem outO_rng {W : WW} : 0 ≤ (outO W).2 ∧ (outO W).2 ≤ 288 := by
  have main : ∀ (f e : Nat) (x : Int) (D : Int → Int) (b r : OB), PI W D e x → (0 ≤ b.2 ∧ b.2 + e + 1 ≤ 5 * vis D) → (frs W D x → po W f 0 x b = some r → 0 ≤ r.2 ∧ r.2 ≤ 288) ∧ (po W f 1 x b = some r → 0 ≤ r.2 ∧ r.2 ≤ 288) := by
    intro f
    induction f with
    | zero => intro e x D b r _ _; exact ⟨fun _ h => (nomatch h), fun h => (nomatch h)⟩
    | succ f ih =>
      intro e x D b r hP hb
      have hv := vis_rng D
      refine ⟨fun hf hp => ?_, fun hp => ?_⟩
      · by_cases q : chd W x 0 = -1
        · rw [po_0n q] at hp; exact (ih e x D b r hP hb).2 hp
        · rw [po_0y q] at hp
          have hE := PI_child hP hf q
          have hPE := EO_PI hE
          have hvu := vis_up hE.1.1 hE.1.2 hE.2.1
          have hcr := con_rng W (chd W x 0) (emit b 40)
          have ee : (emit b 40).2 = b.2 + 1 := rfl
          exact (ih (e + 1) _ _ _ r hPE.1 (by omega)).1 hPE.2 hp
      · by_cases q : chd W (wa W x) (wp W x + 1) = -1
        · by_cases q2 : wa W x = 48
          · rw [po_1e q q2] at hp
            have er : b = r := Option.some.inj hp
            rw [← er]; omega
          · rw [po_1n q q2] at hp
            obtain ⟨e', he', hP'⟩ := PI_up hP q2
            exact (ih e' _ D _ r hP' (by show 0 ≤ b.2 + 1 ∧ b.2 + 1 + (e' : Int) + 1 ≤ 5 * vis D; omega)).2 hp
        · rw [po_1y q] at hp
          have hE := PI_next hP q
          have hPE := EO_PI hE
          have hvu := vis_up hE.1.1 hE.1.2 hE.2.1
          have hcr := con_rng W (chd W (wa W x) (wp W x + 1)) (emit b 32)
          have ee : (emit b 32).2 = b.2 + 1 := rfl
          exact (ih e _ _ _ r hPE.1 (by omega)).1 hPE.2 hp
  by_cases q : chd W 48 0 = -1
  · rw [outO_0 q]; exact ⟨Int.le_refl _, by show (0 : Int) ≤ 288; omega⟩
  · obtain ⟨f, hf⟩ := outO_1 q
    have hE := EO_0 q
    have hPE := EO_PI hE
    have hvu := vis_up hE.1.1 hE.1.2 hE.2.1
    rw [D0_vis] at hvu
    have hcr := con_rng W (chd W 48 0) o0
    have ee : o0.2 = 0 := rfl
    exact (main f 0 _ _ _ _ hPE.1 (by omega)).1 hPE.2 hf
