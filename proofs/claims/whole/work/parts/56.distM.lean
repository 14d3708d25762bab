/-! the reference's distance: the same trees, seen in a mirror -/
theorem nAt_pix {t : TT} (hw : wfT t) {k : Int} (k0 : 0 ≤ k) (k1 : k < tn t) : nAt t (pix (tn t) (tp t) k) = k := by
  have r := pix_rng hw.1 k0 k1
  have h := nAt_ok hw (i := pix (tn t) (tp t) k) r.1 r.2
  exact pix_inj hw.1 h.1 h.2.1 k0 k1 h.2.2
/-- where the leftmost node below stands in postorder -/
noncomputable def lfs (t : TT) (x : Int) : Int := x + 1 - (te t (nAt t x) - nAt t x)
theorem lfs_pix {t : TT} (hw : wfT t) {k : Int} (k0 : 0 ≤ k) (k1 : k < tn t) : lfs t (pix (tn t) (tp t) k) = k - dp (tp t) k := by
  unfold lfs
  rw [nAt_pix hw k0 k1]
  unfold pix te
  omega
theorem lfs_rng {t : TT} (hw : wfT t) {x : Int} (x0 : 0 ≤ x) (x1 : x < tn t) : 0 ≤ lfs t x ∧ lfs t x ≤ x := by
  have h := nAt_ok hw x0 x1
  have e := lfs_pix hw h.1 h.2.1
  rw [h.2.2] at e
  have d := dp_rng hw.1 h.1 h.2.1
  have r := te_rng h.2.1
  unfold lfs at e ⊢
  omega
noncomputable def mF (t : TT) : IF := (tn t, fun i => tn t - lfs t (tn t - 1 - i))
/-- two nodes and their places in postorder -/
theorem pix_c {t : TT} (hw : wfT t) {k k' : Int} (k0 : 0 ≤ k) (k1 : k < tn t) (k0' : 0 ≤ k') (k1' : k' < tn t) :
    (k ≤ k' → k' < te t k → pix (tn t) (tp t) k' ≤ pix (tn t) (tp t) k ∧ k - dp (tp t) k ≤ pix (tn t) (tp t) k') ∧ (te t k ≤ k' → pix (tn t) (tp t) k < pix (tn t) (tp t) k' ∧ pix (tn t) (tp t) k < k' - dp (tp t) k') := by
  refine ⟨fun a b => ?_, fun a => ?_⟩
  · have m := dp_mono hw.1 (k' - k).toNat k k0 (by omega)
    rw [show k + (((k' - k).toNat : Nat) : Int) = k' by omega] at m
    have r := te_rng k1'
    have r' : k' < en (tn t) (tp t) k' := r.1
    refine ⟨?_, by unfold pix; omega⟩
    by_cases q : k = k'
    · rw [q]; exact Int.le_refl _
    · have := (pix_lt hw.1 k0 (by omega) k1').1 b
      omega
  · have r := te_rng k1
    have e := (pix_lt hw.1 k0 (by omega) k1').2 a
    refine ⟨e, ?_⟩
    have e1 := dp_end hw.1 (a := k) k0 k1 (by show te t k < tn t; omega)
    have e1 : dp (tp t) (te t k) ≤ dp (tp t) k := e1
    have m := dp_mono hw.1 (k' - te t k).toNat (te t k) (by omega) (by omega)
    rw [show te t k + (((k' - te t k).toNat : Nat) : Int) = k' by omega] at m
    have ep : pix (tn t) (tp t) k = k - dp (tp t) k + (te t k - k - 1) := rfl
    omega
theorem mir {t : TT} (hw : wfT t) {k k' : Int} (k0 : 0 ≤ k) (k1 : k < tn t) (k0' : 0 ≤ k') (k1' : k' < tn t) :
    (an (fT t) k k' ↔ an (mF t) (tn t - 1 - pix (tn t) (tp t) k) (tn t - 1 - pix (tn t) (tp t) k')) ∧ (lf (fT t) k k' ↔ lf (mF t) (tn t - 1 - pix (tn t) (tp t) k') (tn t - 1 - pix (tn t) (tp t) k)) := by
  have e : ∀ z, 0 ≤ z → z < tn t → (mF t).2 (tn t - 1 - pix (tn t) (tp t) z) = tn t - (z - dp (tp t) z) := fun z z0 z1 => by
    show tn t - lfs t (tn t - 1 - (tn t - 1 - pix (tn t) (tp t) z)) = _
    rw [show tn t - 1 - (tn t - 1 - pix (tn t) (tp t) z) = pix (tn t) (tp t) z by omega, lfs_pix hw z0 z1]
  have c1 := pix_c hw k0 k1 k0' k1'
  have c2 := pix_c hw k0' k1' k0 k1
  have r1 := te_rng k1
  have r2 := te_rng k1'
  have p1 : pix (tn t) (tp t) k = k - dp (tp t) k + (te t k - k - 1) := rfl
  have p2 : pix (tn t) (tp t) k' = k' - dp (tp t) k' + (te t k' - k' - 1) := rfl
  unfold an lf
  rw [e k k0 k1, e k' k0' k1']
  have f1 : (fT t).2 k = te t k := rfl
  rw [f1]
  have anc : k' < k → k < te t k' → pix (tn t) (tp t) k < pix (tn t) (tp t) k' := fun a b => (pix_lt hw.1 k0' a k1).1 b
  refine ⟨⟨fun h => ?_, fun h => ?_⟩, ⟨fun h => ?_, fun h => ?_⟩⟩
  · have := c1.1 h.1 h.2; omega
  · by_cases q : k ≤ k'
    · by_cases q2 : k' < te t k
      · exact ⟨q, q2⟩
      · have := c1.2 (by omega); omega
    · by_cases q2 : k < te t k'
      · have := anc (by omega) q2; omega
      · have := c2.2 (by omega); omega
  · have := c1.2 h; omega
  · by_cases q : te t k ≤ k'
    · exact q
    · exfalso
      by_cases q2 : k ≤ k'
      · have := c1.1 q2 (by omega); omega
      · by_cases q3 : k < te t k'
        · have := c2.1 (by omega) q3; omega
        · have := c2.2 (by omega); omega
theorem mF_ok {t : TT} (hw : wfT t) : okF (mF t) := by
  have n := tn_rng hw
  intro i i0 i1
  have i1 : i < tn t := i1
  have hl := lfs_rng hw (x := tn t - 1 - i) (by omega) (by omega)
  refine ⟨by show i < tn t - lfs t (tn t - 1 - i); omega, by show tn t - lfs t (tn t - 1 - i) ≤ tn t; omega, fun i' a b => ?_⟩
  have b' : i' < tn t - lfs t (tn t - 1 - i) := b
  have h1 := nAt_ok hw (i := tn t - 1 - i) (by omega) (by omega)
  have h2 := nAt_ok hw (i := tn t - 1 - i') (by omega) (by omega)
  have m := (mir hw h1.1 h1.2.1 h2.1 h2.2.1).1
  rw [h1.2.2, h2.2.2, show tn t - 1 - (tn t - 1 - i) = i by omega, show tn t - 1 - (tn t - 1 - i') = i' by omega] at m
  have an' := m.2 ⟨a, b⟩
  have d := dp_mono hw.1 (nAt t (tn t - 1 - i') - nAt t (tn t - 1 - i)).toNat (nAt t (tn t - 1 - i)) h1.1 (by have := an'.1; omega)
  rw [show nAt t (tn t - 1 - i) + (((nAt t (tn t - 1 - i') - nAt t (tn t - 1 - i)).toNat : Nat) : Int) = nAt t (tn t - 1 - i') by have := an'.1; omega] at d
  have l1 := lfs_pix hw h1.1 h1.2.1
  have l2 := lfs_pix hw h2.1 h2.2.1
  rw [h1.2.2] at l1
  rw [h2.2.2] at l2
  show tn t - lfs t (tn t - 1 - i') ≤ tn t - lfs t (tn t - 1 - i)
  omega
noncomputable def wM (t0 t1 : TT) (i j : Int) : Int := 2 - chT t0 t1 (nAt t0 (tn t0 - 1 - i)) (nAt t1 (tn t1 - 1 - j))
theorem dist_mir {t0 t1 : TT} (w0 : wfT t0) (w1 : wfT t1) {d d' : Int} (h : isDist t0 t1 d) (h' : isD (mF t0) (mF t1) (wM t0 t1) 0 0 (tn t0) (tn t1) d') : d = d' := by
  have m0 := tn_rng w0
  have m1 := tn_rng w1
  have g := isG_map (F0 := fT t0) (F1 := fT t1) (G0 := mF t0) (G1 := mF t1) (w := wT t0 t1) (w' := wM t0 t1) (r0 := fun k => tn t0 - 1 - pix (tn t0) (tp t0) k) (r1 := fun k => tn t1 - 1 - pix (tn t1) (tp t1) k) (s0 := fun i => nAt t0 (tn t0 - 1 - i)) (s1 := fun i => nAt t1 (tn t1 - 1 - i))
    (fun k k0 k1 => by have k1 : k < tn t0 := k1; have := pix_rng w0.1 k0 k1; show 0 ≤ tn t0 - 1 - pix (tn t0) (tp t0) k ∧ tn t0 - 1 - pix (tn t0) (tp t0) k < tn t0; omega)
    (fun k k0 k1 => by have k1 : k < tn t1 := k1; have := pix_rng w1.1 k0 k1; show 0 ≤ tn t1 - 1 - pix (tn t1) (tp t1) k ∧ tn t1 - 1 - pix (tn t1) (tp t1) k < tn t1; omega)
    (fun k k0 k1 => by
      have k1 : k < tn t0 := k1
      have h := nAt_ok w0 (i := tn t0 - 1 - k) (by omega) (by omega)
      refine ⟨h.1, h.2.1, ?_⟩
      show tn t0 - 1 - pix (tn t0) (tp t0) (nAt t0 (tn t0 - 1 - k)) = k
      rw [h.2.2]; omega)
    (fun k k0 k1 => by
      have k1 : k < tn t1 := k1
      have h := nAt_ok w1 (i := tn t1 - 1 - k) (by omega) (by omega)
      refine ⟨h.1, h.2.1, ?_⟩
      show tn t1 - 1 - pix (tn t1) (tp t1) (nAt t1 (tn t1 - 1 - k)) = k
      rw [h.2.2]; omega)
    (fun x y x0 x1 y0 y1 => by
      have x1 : x < tn t0 := x1
      have y1 : y < tn t1 := y1
      show 2 - chT t0 t1 (nAt t0 (tn t0 - 1 - (tn t0 - 1 - pix (tn t0) (tp t0) x))) (nAt t1 (tn t1 - 1 - (tn t1 - 1 - pix (tn t1) (tp t1) y))) = 2 - chT t0 t1 x y
      rw [show tn t0 - 1 - (tn t0 - 1 - pix (tn t0) (tp t0) x) = pix (tn t0) (tp t0) x by omega, show tn t1 - 1 - (tn t1 - 1 - pix (tn t1) (tp t1) y) = pix (tn t1) (tp t1) y by omega, nAt_pix w0 x0 x1, nAt_pix w1 y0 y1])
    (fun p q hp hq => by
      have p1 : p.1 < tn t0 := hp.2.1
      have p2 : p.2 < tn t1 := hp.2.2.2
      have q1 : q.1 < tn t0 := hq.2.1
      have q2 : q.2 < tn t1 := hq.2.2.2
      have a1 := mir w0 hp.1 p1 hq.1 q1
      have a2 := mir w0 hq.1 q1 hp.1 p1
      have b1 := mir w1 hp.2.2.1 p2 hq.2.2.1 q2
      have b2 := mir w1 hq.2.2.1 q2 hp.2.2.1 p2
      have n1 : p.1 ≠ q.1 ↔ tn t0 - 1 - pix (tn t0) (tp t0) p.1 ≠ tn t0 - 1 - pix (tn t0) (tp t0) q.1 := ⟨fun h e => h (pix_inj w0.1 hp.1 p1 hq.1 q1 (by omega)), fun h e => h (by rw [e])⟩
      have n2 : p.2 ≠ q.2 ↔ tn t1 - 1 - pix (tn t1) (tp t1) p.2 ≠ tn t1 - 1 - pix (tn t1) (tp t1) q.2 := ⟨fun h e => h (pix_inj w1.1 hp.2.2.1 p2 hq.2.2.1 q2 (by omega)), fun h e => h (by rw [e])⟩
      unfold RR
      show _ ↔ (tn t0 - 1 - pix (tn t0) (tp t0) p.1 ≠ tn t0 - 1 - pix (tn t0) (tp t0) q.1 ∧ tn t1 - 1 - pix (tn t1) (tp t1) p.2 ≠ tn t1 - 1 - pix (tn t1) (tp t1) q.2) ∧ (an (mF t0) (tn t0 - 1 - pix (tn t0) (tp t0) p.1) (tn t0 - 1 - pix (tn t0) (tp t0) q.1) ↔ an (mF t1) (tn t1 - 1 - pix (tn t1) (tp t1) p.2) (tn t1 - 1 - pix (tn t1) (tp t1) q.2)) ∧ (an (mF t0) (tn t0 - 1 - pix (tn t0) (tp t0) q.1) (tn t0 - 1 - pix (tn t0) (tp t0) p.1) ↔ an (mF t1) (tn t1 - 1 - pix (tn t1) (tp t1) q.2) (tn t1 - 1 - pix (tn t1) (tp t1) p.2)) ∧ (lf (mF t0) (tn t0 - 1 - pix (tn t0) (tp t0) p.1) (tn t0 - 1 - pix (tn t0) (tp t0) q.1) ↔ lf (mF t1) (tn t1 - 1 - pix (tn t1) (tp t1) p.2) (tn t1 - 1 - pix (tn t1) (tp t1) q.2)) ∧ (lf (mF t0) (tn t0 - 1 - pix (tn t0) (tp t0) q.1) (tn t0 - 1 - pix (tn t0) (tp t0) p.1) ↔ lf (mF t1) (tn t1 - 1 - pix (tn t1) (tp t1) q.2) (tn t1 - 1 - pix (tn t1) (tp t1) p.2))
      rw [← a1.1, ← a2.1, ← b1.1, ← b2.1, ← a1.2, ← a2.2, ← b1.2, ← b2.2, ← n1, ← n2]
      exact ⟨fun h => ⟨h.1, h.2.1, h.2.2.1, h.2.2.2.2, h.2.2.2.1⟩, fun h => ⟨h.1, h.2.1, h.2.2.1, h.2.2.2.2, h.2.2.2.1⟩⟩)
    h.1
  have := isG_uniq g h'.1
  omega
abbrev Pfl (m : Nat) : Nat → Nat → Prop := fun o f => o = m ∧ (f = 14 ∨ f = 15 ∨ f = 24 ∨ f = 37 ∨ f = 38)
theorem s_Mo_findLefts {Λ : QLay} {m : Nat} {i : Int} {S : QMem} {Q : QMem → Prop} {t : TT} (hT : mT S m i t) (hw : wfT t) (hi : i = 0 ∨ i = 1)
    (hq : ∀ S', Kp (Pfl m) S S' → (∀ k, 0 ≤ k → k < tn t → S'.1 m 37 (24 * i + k) = nAt t k ∧ S'.1 m 38 (24 * i + k) = lfs t k) → (∀ f j, f = 37 ∨ f = 38 → ¬ (24 * i ≤ j ∧ j < 24 * i + 24) → S'.1 m f j = S.1 m f j) → Q S') : w_Mo_findLefts Λ m i S Q := by
  have n := tn_rng hw
  unfold w_Mo_findLefts
  refine s_Mo_findPost hi hw.1 hT.1.1 (fun k k0 k1 => (hT.1.2 k k0 k1).2.2) (fun S1 hk1 hpo => ?_)
  have K1 : Kp (Pfl m) S S1 := hk1.mono (fun o f z => ⟨z.1, by have := z.2; omega⟩)
  have hT' : ∀ S', Kp (Pfl m) S S' → mT S' m i t := fun S' K => mT_kp K (fun f hf z => by have := z.2; omega) hT
  have key : ∀ (f : Nat) (k : Int) (S2 : QMem), 0 ≤ k → k + f = tn t → Kp (fun o f => o = m ∧ (f = 37 ∨ f = 38)) S1 S2 → (∀ j, 0 ≤ j → j < k → S2.1 m 37 (24 * i + j) = nAt t j ∧ S2.1 m 38 (24 * i + j) = lfs t j) → (∀ f j, f = 37 ∨ f = 38 → ¬ (24 * i ≤ j ∧ j < 24 * i + 24) → S2.1 m f j = S.1 m f j) → w_Mo_findLefts_7 Λ Q (f + 1) m i k S2 := by
    intro f
    induction f with
    | zero =>
      intro k S2 k0 hk k2 h1 h2
      have K2 := K1.tr (k2.mono (fun o f z => (⟨z.1, by have := z.2; omega⟩ : Pfl m o f)))
      rw [w_Mo_findLefts_7, (hT' S2 K2).1.1]
      exact ⟨by omega, by unfold inR; omega, by unfold inR; omega, fun _ => hq S2 K2 (fun j j0 j1 => h1 j j0 (by omega)) h2, fun z => by omega⟩
    | succ f ih =>
      intro k S2 k0 hk k2 h1 h2
      have K2 := K1.tr (k2.mono (fun o f z => (⟨z.1, by have := z.2; omega⟩ : Pfl m o f)))
      have e24 : ∀ S', Kp (fun o f => o = m ∧ (f = 37 ∨ f = 38)) S1 S' → S'.1 m 24 k = nAt t k := fun S' k' => by
        rw [k'.at (by omega)]; exact nAt_eq hw k0 (by omega) hpo
      have hn := nAt_ok hw (i := k) k0 (by omega)
      rw [w_Mo_findLefts_7, (hT' S2 K2).1.1]
      refine ⟨by omega, by unfold inR; omega, by unfold inR; omega, fun z => by omega, fun _ => ?_⟩
      dsimp only [w_Mo_at]
      rw [e24 S2 k2]
      refine ⟨by omega, by omega, ?_⟩
      intro S3 e3
      have k3 : Kp (fun o f => o = m ∧ (f = 37 ∨ f = 38)) S1 S3 := by rw [e3]; exact k2.st ⟨rfl, Or.inl rfl⟩
      have K3 := K1.tr (k3.mono (fun o f z => (⟨z.1, by have := z.2; omega⟩ : Pfl m o f)))
      rw [e24 S3 k3]
      refine ⟨by omega, s_Mo_size (hT' S3 K3) hw hi hn.1 hn.2.1 ⟨by omega, ?_⟩⟩
      intro S4 e4
      refine ih (k + 1) S4 (by omega) (by omega) (by rw [e4]; exact k3.st ⟨rfl, Or.inr rfl⟩) (fun j j0 j1 => ?_) (fun f j hf hj => ?_)
      · by_cases q : j = k
        · rw [e4, e3, q]; simp [q_st]; rfl
        · have qq : ¬ 24 * i + j = 24 * i + k := by omega
          rw [e4, e3]; simp only [q_st]
          rw [if_neg (fun z => qq z.2.2), if_neg (fun z => qq z.2.2), if_neg (fun z => qq z.2.2), if_neg (fun z => qq z.2.2)]
          exact h1 j j0 (by omega)
      · have qq : ¬ j = 24 * i + k := by omega
        rw [e4, e3]; simp only [q_st]
        rw [if_neg (fun z => qq z.2.2), if_neg (fun z => qq z.2.2)]
        exact h2 f j hf hj
  exact ⟨_, key (tn t).toNat 0 S1 (by omega) (by omega) Kp.rf (fun j a b => by omega) (fun f j hf hj => hk1.at (fun z => by have := z.2; omega))⟩
/-- postorder and leftmost nodes, as found -/
def LM (S : QMem) (m : Nat) (t0 t1 : TT) : Prop := (∀ k, 0 ≤ k → k < tn t0 → S.1 m 37 (24 * 0 + k) = nAt t0 k ∧ S.1 m 38 (24 * 0 + k) = lfs t0 k) ∧ (∀ k, 0 ≤ k → k < tn t1 → S.1 m 37 (24 * 1 + k) = nAt t1 k ∧ S.1 m 38 (24 * 1 + k) = lfs t1 k)
theorem LM_kp {P : Nat → Nat → Prop} {S S' : QMem} {m : Nat} {t0 t1 : TT} (hk : Kp P S S') (h7 : ¬ P m 37) (h8 : ¬ P m 38) (h : LM S m t0 t1) : LM S' m t0 t1 := ⟨fun k a b => by rw [hk.at h7, hk.at h8]; exact h.1 k a b, fun k a b => by rw [hk.at h7, hk.at h8]; exact h.2 k a b⟩
def exL (t : TT) (x : Int) : Prop := ∃ z, x < z ∧ z < tn t ∧ lfs t z = lfs t x
theorem s_Mo_isKey {Λ : QLay} {m : Nat} {i x : Int} {S : QMem} {Q : Int → QMem → Prop} {t : TT} (hT : mT S m i t) (hw : wfT t) (hi : i = 0 ∨ i = 1) (hl : ∀ k, 0 ≤ k → k < tn t → S.1 m 38 (24 * i + k) = lfs t k) (x0 : 0 ≤ x) (x1 : x < tn t) (h1 : ky (mF t) (tn t - 1 - x) → Q 1 S) (h0 : ¬ ky (mF t) (tn t - 1 - x) → Q 0 S) : w_Mo_isKey Λ m i x S Q := by
  have n := tn_rng hw
  have hx := lfs_rng hw x0 x1
  unfold w_Mo_isKey
  intro k1 hk1
  rw [hk1]
  have key : ∀ (f : Nat) (k v : Int), x < k → k + f = tn t → (v = 0 ∨ v = 1) → (v = 1 → ∀ z, x < z → z < k → lfs t z ≠ lfs t x) → (v = 0 → exL t x) → w_Mo_isKey_7 Λ Q (f + 1) m i x v k S := by
    intro f
    induction f with
    | zero =>
      intro k v k0 hk hv hv1 hv0
      rw [w_Mo_isKey_7, hT.1.1]
      refine ⟨by omega, by unfold inR; omega, by unfold inR; omega, fun _ => ⟨by unfold bl; omega, ?_⟩, fun z => by omega⟩
      rcases hv with e | e
      · rw [e]
        obtain ⟨z, z0, z1, ez⟩ := hv0 e
        refine h0 (fun ky => ky (tn t - 1 - z) (by omega) (by omega) ?_)
        show tn t - lfs t (tn t - 1 - (tn t - 1 - z)) = tn t - lfs t (tn t - 1 - (tn t - 1 - x))
        rw [show tn t - 1 - (tn t - 1 - z) = z by omega, show tn t - 1 - (tn t - 1 - x) = x by omega, ez]
      · rw [e]
        refine h1 (fun z z0 z1 ez => ?_)
        have ez : tn t - lfs t (tn t - 1 - z) = tn t - lfs t (tn t - 1 - (tn t - 1 - x)) := ez
        rw [show tn t - 1 - (tn t - 1 - x) = x by omega] at ez
        exact hv1 e (tn t - 1 - z) (by omega) (by omega) (by omega)
    | succ f ih =>
      intro k v k0 hk hv hv1 hv0
      have hlk := lfs_rng hw (x := k) (by omega) (by omega)
      rw [w_Mo_isKey_7, hT.1.1]
      refine ⟨by omega, by unfold inR; omega, by unfold inR; omega, fun z => by omega, fun _ => ⟨by unfold inR; omega, fun z => ih (k + 1) 0 (by omega) (by omega) (Or.inl rfl) (fun y => by omega) (fun _ => hv0 z), fun z => ?_⟩⟩
      dsimp only [w_Mo_at]
      rw [hl k (by omega) (by omega), hl x x0 x1]
      refine ⟨by omega, by omega, by unfold inR; omega, by unfold inR; omega, fun y => ih (k + 1) 0 (by omega) (by omega) (Or.inl rfl) (fun y => by omega) (fun _ => ⟨k, k0, by omega, y⟩), fun y => ih (k + 1) 1 (by omega) (by omega) (Or.inr rfl) (fun _ w w0 w1 => ?_) (fun y => by omega)⟩
      by_cases q : w = k
      · rw [q]; exact y
      · exact hv1 (by omega) w w0 (by omega)
  exact ⟨_, key (tn t - 1 - x).toNat (x + 1) 1 (by omega) (by omega) (Or.inr rfl) (fun _ z a b => by omega) (fun z => by omega)⟩
theorem s_Mo_renaming {Λ : QLay} {m : Nat} {x y : Int} {S : QMem} {Q : Int → QMem → Prop} {t0 t1 : TT} (hW : WM m S t0 t1) (hL : LM S m t0 t1) (x0 : 0 ≤ x) (x1 : x < tn t0) (y0 : 0 ≤ y) (y1 : y < tn t1) (hq : Q (chT t0 t1 (nAt t0 x) (nAt t1 y)) S) : w_Mo_renaming Λ m x y S Q := by
  obtain ⟨c0, c1, w0, w1⟩ := hW
  have m0 := tn_rng w0
  have m1 := tn_rng w1
  have a := nAt_ok w0 x0 x1
  have b := nAt_ok w1 y0 y1
  have la := w0.2 _ a.1 a.2.1
  have lb := w1.2 _ b.1 b.2.1
  unfold w_Mo_renaming
  dsimp only [w_Mo_at]
  rw [(hL.1 x x0 x1).1, (hL.2 y y0 y1).1, (c0.1.2 _ a.1 a.2.1).1, (c0.1.2 _ a.1 a.2.1).2.1, (c1.1.2 _ b.1 b.2.1).1, (c1.1.2 _ b.1 b.2.1).2.1]
  unfold chT at hq
  refine ⟨by omega, by omega, by omega, by omega, by unfold inR; omega, by unfold inR; omega, fun z => ?_, fun z => ⟨by omega, by omega, by unfold inR; omega, by unfold inR; omega, fun z2 => ?_, fun z2 => ?_⟩⟩
  · rw [if_neg (fun w => z w.1)] at hq; exact hq
  · rw [if_neg (fun w => z2 w.2)] at hq; exact hq
  · rw [if_pos ⟨z, z2⟩] at hq; exact hq
theorem s_Mo_least {Λ : QLay} {u v : Int} {S : QMem} {Q : Int → QMem → Prop} (hu : inR u) (hv : inR v) (hq : ∀ r, r ≤ u → r ≤ v → (r = u ∨ r = v) → Q r S) : w_Mo_least Λ u v S Q := by
  unfold w_Mo_least
  exact ⟨hu, hv, fun z => hq v z (Int.le_refl _) (Or.inr rfl), fun z => hq u (Int.le_refl _) (by omega) (Or.inl rfl)⟩
/-- what is kept of two subtrees, by the mirrored numbers -/
def tm (S : QMem) (m : Nat) (t0 t1 : TT) (a b : Int) : Int := S.1 m 39 (24 * (tn t0 - 1 - a) + (tn t1 - 1 - b))
abbrev Pcp2 (m : Nat) : Nat → Nat → Prop := fun o f => o = m ∧ (f = 39 ∨ f = 40)
theorem s_Mo_compares {Λ : QLay} {m : Nat} {p q : Int} {S : QMem} {Q : QMem → Prop} {t0 t1 : TT} (hW : WM m S t0 t1) (hL : LM S m t0 t1) (p0 : 0 ≤ p) (p1 : p < tn t0) (r0 : 0 ≤ q) (r1 : q < tn t1) (hkx : ky (mF t0) (tn t0 - 1 - p)) (hky : ky (mF t1) (tn t1 - 1 - q)) (hT : TI (mF t0) (mF t1) (wM t0 t1) (tm S m t0 t1) (tn t0 - 1 - p) (tn t1 - 1 - q))
    (hq : ∀ S', Kp (Pcp2 m) S S' → TI (mF t0) (mF t1) (wM t0 t1) (tm S' m t0 t1) (tn t0 - 1 - p) (tn t1 - 1 - q - 1) → Q S') : w_Mo_compares Λ m p q S Q := by
  have w0 := hW.2.2.1
  have w1 := hW.2.2.2
  have m0 := tn_rng w0
  have m1 := tn_rng w1
  have o0 := mF_ok w0
  have o1 := mF_ok w1
  have la := lfs_rng w0 p0 p1
  have lb := lfs_rng w1 r0 r1
  have E0 : ∀ X, (mF t0).2 (tn t0 - 1 - X) = tn t0 - lfs t0 X := fun X => by
    show tn t0 - lfs t0 (tn t0 - 1 - (tn t0 - 1 - X)) = _
    rw [show tn t0 - 1 - (tn t0 - 1 - X) = X by omega]
  have E1 : ∀ X, (mF t1).2 (tn t1 - 1 - X) = tn t1 - lfs t1 X := fun X => by
    show tn t1 - lfs t1 (tn t1 - 1 - (tn t1 - 1 - X)) = _
    rw [show tn t1 - 1 - (tn t1 - 1 - X) = X by omega]
  -- the nodes inside
  have in0 : ∀ X, lfs t0 p ≤ X → X ≤ p → lfs t0 p ≤ lfs t0 X := fun X a b => by
    have := (o0 (tn t0 - 1 - p) (by omega) (by show tn t0 - 1 - p < tn t0; omega)).2.2 (tn t0 - 1 - X) (by omega) (by rw [E0]; omega)
    rw [E0, E0] at this
    omega
  have in1 : ∀ X, lfs t1 q ≤ X → X ≤ q → lfs t1 q ≤ lfs t1 X := fun X a b => by
    have := (o1 (tn t1 - 1 - q) (by omega) (by show tn t1 - 1 - q < tn t1; omega)).2.2 (tn t1 - 1 - X) (by omega) (by rw [E1]; omega)
    rw [E1, E1] at this
    omega
  have Tend : ∀ S', (∀ X Y, 0 ≤ X → X < tn t0 → 0 ≤ Y → Y < tn t1 → ¬ (lfs t0 X = lfs t0 p ∧ lfs t1 Y = lfs t1 q) → S'.1 m 39 (24 * X + Y) = S.1 m 39 (24 * X + Y)) → (∀ X Y, lfs t0 p ≤ X → X ≤ p → lfs t1 q ≤ Y → Y ≤ q → lfs t0 X = lfs t0 p → lfs t1 Y = lfs t1 q → isD (mF t0) (mF t1) (wM t0 t1) (tn t0 - 1 - X) (tn t1 - 1 - Y) (tn t0 - lfs t0 p) (tn t1 - lfs t1 q) (S'.1 m 39 (24 * X + Y))) → TI (mF t0) (mF t1) (wM t0 t1) (tm S' m t0 t1) (tn t0 - 1 - p) (tn t1 - 1 - q - 1) := by
    intro S' hs hd i j x' y' i0 i1 j0 j1 kx' ky' hlt
    have i1 : i < tn t0 := i1
    have j1 : j < tn t1 := j1
    have ei : tn t0 - 1 - (tn t0 - 1 - i) = i := by omega
    have ej : tn t1 - 1 - (tn t1 - 1 - j) = j := by omega
    have Ei := E0 (tn t0 - 1 - i)
    have Ej := E1 (tn t1 - 1 - j)
    rw [ei] at Ei
    rw [ej] at Ej
    have li := lfs_rng w0 (x := tn t0 - 1 - i) (by omega) (by omega)
    have lj := lfs_rng w1 (x := tn t1 - 1 - j) (by omega) (by omega)
    by_cases qq : lfs t0 (tn t0 - 1 - i) = lfs t0 p ∧ lfs t1 (tn t1 - 1 - j) = lfs t1 q
    · have e1 := isK_u kx' (⟨by omega, Int.le_refl _, rfl, hkx⟩ : isK (mF t0) (tn t0 - 1 - p) (tn t0 - 1 - p)) (by rw [Ei, E0, qq.1])
      have e2 := isK_u ky' (⟨by omega, Int.le_refl _, rfl, hky⟩ : isK (mF t1) (tn t1 - 1 - q) (tn t1 - 1 - q)) (by rw [Ej, E1, qq.2])
      have bi := kx'.2.1
      have bj := ky'.2.1
      have := hd (tn t0 - 1 - i) (tn t1 - 1 - j) (by omega) (by omega) (by omega) (by omega) qq.1 qq.2
      rw [ei, ej] at this
      rw [Ei, Ej, qq.1, qq.2]
      exact this
    · show isD (mF t0) (mF t1) (wM t0 t1) i j ((mF t0).2 i) ((mF t1).2 j) (S'.1 m 39 (24 * (tn t0 - 1 - i) + (tn t1 - 1 - j)))
      rw [hs _ _ (by omega) (by omega) (by omega) (by omega) qq]
      refine hT i j x' y' i0 i1 j0 j1 kx' ky' ?_
      rcases hlt with z | z
      · exact Or.inl z
      · by_cases q2 : tn t1 - 1 - q < y'
        · exact Or.inr ⟨z.1, q2⟩
        · exfalso
          have e2 : y' = tn t1 - 1 - q := by omega
          have h1 := kx'.2.2.1
          have h2 := ky'.2.2.1
          rw [← z.1, E0, Ei] at h1
          rw [e2, E1, Ej] at h2
          exact qq ⟨by omega, by omega⟩
  have Tknow : ∀ X Y, lfs t0 p ≤ X → X ≤ p → lfs t1 q ≤ Y → Y ≤ q → ¬ (lfs t0 X = lfs t0 p ∧ lfs t1 Y = lfs t1 q) → isD (mF t0) (mF t1) (wM t0 t1) (tn t0 - 1 - X) (tn t1 - 1 - Y) (tn t0 - lfs t0 X) (tn t1 - lfs t1 Y) (S.1 m 39 (24 * X + Y)) := by
    intro X Y a0 a1 b0 b1 qq
    obtain ⟨x', kx'⟩ := ky_ex (mF t0) ((tn t0 - 1 - X).toNat + 1) (tn t0 - 1 - X) (by omega) (by omega)
    obtain ⟨y', ky'⟩ := ky_ex (mF t1) ((tn t1 - 1 - Y).toNat + 1) (tn t1 - 1 - Y) (by omega) (by omega)
    have hx := ky_in o0 (x := tn t0 - 1 - p) (i := tn t0 - 1 - X) (by omega) (by show tn t0 - 1 - p < tn t0; omega) hkx (by omega) (by rw [E0]; omega) kx'
    have hy := ky_in o1 (x := tn t1 - 1 - q) (i := tn t1 - 1 - Y) (by omega) (by show tn t1 - 1 - q < tn t1; omega) hky (by omega) (by rw [E1]; omega) ky'
    rw [E0, E0] at hx
    rw [E1, E1] at hy
    have h := hT (tn t0 - 1 - X) (tn t1 - 1 - Y) x' y' (by omega) (by show tn t0 - 1 - X < tn t0; omega) (by omega) (by show tn t1 - 1 - Y < tn t1; omega) kx' ky' (by
      by_cases q1 : lfs t0 X = lfs t0 p
      · exact Or.inr ⟨(hx.2.1 (by omega)).symm, hy.2.2 (by omega)⟩
      · exact Or.inl (hx.2.2 (by omega)))
    rw [E0, E1] at h
    unfold tm at h
    rw [show tn t0 - 1 - (tn t0 - 1 - X) = X by omega, show tn t1 - 1 - (tn t1 - 1 - Y) = Y by omega] at h
    exact h
  unfold w_Mo_compares
  dsimp only [w_Mo_at]
  refine ⟨by omega, ?_⟩
  intro a ha
  rw [(hL.1 p p0 p1).2] at ha
  refine ⟨by omega, ?_⟩
  intro b hb
  rw [(hL.2 q r0 r1).2] at hb
  rw [ha, hb]
  intro x38 hx38
  have main : ∀ (f : Nat) (X : Int) (S1 : QMem), lfs t0 p - 1 ≤ X → X + f = p + 1 → Kp (Pcp2 m) S S1 →
      (∀ X' Y', lfs t0 p - 1 ≤ X' → X' < X → lfs t1 q - 1 ≤ Y' → Y' ≤ q → isD (mF t0) (mF t1) (wM t0 t1) (tn t0 - 1 - X') (tn t1 - 1 - Y') (tn t0 - lfs t0 p) (tn t1 - lfs t1 q) (S1.1 m 40 (25 * (X' + 1 - lfs t0 p) + Y' + 1 - lfs t1 q))) →
      (∀ X' Y', 0 ≤ X' → X' < tn t0 → 0 ≤ Y' → Y' < tn t1 → ¬ (lfs t0 X' = lfs t0 p ∧ lfs t1 Y' = lfs t1 q) → S1.1 m 39 (24 * X' + Y') = S.1 m 39 (24 * X' + Y')) →
      (∀ X' Y', lfs t0 p ≤ X' → X' < X → lfs t1 q ≤ Y' → Y' ≤ q → lfs t0 X' = lfs t0 p → lfs t1 Y' = lfs t1 q → isD (mF t0) (mF t1) (wM t0 t1) (tn t0 - 1 - X') (tn t1 - 1 - Y') (tn t0 - lfs t0 p) (tn t1 - lfs t1 q) (S1.1 m 39 (24 * X' + Y'))) → w_Mo_compares_28 Λ Q (f + 1) m p q (lfs t0 p) (lfs t1 q) X S1 := by
    intro f
    induction f with
    | zero =>
      intro X S1 a0 a1 hk hF hs hd
      rw [w_Mo_compares_28]
      exact ⟨by unfold inR; omega, by unfold inR; omega, fun _ => hq S1 hk (Tend S1 hs (fun X' Y' b0 b1 => hd X' Y' b0 (by omega))), fun z => by omega⟩
    | succ f ih =>
      intro X S1 a0 a1 hk hF hs hd
      rw [w_Mo_compares_28]
      refine ⟨by unfold inR; omega, by unfold inR; omega, fun z => by omega, fun _ => ?_⟩
      intro jj hjj
      rw [hjj]
      have row : ∀ (g : Nat) (Y : Int) (S2 : QMem), lfs t1 q - 1 ≤ Y → Y + g = q + 1 → Kp (Pcp2 m) S S2 →
          (∀ X' Y', lfs t0 p - 1 ≤ X' → (X' < X ∨ (X' = X ∧ Y' < Y)) → lfs t1 q - 1 ≤ Y' → Y' ≤ q → isD (mF t0) (mF t1) (wM t0 t1) (tn t0 - 1 - X') (tn t1 - 1 - Y') (tn t0 - lfs t0 p) (tn t1 - lfs t1 q) (S2.1 m 40 (25 * (X' + 1 - lfs t0 p) + Y' + 1 - lfs t1 q))) →
          (∀ X' Y', 0 ≤ X' → X' < tn t0 → 0 ≤ Y' → Y' < tn t1 → ¬ (lfs t0 X' = lfs t0 p ∧ lfs t1 Y' = lfs t1 q) → S2.1 m 39 (24 * X' + Y') = S.1 m 39 (24 * X' + Y')) →
          (∀ X' Y', lfs t0 p ≤ X' → (X' < X ∨ (X' = X ∧ Y' < Y)) → lfs t1 q ≤ Y' → Y' ≤ q → lfs t0 X' = lfs t0 p → lfs t1 Y' = lfs t1 q → isD (mF t0) (mF t1) (wM t0 t1) (tn t0 - 1 - X') (tn t1 - 1 - Y') (tn t0 - lfs t0 p) (tn t1 - lfs t1 q) (S2.1 m 39 (24 * X' + Y'))) → w_Mo_compares_40 Λ (fun v0' v1' v2' v3' v4' v5' S' => w_Mo_compares_28 Λ Q (f + 1) v0' v1' v2' v3' v4' v5' S') Q (g + 1) m p q (lfs t0 p) (lfs t1 q) X Y S2 := by
        intro g
        induction g with
        | zero =>
          intro Y S2 b0 b1 hk2 hF2 hs2 hd2
          rw [w_Mo_compares_40]
          refine ⟨by unfold inR; omega, by unfold inR; omega, fun _ => ih (X + 1) S2 (by omega) (by omega) hk2 (fun X' Y' c0 c1 c2 c3 => hF2 X' Y' c0 (by omega) c2 c3) hs2 (fun X' Y' c0 c1 c2 c3 => hd2 X' Y' c0 (by omega) c2 c3), fun z => by omega⟩
        | succ g ihg =>
          intro Y S2 b0 b1 hk2 hF2 hs2 hd2
          -- a cell is written
          have put : ∀ (S3 S4 : QMem) (v : Int), Kp (Pcp2 m) S S3 → (∀ i, S3.1 m 40 i = S2.1 m 40 i) → S4 = q_st S3 m 40 (25 * (X + 1 - lfs t0 p) + Y + 1 - lfs t1 q) v → isD (mF t0) (mF t1) (wM t0 t1) (tn t0 - 1 - X) (tn t1 - 1 - Y) (tn t0 - lfs t0 p) (tn t1 - lfs t1 q) v →
              (∀ X' Y', 0 ≤ X' → X' < tn t0 → 0 ≤ Y' → Y' < tn t1 → ¬ (lfs t0 X' = lfs t0 p ∧ lfs t1 Y' = lfs t1 q) → S3.1 m 39 (24 * X' + Y') = S.1 m 39 (24 * X' + Y')) →
              (∀ X' Y', lfs t0 p ≤ X' → (X' < X ∨ (X' = X ∧ Y' ≤ Y)) → lfs t1 q ≤ Y' → Y' ≤ q → lfs t0 X' = lfs t0 p → lfs t1 Y' = lfs t1 q → isD (mF t0) (mF t1) (wM t0 t1) (tn t0 - 1 - X') (tn t1 - 1 - Y') (tn t0 - lfs t0 p) (tn t1 - lfs t1 q) (S3.1 m 39 (24 * X' + Y'))) →
              w_Mo_compares_40 Λ (fun v0' v1' v2' v3' v4' v5' S' => w_Mo_compares_28 Λ Q (f + 1) v0' v1' v2' v3' v4' v5' S') Q (g + 1) m p q (lfs t0 p) (lfs t1 q) X (Y + 1) S4 := by
            intro S3 S4 v hk3 h40 e4 hv hs3 hd3
            have n39 : ∀ i, S4.1 m 39 i = S3.1 m 39 i := fun i => by rw [e4]; simp [q_st]
            refine ihg (Y + 1) S4 (by omega) (by omega) (by rw [e4]; exact hk3.st ⟨rfl, Or.inr rfl⟩) (fun X' Y' c0 c1 c2 c3 => ?_) (fun X' Y' c0 c1 c2 c3 h => by rw [n39]; exact hs3 X' Y' c0 c1 c2 c3 h) (fun X' Y' c0 c1 c2 c3 => by rw [n39]; exact hd3 X' Y' c0 (by omega) c2 c3)
            by_cases qq : X' = X ∧ Y' = Y
            · rw [qq.1, qq.2, e4, q_st_eq]; exact hv
            · have ne : ¬ 25 * (X' + 1 - lfs t0 p) + Y' + 1 - lfs t1 q = 25 * (X + 1 - lfs t0 p) + Y + 1 - lfs t1 q := by omega
              rw [e4]; simp only [q_st]; rw [if_neg (fun z => ne z.2.2), h40]
              exact hF2 X' Y' c0 (by omega) c2 c3
          have base : (X = lfs t0 p - 1 ∨ Y = lfs t1 q - 1) → w_Mo_compares_78 Λ (fun v0' v1' v2' v3' v4' v5' S' => w_Mo_compares_28 Λ Q (f + 1) v0' v1' v2' v3' v4' v5' S') (fun v0' v1' v2' v3' v4' v5' v6' S' => w_Mo_compares_40 Λ (fun v0' v1' v2' v3' v4' v5' S' => w_Mo_compares_28 Λ Q (f + 1) v0' v1' v2' v3' v4' v5' S') Q (g + 1) v0' v1' v2' v3' v4' v5' v6' S') Q m p q (lfs t0 p) (lfs t1 q) X Y (25 * (X + 1 - lfs t0 p) + Y + 1 - lfs t1 q) S2 := fun hb => by
            unfold w_Mo_compares_78
            refine ⟨by omega, ?_⟩
            intro S3 e3
            refine put S2 S3 _ hk2 (fun _ => rfl) e3 ?_ hs2 (fun X' Y' c0 c1 c2 c3 e1 e2 => hd2 X' Y' c0 (by omega) c2 c3 e1 e2)
            rcases hb with z | z
            · have := isD_b0 (F0 := mF t0) (F1 := mF t1) (w := wM t0 t1) (i := tn t0 - 1 - X) (j := tn t1 - 1 - Y) (e := tn t0 - lfs t0 p) (e' := tn t1 - lfs t1 q) (by omega) (by omega)
              rw [show X + 1 - lfs t0 p + Y + 1 - lfs t1 q = tn t1 - lfs t1 q - (tn t1 - 1 - Y) by omega]
              exact this
            · have := isD_b1 (F0 := mF t0) (F1 := mF t1) (w := wM t0 t1) (i := tn t0 - 1 - X) (j := tn t1 - 1 - Y) (e := tn t0 - lfs t0 p) (e' := tn t1 - lfs t1 q) (by omega) (by omega)
              rw [show X + 1 - lfs t0 p + Y + 1 - lfs t1 q = tn t0 - lfs t0 p - (tn t0 - 1 - X) by omega]
              exact this
          rw [w_Mo_compares_40]
          refine ⟨by unfold inR; omega, by unfold inR; omega, fun z => by omega, fun _ => ?_⟩
          intro x63 hx63
          rw [hx63]
          refine ⟨by unfold inR; omega, by unfold inR; omega, fun z => base (Or.inl (by omega)), fun z => ⟨by unfold inR; omega, by unfold inR; omega, fun z2 => ?_, fun z2 => base (Or.inr (by omega))⟩⟩
          have W2 : WM m S2 t0 t1 := WM_kp hk2 (fun f hf y => by have := y.2; omega) hW
          have L2 : LM S2 m t0 t1 := LM_kp hk2 (by omega) (by omega) hL
          have lX := lfs_rng w0 (x := X) (by omega) (by omega)
          have lY := lfs_rng w1 (x := Y) (by omega) (by omega)
          have nX := in0 X (by omega) (by omega)
          have nY := in1 Y (by omega) (by omega)
          have v1 := hF2 (X - 1) Y (by omega) (by omega) (by omega) (by omega)
          have v2 := hF2 X (Y - 1) (by omega) (by omega) (by omega) (by omega)
          have v3 := hF2 (lfs t0 X - 1) (lfs t1 Y - 1) (by omega) (by omega) (by omega) (by omega)
          have v4 := hF2 (X - 1) (Y - 1) (by omega) (by omega) (by omega) (by omega)
          rw [show tn t0 - 1 - (X - 1) = tn t0 - 1 - X + 1 by omega, show 25 * (X - 1 + 1 - lfs t0 p) + Y + 1 - lfs t1 q = 25 * (X + 1 - lfs t0 p) + Y + 1 - lfs t1 q - 25 by omega] at v1
          rw [show tn t1 - 1 - (Y - 1) = tn t1 - 1 - Y + 1 by omega, show 25 * (X + 1 - lfs t0 p) + (Y - 1) + 1 - lfs t1 q = 25 * (X + 1 - lfs t0 p) + Y + 1 - lfs t1 q - 1 by omega] at v2
          rw [show tn t0 - 1 - (lfs t0 X - 1) = tn t0 - lfs t0 X by omega, show tn t1 - 1 - (lfs t1 Y - 1) = tn t1 - lfs t1 Y by omega, show 25 * (lfs t0 X - 1 + 1 - lfs t0 p) + (lfs t1 Y - 1) + 1 - lfs t1 q = 25 * (lfs t0 X - lfs t0 p) + lfs t1 Y - lfs t1 q by omega] at v3
          rw [show tn t0 - 1 - (X - 1) = tn t0 - 1 - X + 1 by omega, show tn t1 - 1 - (Y - 1) = tn t1 - 1 - Y + 1 by omega, show 25 * (X - 1 + 1 - lfs t0 p) + (Y - 1) + 1 - lfs t1 q = 25 * (X + 1 - lfs t0 p) + Y + 1 - lfs t1 q - 26 by omega] at v4
          have c1 := isD_le v1
          have c2 := isD_le v2
          have c3 := isD_le v3
          have c4 := isD_le v4
          have d1 := v1.2
          have d2 := v2.2
          have d3 := v3.2
          have d4 := v4.2
          refine ⟨by omega, by omega, s_Mo_least (by unfold inR; omega) (by unfold inR; omega) (fun r hr1 hr2 hr3 => ?_)⟩
          intro x126 hx126
          dsimp only [w_Mo_at]
          have g0 := (L2.1 X (by omega) (by omega)).2
          have g1 := (L2.2 Y (by omega) (by omega)).2
          rw [g0, g1]
          have notend : ¬ (lfs t0 X = lfs t0 p ∧ lfs t1 Y = lfs t1 q) → w_Mo_compares_163 Λ (fun v0' v1' v2' v3' v4' v5' S' => w_Mo_compares_28 Λ Q (f + 1) v0' v1' v2' v3' v4' v5' S') (fun v0' v1' v2' v3' v4' v5' v6' S' => w_Mo_compares_40 Λ (fun v0' v1' v2' v3' v4' v5' S' => w_Mo_compares_28 Λ Q (f + 1) v0' v1' v2' v3' v4' v5' S') Q (g + 1) v0' v1' v2' v3' v4' v5' v6' S') Q m p q (lfs t0 p) (lfs t1 q) X Y (25 * (X + 1 - lfs t0 p) + Y + 1 - lfs t1 q) x126 S2 := fun hne => by
            have hTk := Tknow X Y (by omega) (by omega) (by omega) (by omega) hne
            rw [← hs2 X Y (by omega) (by omega) (by omega) (by omega) hne] at hTk
            have cT' := isD_le hTk
            have dT' := hTk.2
            unfold w_Mo_compares_163 w_Mo_compares_164
            refine ⟨by unfold inR; omega, fun _ => ?_, fun w => absurd rfl w⟩
            dsimp only [w_Mo_at]
            rw [g0, g1]
            refine ⟨by omega, by omega, by omega, ?_⟩
            intro rest hrest
            rw [hrest]
            refine ⟨by omega, s_Mo_least (by unfold inR; omega) (by unfold inR; omega) (fun r' h1' h2' h3' => ⟨by omega, ?_⟩)⟩
            intro S3 e3
            refine put S2 S3 r' hk2 (fun _ => rfl) e3 ?_ hs2 (fun X' Y' e0 e1 e2 e4 e5 e6 => hd2 X' Y' e0 ?_ e2 e4 e5 e6)
            · refine isD_step o0 o1 (by omega) (by omega) (by omega) (by omega) (by rw [E0]; omega) (by rw [E1]; omega) (by show tn t0 - lfs t0 p ≤ tn t0; omega) (by show tn t1 - lfs t1 q ≤ tn t1; omega) v1 v2 (by rw [E0, E1]; exact v3) (by rw [E0, E1]; exact hTk) (by omega) (by omega) (by omega) (by omega)
            · by_cases qq : X' = X ∧ Y' = Y
              · rw [qq.1] at e5; rw [qq.2] at e6; exact absurd ⟨e5, e6⟩ hne
              · omega
          refine ⟨by omega, by unfold inR; omega, by unfold inR; omega, fun w => notend (fun y => w y.1), fun w => ⟨by omega, by unfold inR; omega, by unfold inR; omega, fun w2 => notend (fun y => w2 y.2), fun w2 => ?_⟩⟩
          have cr := chT_rng t0 t1 (nAt t0 X) (nAt t1 Y)
          unfold w_Mo_compares_164
          refine ⟨by unfold inR; omega, fun y => by omega, fun _ => ⟨by omega, s_Mo_renaming W2 L2 (by omega) (by omega) (by omega) (by omega) (s_Mo_least (by unfold inR; omega) (by unfold inR; omega) (fun r' h1' h2' h3' => ⟨by omega, ?_⟩))⟩⟩
          intro S3 e3
          refine ⟨by omega, ?_⟩
          intro S4 e4
          have cell : isD (mF t0) (mF t1) (wM t0 t1) (tn t0 - 1 - X) (tn t1 - 1 - Y) (tn t0 - lfs t0 p) (tn t1 - lfs t1 q) r' := by
            refine isD_tree o0 o1 (by omega) (by omega) (by omega) (by omega) (by rw [E0, w]) (by rw [E1, w2]) (by show tn t0 - lfs t0 p ≤ tn t0; omega) (by show tn t1 - lfs t1 q ≤ tn t1; omega) v1 v2 v4 (c := chT t0 t1 (nAt t0 X) (nAt t1 Y)) ?_ (by omega) (by omega) (by omega) (by omega) (by omega)
            show 2 - chT t0 t1 (nAt t0 (tn t0 - 1 - (tn t0 - 1 - X))) (nAt t1 (tn t1 - 1 - (tn t1 - 1 - Y))) = _
            rw [show tn t0 - 1 - (tn t0 - 1 - X) = X by omega, show tn t1 - 1 - (tn t1 - 1 - Y) = Y by omega]
          refine put S3 S4 r' (by rw [e3]; exact hk2.st ⟨rfl, Or.inl rfl⟩) (fun i => by rw [e3]; simp [q_st]) e4 cell (fun X' Y' e0 e1 e2 e5 h => ?_) (fun X' Y' e0 e1 e2 e5 e6 e7 => ?_)
          · have ne : ¬ 24 * X' + Y' = 24 * X + Y := fun y => h (by
              have : X' = X ∧ Y' = Y := by omega
              rw [this.1, this.2]; exact ⟨w, w2⟩)
            rw [e3]; simp only [q_st]; rw [if_neg (fun y => ne y.2.2)]
            exact hs2 X' Y' e0 e1 e2 e5 h
          · by_cases qq : X' = X ∧ Y' = Y
            · rw [qq.1, qq.2, e3, q_st_eq]; exact cell
            · have ne : ¬ 24 * X' + Y' = 24 * X + Y := by omega
              rw [e3]; simp only [q_st]; rw [if_neg (fun y => ne y.2.2)]
              exact hd2 X' Y' e0 (by omega) e2 e5 e6 e7
      exact ⟨_, row (q + 1 - (lfs t1 q - 1)).toNat (lfs t1 q - 1) S1 (by omega) (by omega) hk (fun X' Y' c0 c1 c2 c3 => hF X' Y' c0 (by omega) c2 c3) hs (fun X' Y' c0 c1 c2 c3 => hd X' Y' c0 (by omega) c2 c3)⟩
  rw [hx38]
  exact ⟨_, main (p + 1 - (lfs t0 p - 1)).toNat (lfs t0 p - 1) S (by omega) (by omega) Kp.rf (fun X' Y' c0 c1 => by omega) (fun _ _ _ _ _ _ _ => rfl) (fun X' Y' c0 c1 => by omega)⟩
abbrev Pdi (m : Nat) : Nat → Nat → Prop := fun o f => o = m ∧ (f = 14 ∨ f = 15 ∨ f = 24 ∨ f = 37 ∨ f = 38 ∨ f = 39 ∨ f = 40)
theorem s_Mo_distance {Λ : QLay} {m : Nat} {S : QMem} {Q : Int → QMem → Prop} {t0 t1 : TT} (hW : WM m S t0 t1) (hq : ∀ d' S', Kp (Pdi m) S S' → (∀ d, isDist t0 t1 d → d' = d) → 0 ≤ d' ∧ d' ≤ 48 → Q d' S') : w_Mo_distance Λ m S Q := by
  have w0 := hW.2.2.1
  have w1 := hW.2.2.2
  have m0 := tn_rng w0
  have m1 := tn_rng w1
  unfold w_Mo_distance
  refine s_Mo_findLefts hW.1 w0 (Or.inl rfl) (fun S1 hk1 hl1 ho1 => ?_)
  have W1 := WM_kp hk1 (fun f hf z => by have := z.2; omega) hW
  refine s_Mo_findLefts W1.2.1 w1 (Or.inr rfl) (fun S2 hk2 hl2 ho2 => ?_)
  have K2 : Kp (Pdi m) S S2 := (hk1.tr hk2).mono (fun o f z => ⟨z.1, by have := z.2; omega⟩)
  have L2 : LM S2 m t0 t1 := ⟨fun k k0 k1 => by rw [ho2 37 _ (Or.inl rfl) (by omega), ho2 38 _ (Or.inr rfl) (by omega)]; exact hl1 k k0 k1, hl2⟩
  have Pn : ∀ f, f < 4 ∨ f = 18 ∨ f = 19 → ¬ Pdi m m f := fun f hf z => by have := z.2; omega
  have key : ∀ (f : Nat) (p : Int) (S3 : QMem), 0 ≤ p → p + f = tn t0 → Kp (Pdi m) S S3 → LM S3 m t0 t1 → TI (mF t0) (mF t1) (wM t0 t1) (tm S3 m t0 t1) (tn t0 - 1 - p) (tn t1) → w_Mo_distance_12 Λ Q (f + 1) m p S3 := by
    intro f
    induction f with
    | zero =>
      intro p S3 p0 hp hk hL hT
      have W3 := WM_kp hk Pn hW
      rw [w_Mo_distance_12, W3.1.1.1, W3.2.1.1.1]
      refine ⟨by unfold inR; omega, by unfold inR; omega, fun _ => ⟨by omega, ?_⟩, fun z => by omega⟩
      have h := hT 0 0 0 0 (by omega) (by show 0 < tn t0; omega) (by omega) (by show 0 < tn t1; omega) ⟨by omega, by omega, rfl, fun z z0 z1 => by omega⟩ ⟨by omega, by omega, rfl, fun z z0 z1 => by omega⟩ (by omega)
      have root : ∀ {t : TT}, wfT t → (mF t).2 0 = tn t := fun {t} hw => by
        have n := tn_rng hw
        show tn t - lfs t (tn t - 1 - 0) = tn t
        have l := lfs_pix hw (k := 0) (by omega) (by omega)
        have d := dp_0 hw.1
        have e : pix (tn t) (tp t) 0 = tn t - 1 - 0 := by
          have : te t 0 = tn t := te_0 hw
          show 0 - dp (tp t) 0 + (te t 0 - 0 - 1) = _
          omega
        rw [e] at l
        omega
      rw [root w0, root w1] at h
      have e : tm S3 m t0 t1 0 0 = S3.1 m 39 (24 * (tn t0 - 1) + tn t1 - 1) := by
        unfold tm
        rw [show 24 * (tn t0 - 1 - 0) + (tn t1 - 1 - 0) = 24 * (tn t0 - 1) + tn t1 - 1 by omega]
      rw [e] at h
      have hle := isD_le h
      exact hq _ S3 hk (fun d hd => (dist_mir w0 w1 hd h).symm) ⟨h.2, by omega⟩
    | succ f ih =>
      intro p S3 p0 hp hk hL hT
      have W3 := WM_kp hk Pn hW
      rw [w_Mo_distance_12, W3.1.1.1]
      refine ⟨by unfold inR; omega, by unfold inR; omega, fun z => by omega, fun _ => ?_⟩
      have inner : ∀ (g : Nat) (q : Int) (S4 : QMem), 0 ≤ q → q + g = tn t1 → Kp (Pdi m) S S4 → LM S4 m t0 t1 → TI (mF t0) (mF t1) (wM t0 t1) (tm S4 m t0 t1) (tn t0 - 1 - p) (tn t1 - 1 - q) → w_Mo_distance_24 Λ (fun v0' v1' S' => w_Mo_distance_12 Λ Q (f + 1) v0' v1' S') Q (g + 1) m p q S4 := by
        intro g
        induction g with
        | zero =>
          intro q S4 q0 hq' hk4 hL4 hT4
          have W4 := WM_kp hk4 Pn hW
          rw [w_Mo_distance_24, W4.2.1.1.1]
          refine ⟨by unfold inR; omega, by unfold inR; omega, fun _ => ih (p + 1) S4 (by omega) (by omega) hk4 hL4 (fun i j x' y' i0 i1 j0 j1 k1 k2 h => hT4 i j x' y' i0 i1 j0 j1 k1 k2 ?_), fun z => by omega⟩
          have j1 : j < tn t1 := j1
          have := k2.1
          have := k2.2.1
          omega
        | succ g ihg =>
          intro q S4 q0 hq' hk4 hL4 hT4
          have W4 := WM_kp hk4 Pn hW
          have skip : ¬ (ky (mF t0) (tn t0 - 1 - p) ∧ ky (mF t1) (tn t1 - 1 - q)) → w_Mo_distance_24 Λ (fun v0' v1' S' => w_Mo_distance_12 Λ Q (f + 1) v0' v1' S') Q (g + 1) m p (q + 1) S4 := fun hn => by
            refine ihg (q + 1) S4 (by omega) (by omega) hk4 hL4 (fun i j x' y' i0 i1 j0 j1 k1 k2 h => hT4 i j x' y' i0 i1 j0 j1 k1 k2 ?_)
            by_cases qq : tn t0 - 1 - p = x' ∧ tn t1 - 1 - q = y'
            · exact absurd ⟨by rw [qq.1]; exact k1.2.2.2, by rw [qq.2]; exact k2.2.2.2⟩ hn
            · omega
          rw [w_Mo_distance_24, W4.2.1.1.1]
          refine ⟨by unfold inR; omega, by unfold inR; omega, fun z => by omega, fun _ => ?_⟩
          refine s_Mo_isKey W4.1 w0 (Or.inl rfl) (fun k a b => (hL4.1 k a b).2) (by omega) (by omega) (fun hkx => ⟨by unfold inR; omega, fun z => by omega, fun _ => ?_⟩) (fun hkx => ⟨by unfold inR; omega, fun _ => skip (fun z => hkx z.1), fun z => absurd rfl z⟩)
          refine s_Mo_isKey W4.2.1 w1 (Or.inr rfl) (fun k a b => (hL4.2 k a b).2) (by omega) (by omega) (fun hky => ⟨by unfold inR; omega, fun z => by omega, fun _ => ?_⟩) (fun hky => ⟨by unfold inR; omega, fun _ => skip (fun z => hky z.2), fun z => absurd rfl z⟩)
          refine s_Mo_compares W4 hL4 (by omega) (by omega) (by omega) (by omega) hkx hky hT4 (fun S5 hk5 hT5 => ihg (q + 1) S5 (by omega) (by omega) (hk4.tr (hk5.mono (fun o f z => ⟨z.1, by have := z.2; omega⟩))) (LM_kp hk5 (by omega) (by omega) hL4) ?_)
          rw [show tn t1 - 1 - (q + 1) = tn t1 - 1 - q - 1 by omega]
          exact hT5
      refine ⟨_, inner (tn t1).toNat 0 S3 (by omega) (by omega) hk hL (fun i j x' y' i0 i1 j0 j1 k1 k2 h => hT i j x' y' i0 i1 j0 j1 k1 k2 ?_)⟩
      have j1 : j < tn t1 := j1
      have := k2.2.1
      omega
  refine ⟨_, key (tn t0).toNat 0 S2 (by omega) (by omega) K2 L2 (fun i j x' y' i0 i1 j0 j1 k1 k2 h => ?_)⟩
  have i1 : i < tn t0 := i1
  have j1 : j < tn t1 := j1
  have := k1.2.1
  have := k2.2.1
  omega
