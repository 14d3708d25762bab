/-! the reference's copy -/
def a2 (v : Int) : Int := if v = -1 then -2 else v
theorem a2_p {v : Int} (h : v ≠ -1) : a2 v = v := if_neg h
def MW (S : QMem) (m : Nat) (W : WW) : Prop := (∀ x, 0 ≤ x → x < 48 → S.1 m 25 x = a2 (wa W x) ∧ (wa W x ≠ -1 → S.1 m 26 x = wl W x ∧ S.1 m 27 x = wv W x)) ∧ coh W (S.1 m 29) (fun u i => S.1 m 28 (49 * u + i))
abbrev Pmw (m : Nat) : Nat → Nat → Prop := fun o f => o = m ∧ 25 ≤ f ∧ f ≤ 29
theorem MW_wf {S : QMem} {m : Nat} {W : WW} (h : MW S m W) : wfW W := ⟨_, _, h.2⟩
theorem MW_eq {S : QMem} {m : Nat} {W W' : WW} (h : MW S m W) (he : eqW W W') : MW S m W' := by
  refine ⟨fun x x0 x1 => ?_, coh_eq h.2 he⟩
  have h1 := h.1 x x0 x1
  have h2 := he x x0 x1
  refine ⟨by rw [← h2.1]; exact h1.1, fun z => ?_⟩
  have z' : wa W x ≠ -1 := by rw [h2.1]; exact z
  have h3 := h2.2 z'
  rw [← h3.2.1, ← h3.2.2]
  exact h1.2 z'
theorem MW_kp {P : Nat → Nat → Prop} {S S' : QMem} {m : Nat} {W : WW} (hk : Kp P S S') (hn : ∀ f, 25 ≤ f → f ≤ 29 → ¬ P m f) (h : MW S m W) : MW S' m W := by
  refine ⟨fun x x0 x1 => ?_, coh_ext h.2 (fun u u0 u1 => hk.at (hn 29 (by omega) (by omega))) (fun u i u0 u1 i0 i1 => hk.at (hn 28 (by omega) (by omega)))⟩
  rw [hk.at (hn 25 (by omega) (by omega)), hk.at (hn 26 (by omega) (by omega)), hk.at (hn 27 (by omega) (by omega))]
  exact h.1 x x0 x1
theorem s_Mo_placeIn {Λ : QLay} {m : Nat} {x : Int} {S : QMem} {Q : Int → QMem → Prop} {W : WW} (h1 : S.1 m 25 x = wa W x) (hc : ∃ km, coh W km (fun u i => S.1 m 28 (49 * u + i))) (x0 : 0 ≤ x) (x1 : x < 48) (hx : wa W x ≠ -1) (hq : Q (wp W x) S) : w_Mo_placeIn Λ m x S Q := by
  obtain ⟨km, hc⟩ := hc
  have hxx := (hc.1 x x0 x1).resolve_left hx
  have hk := km_le hc hxx.1 hxx.2.1
  unfold w_Mo_placeIn
  refine ⟨by omega, ?_⟩
  intro u hu
  rw [h1] at hu
  have key : ∀ (f : Nat) (i : Int), 0 ≤ i → i + f = wp W x → w_Mo_placeIn_9 Λ Q (f + 1) m x u i S := by
    intro f
    induction f with
    | zero =>
      intro i i0 hi
      have e5 : S.1 m 28 (49 * wa W x + wp W x) = x := hxx.2.2.2.2
      rw [w_Mo_placeIn_9, hu, show i = wp W x by omega, e5]
      exact ⟨by omega, by unfold inR; omega, by unfold inR; omega, fun _ => hq, fun z => absurd rfl z⟩
    | succ f ih =>
      intro i i0 hi
      have e := hc.2.1 (wa W x) i hxx.1 hxx.2.1 i0 (by omega)
      have e1 : 0 ≤ S.1 m 28 (49 * wa W x + i) := e.1
      have e2 : S.1 m 28 (49 * wa W x + i) < 48 := e.2.1
      have e4 : wp W (S.1 m 28 (49 * wa W x + i)) = i := e.2.2.2
      rw [w_Mo_placeIn_9, hu]
      refine ⟨by omega, by unfold inR; omega, by unfold inR; omega, fun z => ?_, fun _ => ?_⟩
      · rw [z] at e4; omega
      · rw [← hu]; exact ih (i + 1) (by omega) (by omega)
  exact ⟨_, key (wp W x).toNat 0 (by omega) (by omega)⟩
theorem s_Mo_putsIn {Λ : QLay} {m : Nat} {x u a : Int} {S : QMem} {Q : QMem → Prop} {W : WW} (hM : MW S m W) (x0 : 0 ≤ x) (x1 : x < 48) (hx : wa W x = -1) (u0 : 0 ≤ u) (u1 : u ≤ 48) (a0 : 0 ≤ a) (ha : a ≤ S.1 m 29 u) (hlv : S.1 m 26 x = wl W x ∧ S.1 m 27 x = wv W x)
    (hq : ∀ S', Kp (Pmw m) S S' → MW S' m (putW W x u a) → (∀ w, 0 ≤ w → w ≤ 48 → S'.1 m 29 w = up (S.1 m 29) u (S.1 m 29 u + 1) w) → Q S') : w_Mo_putsIn Λ m x u a S Q := by
  obtain ⟨hA, hc⟩ := hM
  have hk := km_lt hc u0 u1 x0 x1 hx
  unfold w_Mo_putsIn
  refine ⟨by omega, ?_⟩
  intro S1 e1
  refine ⟨by omega, ?_⟩
  intro n hn
  have en : n = S.1 m 29 u := by rw [hn, e1]; simp [q_st]
  have k1 : Kp (Pmw m) S S1 := by rw [e1]; exact Kp.rf.st ⟨rfl, by omega, by omega⟩
  have key : ∀ (f : Nat) (i : Int) (S2 : QMem), a ≤ i → i ≤ n → i = a + f → Kp (fun o f => o = m ∧ f = 28) S1 S2 → (∀ j, S2.1 m 28 j = if 49 * u + i < j ∧ j ≤ 49 * u + n then S.1 m 28 (j - 1) else S.1 m 28 j) → w_Mo_putsIn_15 Λ Q (f + 1) m x u a i S2 := by
    intro f
    induction f with
    | zero =>
      intro i S2 i0 i1 hi hk2 hj
      rw [w_Mo_putsIn_15]
      refine ⟨by unfold inR; omega, by unfold inR; omega, fun _ => ⟨by omega, ?_⟩, fun z => by omega⟩
      intro S3 e3
      refine ⟨by omega, by omega, ?_⟩
      intro S4 e4
      have n29 : S3.1 m 29 u = n := by rw [e3]; simp [q_st]; rw [hk2.at (by simp), en, e1]; simp [q_st]
      rw [n29] at e4
      have k4 : Kp (Pmw m) S S4 := by
        rw [e4, e3]
        exact ((k1.tr (hk2.mono (fun o f y => ⟨y.1, by have := y.2; omega, by have := y.2; omega⟩))).st ⟨rfl, by omega, by omega⟩).st ⟨rfl, by omega, by omega⟩
      have h29 : ∀ w, S4.1 m 29 w = up (S.1 m 29) u (S.1 m 29 u + 1) w := fun w => by
        by_cases q : w = u
        · rw [q, up_s, e4, ← en]; simp [q_st]
        · rw [up_n _ _ q, e4, e3]; simp [q_st, q]; rw [hk2.at (by simp), e1]; simp [q_st]
      have h28 : ∀ j, S4.1 m 28 j = if j = 49 * u + a then x else if 49 * u + a < j ∧ j ≤ 49 * u + n then S.1 m 28 (j - 1) else S.1 m 28 j := fun j => by
        by_cases q : j = 49 * u + a
        · rw [if_pos q, q, e4, e3]; simp [q_st]
        · rw [if_neg q, e4, e3]; simp [q_st, q]; rw [hj j, show i = a by omega]
      refine hq S4 k4 ⟨fun z z0 z1 => ?_, ?_⟩ (fun w _ _ => h29 w)
      · have h2 : S4.1 m 25 z = up (S.1 m 25) x u z := by
          rw [e4, e3]; simp [q_st]; rw [hk2.at (by simp), e1]
          by_cases q : z = x
          · rw [q, up_s]; simp [q_st]
          · rw [up_n _ _ q]; simp [q_st, q]
        have h6 : S4.1 m 26 z = S.1 m 26 z ∧ S4.1 m 27 z = S.1 m 27 z := by
          rw [e4, e3]; simp [q_st]; rw [hk2.at (by simp), hk2.at (by simp), e1]; simp [q_st]
        rw [h2, h6.1, h6.2, put_a]
        show _ ∧ (_ → S.1 m 26 z = wl W z ∧ S.1 m 27 z = wv W z)
        by_cases q : z = x
        · rw [q, up_s, up_s, a2_p (by omega)]; exact ⟨rfl, fun _ => hlv⟩
        · rw [up_n _ _ q, up_n _ _ q]; exact hA z z0 z1
      · refine coh_ext (coh_put hc x0 x1 hx u0 u1 a0 ha) (fun w _ _ => h29 w) (fun w j w0 w1 j0 j1 => ?_)
        show S4.1 m 28 (49 * w + j) = if w = u then (if j < a then S.1 m 28 (49 * u + j) else if j = a then x else S.1 m 28 (49 * u + (j - 1))) else S.1 m 28 (49 * w + j)
        rw [h28]
        by_cases q : w = u
        · rw [if_pos q, q]
          rw [q, up_s] at j1
          by_cases q2 : j < a
          · rw [if_pos q2, if_neg (by omega), if_neg (by omega)]
          · rw [if_neg q2]
            by_cases q3 : j = a
            · rw [if_pos q3, if_pos (by omega)]
            · rw [if_neg q3, if_neg (by omega), if_pos (by omega), show 49 * u + j - 1 = 49 * u + (j - 1) by omega]
        · rw [if_neg q]
          rw [up_n _ _ q] at j1
          have := km_le hc w0 w1
          rw [if_neg (by omega), if_neg (by omega)]
    | succ f ih =>
      intro i S2 i0 i1 hi hk2 hj
      rw [w_Mo_putsIn_15]
      refine ⟨by unfold inR; omega, by unfold inR; omega, fun z => by omega, fun _ => ⟨by omega, by omega, ?_⟩⟩
      intro S3 e3
      refine ih (i + (-1)) S3 (by omega) (by omega) (by omega) (by rw [e3]; exact hk2.st ⟨rfl, rfl⟩) (fun j => ?_)
      by_cases q : j = 49 * u + i
      · rw [q, if_pos (by omega), e3]; simp [q_st]; rw [hj, if_neg (by omega)]
      · rw [e3]; simp [q_st, q]; rw [hj]
        by_cases q2 : 49 * u + i < j ∧ j ≤ 49 * u + n
        · rw [if_pos q2, if_pos (by omega)]
        · rw [if_neg q2, if_neg (by omega)]
  exact ⟨_, key (n - a).toNat n S1 (by omega) (by omega) (by omega) Kp.rf (fun j => by rw [if_neg (by omega), e1]; simp [q_st])⟩
theorem s_Mo_takesOut {Λ : QLay} {m : Nat} {x : Int} {S : QMem} {Q : QMem → Prop} {W : WW} (hM : MW S m W) (x0 : 0 ≤ x) (x1 : x < 48) (hx : wa W x ≠ -1)
    (hq : ∀ S', Kp (Pmw m) S S' → MW S' m (outW W x) → (∀ f i, f = 26 ∨ f = 27 → S'.1 m f i = S.1 m f i) → Q S') : w_Mo_takesOut Λ m x S Q := by
  obtain ⟨hA, hc⟩ := hM
  have hxx := (hc.1 x x0 x1).resolve_left hx
  have hk := km_le hc hxx.1 hxx.2.1
  have hx25 : S.1 m 25 x = wa W x := by rw [(hA x x0 x1).1, a2_p hx]
  unfold w_Mo_takesOut
  refine ⟨by omega, ?_⟩
  intro u hu
  rw [hx25] at hu
  refine ⟨by omega, by omega, ?_⟩
  intro S1 e1
  have k1 : Kp (Pmw m) S S1 := by rw [e1]; exact Kp.rf.st ⟨rfl, by omega, by omega⟩
  have s28 : ∀ j, S1.1 m 28 j = S.1 m 28 j := fun j => by rw [e1]; simp [q_st]
  have hc1 : coh W (S.1 m 29) (fun u i => S1.1 m 28 (49 * u + i)) := coh_ext hc (fun _ _ _ => rfl) (fun u i _ _ _ _ => s28 _)
  refine s_Mo_placeIn (W := W) (by rw [e1]; simp [q_st, hx25]) ⟨_, hc1⟩ x0 x1 hx ?_
  have key : ∀ (f : Nat) (i : Int) (S2 : QMem), wp W x ≤ i → i + f = S.1 m 29 u - 1 → Kp (fun o f => o = m ∧ f = 28) S1 S2 → (∀ j, S2.1 m 28 j = if 49 * u + wp W x ≤ j ∧ j < 49 * u + i then S.1 m 28 (j + 1) else S.1 m 28 j) → w_Mo_takesOut_23 Λ Q (f + 1) m x u i S2 := by
    intro f
    induction f with
    | zero =>
      intro i S2 i0 hi hk2 hj
      have n29 : S2.1 m 29 u = S.1 m 29 u - 1 := by rw [hk2.at (by simp), e1]; simp [q_st]
      rw [w_Mo_takesOut_23, n29]
      rw [← hu] at hxx hk
      refine ⟨by omega, by unfold inR; omega, by unfold inR; omega, fun _ => ⟨by omega, ?_⟩, fun z => by omega⟩
      intro S3 e3
      have k3 : Kp (Pmw m) S S3 := by
        rw [e3]
        exact (k1.tr (hk2.mono (fun o f y => ⟨y.1, by have := y.2; omega, by have := y.2; omega⟩))).st ⟨rfl, by omega, by omega⟩
      have h29 : ∀ w, S3.1 m 29 w = up (S.1 m 29) u (S.1 m 29 u - 1) w := fun w => by
        rw [e3]; simp [q_st]; rw [hk2.at (by simp), e1]
        by_cases q : w = u
        · rw [q, up_s]; simp [q_st]
        · rw [up_n _ _ q]; simp [q_st, q]
      have h28 : ∀ j, S3.1 m 28 j = if 49 * u + wp W x ≤ j ∧ j < 49 * u + i then S.1 m 28 (j + 1) else S.1 m 28 j := fun j => by
        rw [← hj j, e3]; simp [q_st]
      have h67 : ∀ f i, f = 26 ∨ f = 27 → S3.1 m f i = S.1 m f i := fun f i hf => by
        rw [e3]
        rcases hf with hf | hf <;> rw [hf] <;> simp [q_st] <;> rw [hk2.at (by simp), e1] <;> simp [q_st]
      refine hq S3 k3 ⟨fun z z0 z1 => ?_, ?_⟩ h67
      · have h2 : S3.1 m 25 z = up (S.1 m 25) x (-2) z := by
          rw [e3]
          by_cases q : z = x
          · rw [q, up_s]; simp [q_st]
          · rw [up_n _ _ q]; simp [q_st, q]; rw [hk2.at (by simp), e1]; simp [q_st]
        rw [h2, h67 26 z (Or.inl rfl), h67 27 z (Or.inr rfl)]
        show _ = a2 (up (wa W) x (-1) z) ∧ (up (wa W) x (-1) z ≠ -1 → S.1 m 26 z = wl W z ∧ S.1 m 27 z = wv W z)
        by_cases q : z = x
        · rw [q, up_s, up_s]; exact ⟨rfl, fun y => absurd rfl y⟩
        · rw [up_n _ _ q, up_n _ _ q]; exact hA z z0 z1
      · refine coh_ext (coh_out hc x0 x1 hx) (fun w _ _ => by rw [← hu]; exact h29 w) (fun w j w0 w1 j0 j1 => ?_)
        rw [← hu] at j1 ⊢
        show S3.1 m 28 (49 * w + j) = if w = u then (if j < wp W x then S.1 m 28 (49 * w + j) else S.1 m 28 (49 * w + (j + 1))) else S.1 m 28 (49 * w + j)
        rw [h28]
        by_cases q : w = u
        · rw [if_pos q, q]
          rw [q, up_s] at j1
          by_cases q2 : j < wp W x
          · rw [if_pos q2, if_neg (by omega)]
          · rw [if_neg q2, if_pos (by omega), show 49 * u + j + 1 = 49 * u + (j + 1) by omega]
        · rw [if_neg q]
          rw [up_n _ _ q] at j1
          have := km_le hc w0 w1
          rw [if_neg (by omega)]
    | succ f ih =>
      intro i S2 i0 hi hk2 hj
      have n29 : S2.1 m 29 u = S.1 m 29 u - 1 := by rw [hk2.at (by simp), e1]; simp [q_st]
      rw [w_Mo_takesOut_23, n29]
      rw [← hu] at hxx hk
      refine ⟨by omega, by unfold inR; omega, by unfold inR; omega, fun z => by omega, fun _ => ⟨by omega, by omega, ?_⟩⟩
      intro S3 e3
      refine ih (i + 1) S3 (by omega) (by omega) (by rw [e3]; exact hk2.st ⟨rfl, rfl⟩) (fun j => ?_)
      by_cases q : j = 49 * u + i
      · rw [q, if_pos (by omega), e3]; simp [q_st]; rw [hj, if_neg (by omega)]
      · rw [e3]; simp [q_st, q]; rw [hj]
        by_cases q2 : 49 * u + wp W x ≤ j ∧ j < 49 * u + i
        · rw [if_pos q2, if_pos (by omega)]
        · rw [if_neg q2, if_neg (by omega)]
  rw [← hu] at hxx hk
  exact ⟨_, key (S.1 m 29 u - 1 - wp W x).toNat (wp W x) S1 (by omega) (by omega) Kp.rf (fun j => by rw [if_neg (by omega), s28])⟩
/-- the first k nodes of a tree -/
def W0k (t : TT) (k : Int) : WW := (fun x => if 0 ≤ x ∧ x < k then pu t x else -1, plT (tp t), tl t, tv t)
theorem pu_rng {t : TT} (hw : wfT t) {x : Int} (x0 : 0 ≤ x) (x1 : x < tn t) : 0 ≤ pu t x ∧ pu t x ≤ 48 ∧ (pu t x = 48 ∨ pu t x < x) := by
  have := tp_rng hw x0 x1
  have := tn_rng hw
  unfold pu
  split <;> omega
theorem s_Mo_copyBegins {Λ : QLay} {m : Nat} {i : Int} {S : QMem} {Q : QMem → Prop} {t : TT} (hT : mT S m i t) (hw : wfT t) (hi : i = 0 ∨ i = 1)
    (hq : ∀ S', Kp (Pmw m) S S' → MW S' m (W0 t) → Q S') : w_Mo_copyBegins Λ m i S Q := by
  have hn := tn_rng hw
  have nP : ∀ f, f < 25 → ¬ Pmw m m f := fun f hf z => by have := z.2; omega
  unfold w_Mo_copyBegins
  -- how many children a room has
  have fill : ∀ (f : Nat) (k : Int) (S1 : QMem), 0 ≤ k → k + f = tn t → Kp (Pmw m) S S1 → MW S1 m (W0k t k) → (∀ u, 0 ≤ u → u < 48 → S1.1 m 29 u = cnt (tp t) u k) → S1.1 m 29 48 = (if 0 < k then 1 else 0) → w_Mo_copyBegins_31 Λ Q (f + 1) m i k S1 := by
    intro f
    induction f with
    | zero =>
      intro k S1 k0 hk hk1 hM hc ht
      rw [w_Mo_copyBegins_31, hk1.at (nP 0 (by omega)), hT.1.1]
      refine ⟨by omega, by unfold inR; omega, by unfold inR; omega, fun _ => hq S1 hk1 ?_, fun z => by omega⟩
      rw [show k = tn t by omega] at hM
      exact hM
    | succ f ih =>
      intro k S1 k0 hk hk1 hM hc ht
      have tr := tp_rng hw k0 (by omega : k < tn t)
      have pr := pu_rng hw k0 (by omega : k < tn t)
      have o := hT.1.2 k k0 (by omega)
      rw [w_Mo_copyBegins_31, hk1.at (nP 0 (by omega)), hT.1.1]
      refine ⟨by omega, by unfold inR; omega, by unfold inR; omega, fun z => by omega, fun _ => ?_⟩
      dsimp only [w_Mo_at]
      refine ⟨by omega, ?_⟩
      intro p hp
      rw [hk1.at (nP 3 (by omega)), o.2.2] at hp
      refine ⟨by omega, by omega, ?_⟩
      intro S2 e2
      refine ⟨by omega, by omega, ?_⟩
      intro S3 e3
      have k2 : Kp (Pmw m) S S2 := by rw [e2]; exact hk1.st ⟨rfl, by omega, by omega⟩
      have k3 : Kp (Pmw m) S S3 := by rw [e3]; exact k2.st ⟨rfl, by omega, by omega⟩
      rw [hk1.at (nP 1 (by omega)), o.1] at e2
      rw [k2.at (nP 2 (by omega)), o.2.1] at e3
      have hab : wa (W0k t k) k = -1 := if_neg (by omega)
      have M3 : MW S3 m (W0k t k) := by
        refine ⟨fun x x0 x1 => ?_, coh_ext hM.2 (fun u _ _ => by rw [e3, e2]; simp [q_st]) (fun u j _ _ _ _ => by rw [e3, e2]; simp [q_st])⟩
        have h1 := hM.1 x x0 x1
        refine ⟨by rw [← h1.1, e3, e2]; simp [q_st], fun y => ?_⟩
        have q : x ≠ k := fun z => by rw [z] at y; exact y hab
        rw [← (h1.2 y).1, ← (h1.2 y).2, e3, e2]
        simp [q_st, q]
      have c3 : ∀ u, S3.1 m 29 u = S1.1 m 29 u := fun u => by rw [e3, e2]; simp [q_st]
      have hlv : S3.1 m 26 k = wl (W0k t k) k ∧ S3.1 m 27 k = wv (W0k t k) k := by rw [e3, e2]; simp [q_st]; exact ⟨rfl, rfl⟩
      have hpl : S3.1 m 29 (pu t k) = plT (tp t) k := by
        rw [c3]
        unfold pu plT
        by_cases q : tp t k < 0
        · rw [if_pos q, if_pos q, ht, if_neg (by omega)]
        · rw [if_neg q, if_neg q, hc _ (by omega) (by omega)]
      have plr := pl_rng hw k0 (by omega : k < tn t)
      have put : w_Mo_putsIn Λ m k (pu t k) (S3.1 m 29 (pu t k)) S3 (fun S' => w_Mo_copyBegins_31 Λ Q (f + 1) m i (k + 1) S') := by
        refine s_Mo_putsIn M3 k0 (by omega) hab pr.1 pr.2.1 (by omega) (Int.le_refl _) hlv (fun S4 hk4 hM4 h29 => ?_)
        refine ih (k + 1) S4 (by omega) (by omega) (k3.tr hk4) (MW_eq hM4 (fun x x0 x1 => ?_)) (fun u u0 u1 => ?_) ?_
        · rw [put_a]
          show up (wa (W0k t k)) k (pu t k) x = (if 0 ≤ x ∧ x < k + 1 then pu t x else -1) ∧ (up (wa (W0k t k)) k (pu t k) x ≠ -1 → wp (putW (W0k t k) k (pu t k) (S3.1 m 29 (pu t k))) x = plT (tp t) x ∧ tl t x = tl t x ∧ tv t x = tv t x)
          by_cases q : x = k
          · rw [q, up_s, put_p_s, if_pos (by omega)]
            exact ⟨rfl, fun _ => ⟨hpl, rfl, rfl⟩⟩
          · rw [up_n _ _ q, put_p_n _ q]
            have ex : wa (W0k t k) x = if 0 ≤ x ∧ x < k then pu t x else -1 := rfl
            refine ⟨?_, fun y => ⟨?_, rfl, rfl⟩⟩
            · rw [ex]
              by_cases q2 : 0 ≤ x ∧ x < k
              · rw [if_pos q2, if_pos (by omega)]
              · rw [if_neg q2, if_neg (by omega)]
            · have hr := (M3.2.1 x x0 x1).resolve_left y
              refine if_neg (fun w => ?_)
              rw [w.1] at hr
              omega
        · rw [h29 u u0 (by omega), cnt_s _ _ k0]
          by_cases q : u = pu t k
          · have q2 : tp t k = u := by
              unfold pu at q
              by_cases q3 : tp t k < 0
              · rw [if_pos q3] at q; omega
              · rw [if_neg q3] at q; omega
            rw [← q, up_s, if_pos q2, c3, hc u u0 u1]
          · have q2 : tp t k ≠ u := fun z => q (by unfold pu; rw [if_neg (by omega)]; exact z.symm)
            rw [up_n _ _ q, if_neg q2, c3, hc u u0 u1, Int.add_zero]
        · rw [h29 48 (by omega) (by omega), if_pos (by omega)]
          by_cases q : pu t k = 48
          · have q2 : k = 0 := by
              by_cases q3 : k = 0
              · exact q3
              · have := tr.2.2.1 (by omega)
                unfold pu at q
                rw [if_neg (by omega)] at q
                omega
            rw [q, up_s, c3, ht, if_neg (by omega)]; rfl
          · have q2 : k ≠ 0 := fun z => by
              have := tr.2.2.2 z
              unfold pu at q
              rw [if_pos (by omega)] at q
              exact q rfl
            rw [up_n _ _ (fun y => q y.symm), c3, ht, if_pos (by omega)]
      rw [hp]
      refine ⟨by unfold inR; omega, fun z => ?_, fun z => ?_⟩
      · unfold w_Mo_copyBegins_96
        refine ⟨by unfold inR; omega, fun _ => ?_, fun z2 => absurd z z2⟩
        unfold w_Mo_copyBegins_110
        have e : pu t k = tp t k := by unfold pu; rw [if_neg (by omega)]
        rw [e] at put
        exact ⟨by omega, put⟩
      · unfold w_Mo_copyBegins_96
        refine ⟨by unfold inR; omega, fun z2 => absurd z2 z, fun _ => ?_⟩
        unfold w_Mo_copyBegins_110
        have e : pu t k = 48 := by unfold pu; rw [if_pos (by omega)]
        rw [e] at put
        exact ⟨by omega, put⟩
  have clear : ∀ (f : Nat) (k : Int) (S1 : QMem), 0 ≤ k → k + f = 49 → Kp (Pmw m) S S1 → (∀ x, 0 ≤ x → x < k → S1.1 m 25 x = -2 ∧ S1.1 m 29 x = 0) → w_Mo_copyBegins_2 Λ Q (f + 1) m i k S1 := by
    intro f
    induction f with
    | zero =>
      intro k S1 k0 hk hk1 ha
      rw [w_Mo_copyBegins_2]
      have e : ∀ x, wa (W0k t 0) x = -1 := fun x => if_neg (by omega)
      refine ⟨by unfold inR; omega, fun _ => ⟨_, fill (tn t).toNat 0 S1 (by omega) (by omega) hk1 ⟨fun x x0 x1 => ?_, fun x x0 x1 => Or.inl (e x), fun u j u0 u1 j0 j1 => ?_, fun u u0 u1 => ?_⟩ (fun u u0 u1 => ?_) ?_⟩, fun z => by omega⟩
      · rw [e]; exact ⟨(ha x x0 (by omega)).1, fun y => absurd rfl y⟩
      · have := (ha u u0 (by omega)).2; omega
      · have := (ha u u0 (by omega)).2; omega
      · rw [(ha u u0 (by omega)).2, cnt_0]
      · rw [(ha 48 (by omega) (by omega)).2, if_neg (by omega)]
    | succ f ih =>
      intro k S1 k0 hk hk1 ha
      rw [w_Mo_copyBegins_2]
      refine ⟨by unfold inR; omega, fun z => by omega, fun _ => ⟨by omega, ?_⟩⟩
      intro S2 e2
      refine ⟨by omega, ?_⟩
      intro S3 e3
      refine ih (k + 1) S3 (by omega) (by omega) (by rw [e3, e2]; exact (hk1.st ⟨rfl, by omega, by omega⟩).st ⟨rfl, by omega, by omega⟩) (fun x x0 x1 => ?_)
      by_cases q : x = k
      · rw [e3, e2, q]; simp [q_st]
      · rw [e3, e2]; simp [q_st, q, ha x x0 (by omega)]
  exact ⟨_, clear 49 0 S (by omega) (by omega) Kp.rf (fun x a b => by omega)⟩
