/-! what holds between two calls -/
def KI (ix : Nat → Nat) (p : Nat → Nat → Prop) (S S' : QMem) : Prop := Kp (fun o f => p (ix o) f) S S'
def Sg (ix : Nat → Nat) (R : Nat → Nat → Int → Prop) (S S' : QMem) : Prop := S'.2 = S.2 ∧ ∀ (o f : Nat) (i : Int), R (ix o) f i → S'.1 o f i = S.1 o f i
theorem KI.rf {ix : Nat → Nat} {p : Nat → Nat → Prop} {S : QMem} : KI ix p S S := Kp.rf
theorem KI.tr {ix : Nat → Nat} {p : Nat → Nat → Prop} {S S1 S2 : QMem} (h : KI ix p S S1) (h2 : KI ix p S1 S2) : KI ix p S S2 := Kp.tr h h2
theorem KI.mono {ix : Nat → Nat} {p p' : Nat → Nat → Prop} {S S1 : QMem} (h : KI ix p S S1) (hp : ∀ k f, p k f → p' k f) : KI ix p' S S1 := Kp.mono h (fun o f z => hp _ _ z)
theorem KI.sg {ix : Nat → Nat} {p : Nat → Nat → Prop} {R : Nat → Nat → Int → Prop} {S S' : QMem} (h : KI ix p S S') (hn : ∀ k f i, R k f i → ¬ p k f) : Sg ix R S S' := ⟨h.1, fun o f i z => h.2 o f i (hn _ _ _ z)⟩
theorem KI.at {ix : Nat → Nat} {p : Nat → Nat → Prop} {S S' : QMem} (h : KI ix p S S') {a k f : Nat} {i : Int} (ha : ix a = k) (hn : ¬ p k f) : S'.1 a f i = S.1 a f i := h.2 a f i (fun z => hn (ha ▸ z))
theorem Sg.rf {ix : Nat → Nat} {R : Nat → Nat → Int → Prop} {S : QMem} : Sg ix R S S := ⟨rfl, fun _ _ _ _ => rfl⟩
theorem Sg.tr {ix : Nat → Nat} {R : Nat → Nat → Int → Prop} {S S1 S2 : QMem} (h : Sg ix R S S1) (h2 : Sg ix R S1 S2) : Sg ix R S S2 := ⟨h2.1.trans h.1, fun o f i z => (h2.2 o f i z).trans (h.2 o f i z)⟩
theorem Sg.mono {ix : Nat → Nat} {R R' : Nat → Nat → Int → Prop} {S S1 : QMem} (h : Sg ix R S S1) (hp : ∀ k f i, R' k f i → R k f i) : Sg ix R' S S1 := ⟨h.1, fun o f i z => h.2 o f i (hp _ _ _ z)⟩
/-- what changed -/
def chg (S S' : QMem) (o f : Nat) : Prop := ¬ ∀ i : Int, S'.1 o f i = S.1 o f i
theorem Sg.kp {ix : Nat → Nat} {R : Nat → Nat → Int → Prop} {S S' : QMem} (h : Sg ix R S S') : Kp (chg S S') S S' := ⟨h.1, fun o f i z => Classical.byContradiction (fun y => z (fun w => y (w i)))⟩
theorem Sg.no {ix : Nat → Nat} {R : Nat → Nat → Int → Prop} {S S' : QMem} (h : Sg ix R S S') {o f : Nat} (hr : ∀ i, R (ix o) f i) : ¬ chg S S' o f := fun z => z (fun i => h.2 o f i (hr i))
/-- the numbers of the objects -/
def SP (Λ : QLay) (T m : Nat) (ix : Nat → Nat) : Prop := ix T = 0 ∧ ix m = 1 ∧ ix (yR Λ T 0 0) = 2 ∧ ix (yR Λ T 1 0) = 3 ∧ ix (yR Λ T 2 0) = 4 ∧ ix (yR Λ T 2 1) = 5 ∧ ix (yR Λ T 4 0) = 6 ∧ ix (yR Λ T 5 0) = 7 ∧ ix (yR Λ T 6 0) = 8 ∧ ix (yR Λ T 7 0) = 9 ∧ ix (yR Λ T 8 0) = 10 ∧ ix (yR Λ (yR Λ T 5 0) 2 0) = 11 ∧ ix (yR Λ T 9 0) = 12 ∧ ix (yR Λ T 10 0) = 13 ∧ ix (yR Λ (yR Λ T 0 0) 2 0) = 14 ∧ ∀ i : Int, 0 ≤ i → i < 96 → ix (yR Λ (yR Λ T 5 0) 0 i) = 100 + i.toNat
theorem ix_ne {ix : Nat → Nat} {a b k k' : Nat} (ha : ix a = k) (hb : ix b = k') (h : k ≠ k') : a ≠ b := fun e => h (by rw [← ha, ← hb, e])
theorem SP_sc {Λ : QLay} {T m : Nat} {ix : Nat → Nat} (h : SP Λ T m ix) : ScS Λ (yR Λ T 5 0) := by
  obtain ⟨a0, a1, a2, a3, a4, a5, a6, a7, a8, a9, a10, a11, a12, a13, a14, a15⟩ := h
  refine ⟨ix_ne a11 a7 (by decide), fun i i0 i1 => ⟨ix_ne (a15 i i0 i1) a7 (by omega), ix_ne (a15 i i0 i1) a11 (by omega)⟩, fun i j i0 i1 j0 j1 e => ?_⟩
  have h1 := a15 i i0 i1
  rw [e, a15 j j0 j1] at h1
  omega
/-! frames in numbers -/
theorem kiM {m : Nat} {ix : Nat → Nat} {S S' : QMem} {A : Nat → Prop} (hm : ix m = 1) (h : Kp (fun o f => o = m ∧ A f) S S') : KI ix (fun k f => k = 1 ∧ A f) S S' := Kp.mono h (fun o f z => ⟨by rw [z.1]; exact hm, z.2⟩)
theorem kiO {a c : Nat} {ix : Nat → Nat} {S S' : QMem} (ha : ix a = c) (h : Kp (fun o _ => o = a) S S') : KI ix (fun k _ => k = c) S S' := Kp.mono h (fun o f z => by rw [z]; exact ha)
theorem kiSc {Λ : QLay} {T m : Nat} {ix : Nat → Nat} {S S' : QMem} (hs : SP Λ T m ix) (h : Kp (Psc Λ (yR Λ T 5 0)) S S') : KI ix (fun k _ => k = 7 ∨ k = 11 ∨ 100 ≤ k) S S' := by
  obtain ⟨a0, a1, a2, a3, a4, a5, a6, a7, a8, a9, a10, a11, a12, a13, a14, a15⟩ := hs
  refine Kp.mono h (fun o f z => ?_)
  rcases z with z | z | ⟨i, i0, i1, z⟩
  · rw [z, a7]; exact Or.inl rfl
  · rw [z, a11]; exact Or.inr (Or.inl rfl)
  · rw [z, a15 i i0 i1]; exact Or.inr (Or.inr (Nat.le_add_right _ _))
theorem ki1 {a f c : Nat} {i v : Int} {ix : Nat → Nat} {S S' : QMem} (ha : ix a = c) (e : S' = q_st S a f i v) : KI ix (fun k g => k = c ∧ g = f) S S' := by
  rw [e]
  exact (Kp.rf (P := fun o g => ix o = c ∧ g = f)).st ⟨ha, rfl⟩
/-! the parts -/
def iTX (Λ : QLay) (T m : Nat) (S : QMem) : Prop := ∃ len, S.1 (yR Λ T 0 0) 1 0 = len ∧ S.1 m 10 0 = len ∧ (0 ≤ len ∧ len ≤ 100) ∧ ∀ k, 0 ≤ k → k < len → S.1 (yR Λ T 0 0) 0 k = S.1 m 9 k ∧ 0 ≤ S.1 m 9 k ∧ S.1 m 9 k ≤ 127
def iTR (Λ : QLay) (T : Nat) (ix : Nat → Nat) (S : QMem) : Prop := ((ix (S.2 (yR Λ T 1 0) 0) = 15 ∧ ix (S.2 (yR Λ T 1 0) 1) = 16) ∨ (ix (S.2 (yR Λ T 1 0) 0) = 16 ∧ ix (S.2 (yR Λ T 1 0) 1) = 15)) ∧ (ix (S.2 (yR Λ T 2 0) 0) = 17 ∧ ix (S.2 (yR Λ T 2 0) 1) = 18) ∧ (ix (S.2 (yR Λ T 2 1) 0) = 19 ∧ ix (S.2 (yR Λ T 2 1) 1) = 20)
def iLP (Λ : QLay) (T m : Nat) (S : QMem) (l p : Int) : Prop := (S.1 (yR Λ T 1 0) 2 0 = l ∧ S.1 m 4 0 = l ∧ 1 ≤ l ∧ l ≤ 9) ∧ (S.1 (yR Λ T 1 0) 3 0 = p ∧ S.1 m 5 0 = p ∧ 0 ≤ p ∧ p ≤ 100)
def KK (S : QMem) (m : Nat) (k : Int) (u0 u1 : TT) (l p : Int) : Prop := (S.1 m 7 k = tn u0 ∧ S.1 m 7 (k + 1) = tn u1 ∧ S.1 m 7 (k + 2) = l ∧ S.1 m 7 (k + 3) = p) ∧ (∀ i, 0 ≤ i → i < 48 → 0 ≤ S.1 m 7 (k + 4 + i) ∧ S.1 m 7 (k + 4 + i) ≤ 799) ∧ (∀ i, 0 ≤ i → i < tn u0 → S.1 m 7 (k + 4 + i) = 100 * tl u0 i + tv u0 i ∧ S.1 m 7 (k + 52 + i) = tp u0 i) ∧ (∀ i, 0 ≤ i → i < tn u1 → S.1 m 7 (k + 4 + (24 + i)) = 100 * tl u1 i + tv u1 i ∧ S.1 m 7 (k + 52 + (24 + i)) = tp u1 i)
def iSV (Λ : QLay) (T m : Nat) (S : QMem) (j : Int) : Prop := (S.1 T 3 j = 0 ∧ S.1 m 8 j = 0) ∨ (S.1 T 3 j = 1 ∧ S.1 m 8 j = 1 ∧ ∃ u0 u1 l p, WC (yR Λ T 2 j) S u0 u1 ∧ (S.1 (yR Λ T 2 j) 2 0 = l ∧ 1 ≤ l ∧ l ≤ 9) ∧ (S.1 (yR Λ T 2 j) 3 0 = p ∧ 0 ≤ p ∧ p ≤ 100) ∧ KK S m (150 * j) u0 u1 l p)
def iRG (m : Nat) (S : QMem) : Prop := ∀ i, 0 ≤ i → i < 72 → (0 ≤ S.1 m 1 i ∧ S.1 m 1 i ≤ 7) ∧ (0 ≤ S.1 m 2 i ∧ S.1 m 2 i ≤ 99)
noncomputable def Pm_ (t0 t1 : TT) (l p : Int) : MM := matF t0 t1 l p
noncomputable def Zs_ (t0 t1 : TT) (l p : Int) : ZZ := scF t0 t1 (matF t0 t1 l p)
noncomputable def Wn_ (t0 t1 : TT) (l p : Int) (n : Nat) : WW := rn (zs (Zs_ t0 t1 l p)) (W0 t0) n
def iAC (Λ : QLay) (T : Nat) (S : QMem) (t0 t1 : TT) (l p : Int) : Prop := S.1 T 11 0 = 0 ∨ (S.1 T 11 0 = 1 ∧ CM S (yR Λ T 4 0) t0 (Pm_ t0 t1 l p) ∧ CZ Λ S (yR Λ T 5 0) t1 (Zs_ t0 t1 l p))
def iAM (m : Nat) (S : QMem) (t0 t1 : TT) (l p : Int) (n : Nat) : Prop := S.1 m 20 0 = 0 ∨ (S.1 m 20 0 = 1 ∧ MX S m (Pm_ t0 t1 l p) ∧ S.1 m 31 0 = (zn (Zs_ t0 t1 l p) : Int) ∧ (∀ i : Nat, i < zn (Zs_ t0 t1 l p) → MSt S m (i : Int) (zs (Zs_ t0 t1 l p) i)) ∧ MW S m (Wn_ t0 t1 l p n))
def iWK (Λ : QLay) (T m : Nat) (S : QMem) (t0 t1 : TT) (l p : Int) (n : Nat) : Prop := S.1 T 13 0 = (n : Int) ∧ S.1 m 6 0 = (n : Int) ∧ n ≤ zn (Zs_ t0 t1 l p) ∧ CW S (yR Λ T 7 0) (Wn_ t0 t1 l p n) ∧ CL S (yR Λ T 7 0) (Wn_ t0 t1 l p n) (tn t0) ∧ (S.1 m 20 0 = 0 → n = 0)
def iDI (T : Nat) (S : QMem) (t0 t1 : TT) : Prop := S.1 T 12 0 = -1 ∨ isDist t0 t1 (S.1 T 12 0)
def iOU (Λ : QLay) (T m : Nat) (S : QMem) (o : OB) : Prop := OM S (yR Λ T 9 0) 0 1 o ∧ OM S m 11 12 o ∧ 0 ≤ o.2 ∧ o.2 ≤ 288
/-- text; trees' numbers; trees of the class; trees of the reference; settings; slots; ranges; answers; working tree; distance; output -/
def IV (Λ : QLay) (T m : Nat) (ix : Nat → Nat) (S : QMem) (t0 t1 : TT) (l p : Int) (n : Nat) (o : OB) : Prop := iTX Λ T m S ∧ iTR Λ T ix S ∧ WC (yR Λ T 1 0) S t0 t1 ∧ WM m S t0 t1 ∧ iLP Λ T m S l p ∧ (iSV Λ T m S 0 ∧ iSV Λ T m S 1) ∧ iRG m S ∧ iAC Λ T S t0 t1 l p ∧ iAM m S t0 t1 l p n ∧ iWK Λ T m S t0 t1 l p n ∧ iDI T S t0 t1 ∧ iOU Λ T m S o
/-! what each part reads -/
def RTX (k f : Nat) (_ : Int) : Prop := (k = 2 ∧ f ≤ 1) ∨ (k = 1 ∧ (f = 9 ∨ f = 10))
def RTC (k _f : Nat) (_ : Int) : Prop := k = 15 ∨ k = 16
def RTM (k f : Nat) (i : Int) : Prop := k = 1 ∧ ((f = 0 ∧ i < 2) ∨ ((f = 1 ∨ f = 2 ∨ f = 3) ∧ i < 48) ∨ f = 18 ∨ f = 19)
def RLP (k f : Nat) (_ : Int) : Prop := (k = 3 ∧ (f = 2 ∨ f = 3)) ∨ (k = 1 ∧ (f = 4 ∨ f = 5))
def RSV (k f : Nat) (_ : Int) : Prop := (k = 0 ∧ f = 3) ∨ (k = 1 ∧ (f = 7 ∨ f = 8)) ∨ ((k = 4 ∨ k = 5) ∧ (f = 2 ∨ f = 3)) ∨ (17 ≤ k ∧ k ≤ 20)
def RRG (k f : Nat) (_ : Int) : Prop := k = 1 ∧ (f = 1 ∨ f = 2)
def RAC (k f : Nat) (_ : Int) : Prop := (k = 0 ∧ f = 11) ∨ k = 6 ∨ (k = 7 ∧ (f = 1 ∨ f = 3 ∨ f = 4)) ∨ k = 11 ∨ 100 ≤ k
def RAM (k f : Nat) (_ : Int) : Prop := k = 1 ∧ ((20 ≤ f ∧ f ≤ 23) ∨ (25 ≤ f ∧ f ≤ 31))
def RWK (k f : Nat) (_ : Int) : Prop := (k = 0 ∧ f = 13) ∨ (k = 1 ∧ (f = 6 ∨ f = 20)) ∨ k = 9
def RDI (k f : Nat) (_ : Int) : Prop := k = 0 ∧ f = 12
def ROU (k f : Nat) (_ : Int) : Prop := k = 12 ∨ (k = 1 ∧ (f = 11 ∨ f = 12))
section
variable {Λ : QLay} {T m : Nat} {ix : Nat → Nat} {S S' : QMem} {t0 t1 : TT} {l p : Int} {n : Nat} {o : OB}
theorem iTX_sg (hs : SP Λ T m ix) (h : Sg ix RTX S S') (hi : iTX Λ T m S) : iTX Λ T m S' := by
  obtain ⟨a0, a1, a2, _⟩ := hs
  obtain ⟨len, b1, b2, b3, b4⟩ := hi
  have e2 : ∀ f i, f ≤ 1 → S'.1 (yR Λ T 0 0) f i = S.1 (yR Λ T 0 0) f i := fun f i hf => h.2 _ f i (Or.inl ⟨a2, hf⟩)
  have e1 : ∀ f i, f = 9 ∨ f = 10 → S'.1 m f i = S.1 m f i := fun f i hf => h.2 _ f i (Or.inr ⟨a1, hf⟩)
  refine ⟨len, by rw [e2 1 0 (by omega)]; exact b1, by rw [e1 10 0 (by omega)]; exact b2, b3, fun k k0 k1 => ?_⟩
  rw [e2 0 k (by omega), e1 9 k (by omega)]
  exact b4 k k0 k1
theorem iTR_sg (h : S'.2 = S.2) (hi : iTR Λ T ix S) : iTR Λ T ix S' := by unfold iTR; rw [h]; exact hi
theorem iTR_r (hi : iTR Λ T ix S) : (ix (S.2 (yR Λ T 1 0) 0) = 15 ∨ ix (S.2 (yR Λ T 1 0) 0) = 16) ∧ (ix (S.2 (yR Λ T 1 0) 1) = 15 ∨ ix (S.2 (yR Λ T 1 0) 1) = 16) ∧ S.2 (yR Λ T 1 0) 0 ≠ S.2 (yR Λ T 1 0) 1 := by
  rcases hi.1 with z | z
  · exact ⟨Or.inl z.1, Or.inr z.2, ix_ne z.1 z.2 (by decide)⟩
  · exact ⟨Or.inr z.1, Or.inl z.2, ix_ne z.1 z.2 (by decide)⟩
theorem WC_sg (hr : iTR Λ T ix S) (h : Sg ix RTC S S') (hi : WC (yR Λ T 1 0) S t0 t1) : WC (yR Λ T 1 0) S' t0 t1 := by
  obtain ⟨r0, r1, _⟩ := iTR_r hr
  exact WC_kp h.kp (fun f => h.no (fun _ => r0)) (fun f => h.no (fun _ => r1)) hi
theorem mT_sg {i : Int} {t : TT} (hm : ix m = 1) (hi2 : i = 0 ∨ i = 1) (hw : wfT t) (h : Sg ix RTM S S') (hi : mT S m i t) : mT S' m i t := by
  have n := tn_rng hw
  obtain ⟨⟨h1, h2⟩, h3⟩ := hi
  have e : ∀ f j, ((f = 0 ∧ j < 2) ∨ ((f = 1 ∨ f = 2 ∨ f = 3) ∧ j < 48) ∨ f = 18 ∨ f = 19) → S'.1 m f j = S.1 m f j := fun f j hf => h.2 m f j ⟨hm, hf⟩
  refine ⟨⟨by rw [e 0 i (by omega)]; exact h1, fun k k0 k1 => ?_⟩, fun k k0 k1 => ?_⟩
  · rw [e 1 _ (by omega), e 2 _ (by omega), e 3 _ (by omega)]; exact h2 k k0 k1
  · rw [e 18 _ (by omega), e 19 _ (by omega)]; exact h3 k k0 k1
theorem WM_sg (hm : ix m = 1) (h : Sg ix RTM S S') (hi : WM m S t0 t1) : WM m S' t0 t1 := ⟨mT_sg hm (Or.inl rfl) hi.2.2.1 h hi.1, mT_sg hm (Or.inr rfl) hi.2.2.2 h hi.2.1, hi.2.2⟩
theorem iLP_sg (hs : SP Λ T m ix) (h : Sg ix RLP S S') (hi : iLP Λ T m S l p) : iLP Λ T m S' l p := by
  obtain ⟨a0, a1, a2, a3, _⟩ := hs
  unfold iLP
  rw [h.2 (yR Λ T 1 0) 2 0 (Or.inl ⟨a3, Or.inl rfl⟩), h.2 (yR Λ T 1 0) 3 0 (Or.inl ⟨a3, Or.inr rfl⟩), h.2 m 4 0 (Or.inr ⟨a1, Or.inl rfl⟩), h.2 m 5 0 (Or.inr ⟨a1, Or.inr rfl⟩)]
  exact hi
theorem KK_sg {k : Int} {u0 u1 : TT} (e : ∀ i, S'.1 m 7 i = S.1 m 7 i) (hi : KK S m k u0 u1 l p) : KK S' m k u0 u1 l p := by
  unfold KK
  simp only [e]
  exact hi
theorem iSV_sg {j : Int} (hj : j = 0 ∨ j = 1) (hs : SP Λ T m ix) (hr : iTR Λ T ix S) (h : Sg ix RSV S S') (hi : iSV Λ T m S j) : iSV Λ T m S' j := by
  obtain ⟨a0, a1, a2, a3, a4, a5, _⟩ := hs
  have eT : S'.1 T 3 j = S.1 T 3 j := h.2 T 3 j (Or.inl ⟨a0, rfl⟩)
  have e8 : S'.1 m 8 j = S.1 m 8 j := h.2 m 8 j (Or.inr (Or.inl ⟨a1, Or.inr rfl⟩))
  have e7 : ∀ i, S'.1 m 7 i = S.1 m 7 i := fun i => h.2 m 7 i (Or.inr (Or.inl ⟨a1, Or.inl rfl⟩))
  have ij : ix (yR Λ T 2 j) = 4 ∨ ix (yR Λ T 2 j) = 5 := by
    rcases hj with z | z <;> rw [z]
    · exact Or.inl a4
    · exact Or.inr a5
  have tj : (17 ≤ ix (S.2 (yR Λ T 2 j) 0) ∧ ix (S.2 (yR Λ T 2 j) 0) ≤ 20) ∧ (17 ≤ ix (S.2 (yR Λ T 2 j) 1) ∧ ix (S.2 (yR Λ T 2 j) 1) ≤ 20) := by
    rcases hj with z | z <;> rw [z]
    · rw [hr.2.1.1, hr.2.1.2]; omega
    · rw [hr.2.2.1, hr.2.2.2]; omega
  unfold iSV
  rw [eT, e8]
  rcases hi with z | ⟨z1, z2, u0, u1, l, p, z3, z4, z5, z6⟩
  · exact Or.inl z
  · refine Or.inr ⟨z1, z2, u0, u1, l, p, WC_kp h.kp (fun f => h.no (fun _ => Or.inr (Or.inr (Or.inr tj.1)))) (fun f => h.no (fun _ => Or.inr (Or.inr (Or.inr tj.2)))) z3, ?_, ?_, KK_sg e7 z6⟩
    · rw [h.2 (yR Λ T 2 j) 2 0 (Or.inr (Or.inr (Or.inl ⟨ij, Or.inl rfl⟩)))]; exact z4
    · rw [h.2 (yR Λ T 2 j) 3 0 (Or.inr (Or.inr (Or.inl ⟨ij, Or.inr rfl⟩)))]; exact z5
theorem iRG_sg (hm : ix m = 1) (h : Sg ix RRG S S') (hi : iRG m S) : iRG m S' := fun i i0 i1 => by
  rw [h.2 m 1 i ⟨hm, Or.inl rfl⟩, h.2 m 2 i ⟨hm, Or.inr rfl⟩]; exact hi i i0 i1
theorem CM_sg {ma : Nat} {P : MM} (e : ∀ f i, S'.1 ma f i = S.1 ma f i) (hi : CM S ma t0 P) : CM S' ma t0 P := by
  unfold CM
  simp only [e]
  exact hi
theorem iAC_sg (hs : SP Λ T m ix) (w0 : wfT t0) (w1 : wfT t1) (h : Sg ix RAC S S') (hi : iAC Λ T S t0 t1 l p) : iAC Λ T S' t0 t1 l p := by
  have hsc := scF_ok w0 w1 (matF_ok (least := l) (per := p) w0 w1)
  obtain ⟨a0, a1, a2, a3, a4, a5, a6, a7, a8, a9, a10, a11, a12, a13, a14, a15⟩ := hs
  unfold iAC
  rw [h.2 T 11 0 (Or.inl ⟨a0, rfl⟩)]
  rcases hi with z | ⟨z1, z2, z3⟩
  · exact Or.inl z
  · refine Or.inr ⟨z1, CM_sg (fun f i => h.2 _ f i (Or.inr (Or.inl a6))) z2, CZ_kp h.kp z3 hsc.2 (fun f hf => h.no (fun _ => Or.inr (Or.inr (Or.inl ⟨a7, hf⟩)))) (fun f => h.no (fun _ => Or.inr (Or.inr (Or.inr (Or.inl a11))))) (fun i f i0 i1 => h.no (fun _ => Or.inr (Or.inr (Or.inr (Or.inr (by rw [a15 i i0 i1]; omega))))))⟩
theorem iAM_sg (hm : ix m = 1) (h : Sg ix RAM S S') (hi : iAM m S t0 t1 l p n) : iAM m S' t0 t1 l p n := by
  have e : ∀ f i, (20 ≤ f ∧ f ≤ 23) ∨ (25 ≤ f ∧ f ≤ 31) → S'.1 m f i = S.1 m f i := fun f i hf => h.2 m f i ⟨hm, hf⟩
  unfold iAM
  rw [e 20 0 (by omega), e 31 0 (by omega)]
  rcases hi with z | ⟨z1, z2, z3, z4, z5⟩
  · exact Or.inl z
  · refine Or.inr ⟨z1, fun i i0 i1 => ?_, z3, fun i hi => MSt_kp h.kp (h.no (fun _ => ⟨hm, by omega⟩)) (z4 i hi), MW_kp h.kp (fun f f0 f1 => h.no (fun _ => ⟨hm, by omega⟩)) z5⟩
    rw [e 21 i (by omega), e 22 i (by omega), e 23 i (by omega)]; exact z2 i i0 i1
theorem iWK_sg (hs : SP Λ T m ix) (h : Sg ix RWK S S') (hi : iWK Λ T m S t0 t1 l p n) : iWK Λ T m S' t0 t1 l p n := by
  obtain ⟨a0, a1, a2, a3, a4, a5, a6, a7, a8, a9, _⟩ := hs
  have e9 : ∀ f i, S'.1 (yR Λ T 7 0) f i = S.1 (yR Λ T 7 0) f i := fun f i => h.2 _ f i (Or.inr (Or.inr a9))
  unfold iWK
  rw [h.2 T 13 0 (Or.inl ⟨a0, rfl⟩), h.2 m 6 0 (Or.inr (Or.inl ⟨a1, Or.inl rfl⟩)), h.2 m 20 0 (Or.inr (Or.inl ⟨a1, Or.inr rfl⟩))]
  refine ⟨hi.1, hi.2.1, hi.2.2.1, fun x x0 x1 => ?_, fun x x0 x1 => ?_, hi.2.2.2.2.2⟩
  · rw [e9, e9, e9, e9]; exact hi.2.2.2.1 x x0 x1
  · rw [e9, e9]; exact hi.2.2.2.2.1 x x0 x1
theorem iDI_sg (hT : ix T = 0) (h : Sg ix RDI S S') (hi : iDI T S t0 t1) : iDI T S' t0 t1 := by
  unfold iDI; rw [h.2 T 12 0 ⟨hT, rfl⟩]; exact hi
theorem iOU_sg (hs : SP Λ T m ix) (h : Sg ix ROU S S') (hi : iOU Λ T m S o) : iOU Λ T m S' o := by
  obtain ⟨a0, a1, a2, a3, a4, a5, a6, a7, a8, a9, a10, a11, a12, _⟩ := hs
  refine ⟨OM_kp h.kp (h.no (fun _ => Or.inl a12)) (h.no (fun _ => Or.inl a12)) hi.1, OM_kp h.kp (h.no (fun _ => Or.inr ⟨a1, Or.inl rfl⟩)) (h.no (fun _ => Or.inr ⟨a1, Or.inr rfl⟩)) hi.2.1, hi.2.2⟩
/-- all that is read -/
def RA (k f : Nat) (i : Int) : Prop := RTX k f i ∨ RTC k f i ∨ RTM k f i ∨ RLP k f i ∨ RSV k f i ∨ RAC k f i ∨ RAM k f i ∨ RWK k f i ∨ RDI k f i ∨ ROU k f i
theorem IV_sg (hs : SP Λ T m ix) (h : Sg ix RA S S') (hg : iRG m S') (hi : IV Λ T m ix S t0 t1 l p n o) : IV Λ T m ix S' t0 t1 l p n o := by
  obtain ⟨i1, i2, i3, i4, i5, i6, i7, i8, i9, i10, i11, i12⟩ := hi
  have g : ∀ {R : Nat → Nat → Int → Prop}, (∀ k f i, R k f i → RA k f i) → Sg ix R S S' := fun hr => h.mono hr
  refine ⟨iTX_sg hs (g (fun k f i z => Or.inl z)) i1, iTR_sg h.1 i2, WC_sg i2 (g (fun k f i z => Or.inr (Or.inl z))) i3, WM_sg hs.2.1 (g (fun k f i z => Or.inr (Or.inr (Or.inl z)))) i4, iLP_sg hs (g (fun k f i z => Or.inr (Or.inr (Or.inr (Or.inl z))))) i5, ⟨iSV_sg (Or.inl rfl) hs i2 (g (fun k f i z => Or.inr (Or.inr (Or.inr (Or.inr (Or.inl z)))))) i6.1, iSV_sg (Or.inr rfl) hs i2 (g (fun k f i z => Or.inr (Or.inr (Or.inr (Or.inr (Or.inl z)))))) i6.2⟩, hg, iAC_sg hs i3.2.2.1 i3.2.2.2 (g (fun k f i z => Or.inr (Or.inr (Or.inr (Or.inr (Or.inr (Or.inl z))))))) i8, iAM_sg hs.2.1 (g (fun k f i z => Or.inr (Or.inr (Or.inr (Or.inr (Or.inr (Or.inr (Or.inl z)))))))) i9, iWK_sg hs (g (fun k f i z => Or.inr (Or.inr (Or.inr (Or.inr (Or.inr (Or.inr (Or.inr (Or.inl z))))))))) i10, iDI_sg hs.1 (g (fun k f i z => Or.inr (Or.inr (Or.inr (Or.inr (Or.inr (Or.inr (Or.inr (Or.inr (Or.inl z)))))))))) i11, iOU_sg hs (g (fun k f i z => Or.inr (Or.inr (Or.inr (Or.inr (Or.inr (Or.inr (Or.inr (Or.inr (Or.inr z)))))))))) i12⟩
/-- what is not read may change -/
def NR (k f : Nat) : Prop := (k = 2 ∧ 3 ≤ f) ∨ k = 8 ∨ k = 10 ∨ k = 13 ∨ k = 14 ∨ (k = 1 ∧ ((13 ≤ f ∧ f ≤ 17) ∨ f = 24 ∨ 32 ≤ f)) ∨ (k = 7 ∧ 5 ≤ f)
theorem IV_nr (hs : SP Λ T m ix) (h : KI ix NR S S') (hi : IV Λ T m ix S t0 t1 l p n o) : IV Λ T m ix S' t0 t1 l p n o := by
  refine IV_sg hs (h.sg (fun k f i z => ?_)) (iRG_sg hs.2.1 (h.sg (fun k f i z => ?_)) hi.2.2.2.2.2.2.1) hi
  · unfold RA RTX RTC RTM RLP RSV RAC RAM RWK RDI ROU at z
    unfold NR
    omega
  · unfold RRG at z; unfold NR; omega
theorem IV_km (hs : SP Λ T m ix) (h : KM m S S') (hi : IV Λ T m ix S t0 t1 l p n o) : IV Λ T m ix S' t0 t1 l p n o := by
  refine IV_sg hs ⟨h.1, fun o f i z => ?_⟩ (fun i i0 i1 => ?_) hi
  · have hm := hs.2.1
    by_cases q : o = m
    · rw [q, hm] at z
      unfold RA RTX RTC RTM RLP RSV RAC RAM RWK RDI ROU at z
      exact h.2.1 o f i (fun w => by have := w.2; omega) (fun w => by have := w.2; omega) (fun w => by have := w.2; omega)
    · exact h.2.1 o f i (fun w => q w.1) (fun w => q w.1) (fun w => q w.1)
  · have g := hi.2.2.2.2.2.2.1 i i0 i1
    have r1 := h.2.2 1 i ⟨fun _ => g.1, fun z => by omega, fun z => by omega⟩
    have r2 := h.2.2 2 i ⟨fun z => by omega, fun _ => g.2, fun z => by omega⟩
    exact ⟨r1.1 rfl, r2.2.1 rfl⟩
end
