/-! the matching, as one value -/
abbrev MM : Type := (Int → Int) × (Int → Int) × (Int → Int)
def q0 (P : MM) : Int → Int := P.1
def q1 (P : MM) : Int → Int := P.2.1
def qh (P : MM) : Int → Int := P.2.2
def MOK (t0 t1 : TT) (P : MM) : Prop := (∀ x, 0 ≤ x → x < tn t0 → (q0 P x = -1 ∧ qh P x = -1) ∨ (0 ≤ q0 P x ∧ q0 P x < tn t1 ∧ q1 P (q0 P x) = x ∧ 1 ≤ qh P x ∧ qh P x ≤ 3)) ∧ (∀ y, 0 ≤ y → y < tn t1 → q1 P y = -1 ∨ (0 ≤ q1 P y ∧ q1 P y < tn t0 ∧ q0 P (q1 P y) = y))
def lex (a b x y : Int) : Prop := a < x ∨ (a = x ∧ b < y)
def el (t0 t1 : TT) (h : Int) (P : MM) (x y : Int) : Prop := (0 ≤ x ∧ x < tn t0) ∧ (0 ≤ y ∧ y < tn t1) ∧ q0 P x = -1 ∧ q1 P y = -1 ∧ th t0 x = h ∧ eqT t0 t1 x y
def far (t0 t1 : TT) (x y : Int) : Int := if 0 ≤ plT (tp t0) x - plT (tp t1) y then plT (tp t0) x - plT (tp t1) y else 0 - (plT (tp t0) x - plT (tp t1) y)
def nr (t0 t1 : TT) (x y : Int) : Int := 24 * kin t0 t1 x y + 24 - 1 - far t0 t1 x y
theorem pl_rng {t : TT} (h : wfT t) {x : Int} (x0 : 0 ≤ x) (x1 : x < tn t) : 0 ≤ plT (tp t) x ∧ plT (tp t) x ≤ 23 := by
  have := tn_rng h
  unfold plT
  split
  · omega
  · have := cnt_rng (tp t) (tp t x) x0
    omega
theorem far_rng {t0 t1 : TT} (h0 : wfT t0) (h1 : wfT t1) {x y : Int} (x0 : 0 ≤ x) (x1 : x < tn t0) (y0 : 0 ≤ y) (y1 : y < tn t1) : 0 ≤ far t0 t1 x y ∧ far t0 t1 x y ≤ 23 := by
  have a := pl_rng h0 x0 x1
  have b := pl_rng h1 y0 y1
  unfold far
  split <;> omega
theorem kin_rng {t0 t1 : TT} (h0 : wfT t0) {x y : Int} (x0 : 0 ≤ x) (x1 : x < tn t0) : 0 ≤ kin t0 t1 x y ∧ kin t0 t1 x y ≤ 23 := by
  have a := tp_rng h0 x0 x1
  have b := tn_rng h0
  have c := kinF_rng (t1 := t1) h0 30 (tp t0 x) (tp t1 y) (by omega) (by omega)
  unfold kin
  omega
theorem nr_rng {t0 t1 : TT} (h0 : wfT t0) (h1 : wfT t1) {x y : Int} (x0 : 0 ≤ x) (x1 : x < tn t0) (y0 : 0 ≤ y) (y1 : y < tn t1) : 0 ≤ nr t0 t1 x y ∧ nr t0 t1 x y ≤ 1000 := by
  have a := far_rng h0 h1 x0 x1 y0 y1
  have b := kin_rng (t1 := t1) (y := y) h0 x0 x1
  unfold nr
  omega
/-- b is the best pair of those before (x, y) -/
def isB (t0 t1 : TT) (h : Int) (P : MM) (x y : Int) (b : Int × Int) : Prop := (b.1 = -1 ∧ b.2 = -1 ∧ ∀ x' y', lex x' y' x y → ¬ el t0 t1 h P x' y') ∨
  (el t0 t1 h P b.1 b.2 ∧ lex b.1 b.2 x y ∧ ∀ x' y', lex x' y' x y → el t0 t1 h P x' y' → nr t0 t1 x' y' < nr t0 t1 b.1 b.2 ∨ (nr t0 t1 x' y' = nr t0 t1 b.1 b.2 ∧ ¬ lex x' y' b.1 b.2))
section
variable {t0 t1 : TT} {h : Int} {P : MM} {x y : Int} {b : Int × Int}
theorem isB_0 : isB t0 t1 h P 0 0 (-1, -1) := Or.inl ⟨rfl, rfl, fun x' y' z e => by have := e.1; have := e.2.1; unfold lex at z; omega⟩
theorem isB_skip (hb : isB t0 t1 h P x y b) (hn : ¬ el t0 t1 h P x y) : isB t0 t1 h P x (y + 1) b := by
  have key : ∀ x' y', lex x' y' x (y + 1) → el t0 t1 h P x' y' → lex x' y' x y := fun x' y' z e => by
    by_cases q : x' = x ∧ y' = y
    · rw [q.1, q.2] at e; exact absurd e hn
    · unfold lex at z ⊢; omega
  rcases hb with ⟨b1, b2, b3⟩ | ⟨b1, b2, b3⟩
  · exact Or.inl ⟨b1, b2, fun x' y' z e => b3 x' y' (key x' y' z e) e⟩
  · exact Or.inr ⟨b1, by unfold lex at b2 ⊢; omega, fun x' y' z e => b3 x' y' (key x' y' z e) e⟩
theorem isB_take (hb : isB t0 t1 h P x y b) (he : el t0 t1 h P x y) (hn : b.1 = -1 ∨ nr t0 t1 b.1 b.2 < nr t0 t1 x y) : isB t0 t1 h P x (y + 1) (x, y) := by
  refine Or.inr ⟨he, Or.inr ⟨rfl, by show y < y + 1; omega⟩, fun x' y' z e => ?_⟩
  show nr t0 t1 x' y' < nr t0 t1 x y ∨ (nr t0 t1 x' y' = nr t0 t1 x y ∧ ¬ lex x' y' x y)
  by_cases q : x' = x ∧ y' = y
  · rw [q.1, q.2]
    exact Or.inr ⟨rfl, fun z => by unfold lex at z; omega⟩
  · have hl : lex x' y' x y := by unfold lex at z ⊢; omega
    rcases hb with ⟨b1, b2, b3⟩ | ⟨b1, b2, b3⟩
    · exact absurd e (b3 x' y' hl)
    · have h0 := b1.1.1
      have := b3 x' y' hl e
      omega
theorem isB_keep (hb : isB t0 t1 h P x y b) (he : el t0 t1 h P x y) (hb1 : b.1 ≠ -1) (hn : nr t0 t1 x y ≤ nr t0 t1 b.1 b.2) : isB t0 t1 h P x (y + 1) b := by
  rcases hb with ⟨b1, b2, b3⟩ | ⟨b1, b2, b3⟩
  · exact absurd b1 hb1
  · refine Or.inr ⟨b1, by unfold lex at b2 ⊢; omega, fun x' y' z e => ?_⟩
    by_cases q : x' = x ∧ y' = y
    · rw [q.1, q.2]
      by_cases q2 : nr t0 t1 x y < nr t0 t1 b.1 b.2
      · exact Or.inl q2
      · exact Or.inr ⟨by omega, fun z => by unfold lex at z b2; omega⟩
    · exact b3 x' y' (by unfold lex at z ⊢; omega) e
theorem isB_row (hb : isB t0 t1 h P x y b) (hn : ∀ y', y ≤ y' → ¬ el t0 t1 h P x y') : isB t0 t1 h P (x + 1) 0 b := by
  have key : ∀ x' y', lex x' y' (x + 1) 0 → el t0 t1 h P x' y' → lex x' y' x y := fun x' y' z e => by
    have e2 := e.2.1.1
    unfold lex at z ⊢
    by_cases q : x' = x
    · by_cases q2 : y ≤ y'
      · rw [q] at e; exact absurd e (hn y' q2)
      · omega
    · omega
  rcases hb with ⟨b1, b2, b3⟩ | ⟨b1, b2, b3⟩
  · exact Or.inl ⟨b1, b2, fun x' y' z e => b3 x' y' (key x' y' z e) e⟩
  · exact Or.inr ⟨b1, by unfold lex at b2 ⊢; omega, fun x' y' z e => b3 x' y' (key x' y' z e) e⟩
theorem isB_uniq {b' : Int × Int} (hb : isB t0 t1 h P x y b) (hb' : isB t0 t1 h P x y b') : b = b' := by
  rcases hb with ⟨b1, b2, b3⟩ | ⟨b1, b2, b3⟩ <;> rcases hb' with ⟨c1, c2, c3⟩ | ⟨c1, c2, c3⟩
  · exact Prod.ext (by omega) (by omega)
  · exact absurd c1 (b3 _ _ c2)
  · exact absurd b1 (c3 _ _ b2)
  · have d1 := b3 _ _ c2 c1
    have d2 := c3 _ _ b2 b1
    unfold lex at d1 d2
    exact Prod.ext (by omega) (by omega)
end
/-- the best pair of a height; (-1, -1): there is none -/
noncomputable def bB (t0 t1 : TT) (h : Int) (P : MM) : Int × Int := Classical.epsilon (fun b => isB t0 t1 h P (tn t0) 0 b)
theorem bB_eq {t0 t1 : TT} {h : Int} {P : MM} {b : Int × Int} (hb : isB t0 t1 h P (tn t0) 0 b) : bB t0 t1 h P = b := isB_uniq (Classical.epsilon_spec (p := fun b => isB t0 t1 h P (tn t0) 0 b) ⟨b, hb⟩) hb
/-- two subtrees are joined -/
def jT (t0 t1 : TT) (P : MM) (x y : Int) : MM := (fun j => if x ≤ j ∧ j < te t0 x then y + (j - x) else q0 P j, fun j => if y ≤ j ∧ j < te t1 y then x + (j - y) else q1 P j, fun j => if x ≤ j ∧ j < te t0 x then 1 else qh P j)
noncomputable def dnF (t0 t1 : TT) (h : Int) : Nat → MM → MM
  | 0, P => P
  | f + 1, P => if (bB t0 t1 h P).1 < 0 then P else dnF t0 t1 h f (jT t0 t1 P (bB t0 t1 h P).1 (bB t0 t1 h P).2)
/-- over a node without partner no node has one unless it is higher -/
def EH (t : TT) (h : Int) (p : Int → Int) : Prop := ∀ a d, 0 ≤ a → a < tn t → a ≤ d → d < te t a → p a = -1 → p d ≠ -1 → h < th t a
/-- a node above is higher -/
theorem th_up {t : TT} (hw : wfT t) {a : Int} (a0 : 0 ≤ a) (a1 : a < tn t) : ∀ (f : Nat) (k : Int), k < f → a < k → k < te t a → th t k < th t a
  | 0, k, k0, k1, k2 => by omega
  | f + 1, k, k0, k1, k2 => by
    obtain ⟨b1, b2, b3, b4⟩ := en_ok (n := tn t) (pa := tp t) (k := a) a1
    have c1 := b3 k k1 k2
    have e1 := te_rng a1
    have c2 := tp_rng hw (k := k) (by omega) (by omega)
    have c3 := (hg_ok hw.1 (tp t k) (by omega) (by omega)).1 k (by omega) (by omega) rfl
    have c3' : th t k + 1 ≤ th t (tp t k) := c3
    by_cases q : tp t k = a
    · rw [q] at c3'; omega
    · have := th_up hw a0 a1 f (tp t k) (by omega) (by omega) (by omega)
      omega
/-- nodes of one subtree and of another: apart, or one in the other -/
theorem te_nest {t : TT} (hw : wfT t) {a x d : Int} (a0 : 0 ≤ a) (a1 : a < tn t) (x0 : 0 ≤ x) (x1 : x < tn t) (h1 : a ≤ d) (h2 : d < te t a) (h3 : x ≤ d) (h4 : d < te t x) : (x ≤ a ∧ a < te t x) ∨ (a < x ∧ x < te t a) := by omega
theorem jT_ok {t0 t1 : TT} (h0 : wfT t0) (h1 : wfT t1) {h : Int} {P : MM} {x y : Int} (hP : MOK t0 t1 P) (hE0 : EH t0 h (q0 P)) (hE1 : EH t1 h (q1 P)) (he : el t0 t1 h P x y) :
    MOK t0 t1 (jT t0 t1 P x y) ∧ EH t0 h (q0 (jT t0 t1 P x y)) ∧ EH t1 h (q1 (jT t0 t1 P x y)) := by
  obtain ⟨hx, hy, ex, ey, eh, ee⟩ := he
  have hs := ee.1
  have ax := te_rng hx.2
  have ay := te_rng hy.2
  have hy2 : th t1 y = h := by
    have := eq_ht h0 h1 hx.1 hx.2 hy.1 hy.2 ee (te t0 x - x + 1).toNat 0 (by omega) (by omega) (by omega)
    rw [Int.add_zero, Int.add_zero] at this
    omega
  have free0 : ∀ d, x ≤ d → d < te t0 x → q0 P d = -1 := fun d d0 d1 => by
    by_cases q : q0 P d = -1
    · exact q
    · have := hE0 x d hx.1 hx.2 d0 d1 ex q
      omega
  have free1 : ∀ d, y ≤ d → d < te t1 y → q1 P d = -1 := fun d d0 d1 => by
    by_cases q : q1 P d = -1
    · exact q
    · have := hE1 y d hy.1 hy.2 d0 d1 ey q
      omega
  have i0 : ∀ j, x ≤ j → j < te t0 x → q0 (jT t0 t1 P x y) j = y + (j - x) := fun j a b => if_pos ⟨a, b⟩
  have o0 : ∀ j, ¬ (x ≤ j ∧ j < te t0 x) → q0 (jT t0 t1 P x y) j = q0 P j := fun j a => if_neg a
  have i1 : ∀ j, y ≤ j → j < te t1 y → q1 (jT t0 t1 P x y) j = x + (j - y) := fun j a b => if_pos ⟨a, b⟩
  have o1 : ∀ j, ¬ (y ≤ j ∧ j < te t1 y) → q1 (jT t0 t1 P x y) j = q1 P j := fun j a => if_neg a
  have ih : ∀ j, x ≤ j → j < te t0 x → qh (jT t0 t1 P x y) j = 1 := fun j a b => if_pos ⟨a, b⟩
  have oh : ∀ j, ¬ (x ≤ j ∧ j < te t0 x) → qh (jT t0 t1 P x y) j = qh P j := fun j a => if_neg a
  refine ⟨⟨fun j j0 j1 => ?_, fun j j0 j1 => ?_⟩, fun a d a0 a1 d0 d1 pa pd => ?_, fun a d a0 a1 d0 d1 pa pd => ?_⟩
  · by_cases q : x ≤ j ∧ j < te t0 x
    · right
      rw [i0 j q.1 q.2, ih j q.1 q.2, i1 _ (by omega) (by omega)]
      omega
    · rw [o0 j q, oh j q]
      rcases hP.1 j j0 j1 with z | z
      · exact Or.inl z
      · right
        have hn : ¬ (y ≤ q0 P j ∧ q0 P j < te t1 y) := fun z2 => by
          have := free1 _ z2.1 z2.2
          omega
        rw [o1 _ hn]
        exact z
  · by_cases q : y ≤ j ∧ j < te t1 y
    · right
      rw [i1 j q.1 q.2, i0 _ (by omega) (by omega)]
      omega
    · rw [o1 j q]
      rcases hP.2 j j0 j1 with z | z
      · exact Or.inl z
      · right
        have hn : ¬ (x ≤ q1 P j ∧ q1 P j < te t0 x) := fun z2 => by
          have := free0 _ z2.1 z2.2
          omega
        rw [o0 _ hn]
        exact z
  · by_cases qa : x ≤ a ∧ a < te t0 x
    · rw [i0 a qa.1 qa.2] at pa
      omega
    · rw [o0 a qa] at pa
      by_cases qd : x ≤ d ∧ d < te t0 x
      · have := th_up h0 a0 a1 (x.toNat + 1) x (by omega) (by omega) (by omega)
        omega
      · rw [o0 d qd] at pd
        exact hE0 a d a0 a1 d0 d1 pa pd
  · by_cases qa : y ≤ a ∧ a < te t1 y
    · rw [i1 a qa.1 qa.2] at pa
      omega
    · rw [o1 a qa] at pa
      by_cases qd : y ≤ d ∧ d < te t1 y
      · have := th_up h1 a0 a1 (y.toNat + 1) y (by omega) (by omega) (by omega)
        omega
      · rw [o1 d qd] at pd
        exact hE1 a d a0 a1 d0 d1 pa pd
/-- how many nodes have no partner -/
def cU (p : Int → Int) : Nat → Nat
  | 0 => 0
  | k + 1 => cU p k + (if p (k : Int) = -1 then 1 else 0)
theorem cU_le (p : Int → Int) : ∀ k, cU p k ≤ k
  | 0 => Nat.le_refl _
  | k + 1 => by
    have := cU_le p k
    unfold cU
    split <;> omega
theorem cU_mono {p p' : Int → Int} : ∀ (k : Nat), (∀ j : Int, 0 ≤ j → j < k → p' j = -1 → p j = -1) → cU p' k ≤ cU p k
  | 0, _ => Nat.le_refl _
  | k + 1, h => by
    have h1 := cU_mono k (fun j a b => h j a (by omega))
    have h2 := h (k : Int) (by omega) (by omega)
    unfold cU
    by_cases q : p' (k : Int) = -1
    · rw [if_pos q, if_pos (h2 q)]; omega
    · rw [if_neg q]; omega
theorem cU_lt {p p' : Int → Int} {x : Int} (x0 : 0 ≤ x) (hx : p x = -1) (hx' : p' x ≠ -1) : ∀ (k : Nat), x < k → (∀ j : Int, 0 ≤ j → j < k → p' j = -1 → p j = -1) → cU p' k < cU p k
  | 0, h, _ => by omega
  | k + 1, hk, h => by
    unfold cU
    by_cases q : x = (k : Int)
    · have h1 := cU_mono k (fun j a b => h j a (by omega))
      rw [← q, if_pos hx, if_neg hx']
      omega
    · have h1 := cU_lt x0 hx hx' k (by omega) (fun j a b => h j a (by omega))
      have h2 := h (k : Int) (by omega) (by omega)
      by_cases q2 : p' (k : Int) = -1
      · rw [if_pos q2, if_pos (h2 q2)]; omega
      · rw [if_neg q2]; omega
theorem jT_cU {t0 t1 : TT} (h0 : wfT t0) {h : Int} {P : MM} {x y : Int} (he : el t0 t1 h P x y) : cU (q0 (jT t0 t1 P x y)) (tn t0).toNat < cU (q0 P) (tn t0).toNat := by
  have ax := te_rng he.1.2
  refine cU_lt he.1.1 he.2.2.1 ?_ _ (by have := he.1.2; omega) (fun j a b c => ?_)
  · show (if x ≤ x ∧ x < te t0 x then y + (x - x) else q0 P x) ≠ -1
    rw [if_pos ⟨Int.le_refl _, ax.1⟩]
    have := he.2.1.1
    omega
  · by_cases q : x ≤ j ∧ j < te t0 x
    · have e : q0 (jT t0 t1 P x y) j = y + (j - x) := if_pos q
      rw [e] at c
      have := he.2.1.1
      omega
    · have e : q0 (jT t0 t1 P x y) j = q0 P j := if_neg q
      rw [e] at c
      exact c
/-- all heights from h down, k of them -/
noncomputable def hsF (t0 t1 : TT) : Nat → Int → MM → MM
  | 0, _, P => P
  | k + 1, h, P => hsF t0 t1 k (h - 1) (dnF t0 t1 h 24 P)
theorem dnF_none {t0 t1 : TT} {h : Int} {P : MM} (hn : ∀ x y, ¬ el t0 t1 h P x y) (f : Nat) : dnF t0 t1 h f P = P := by
  have hb : isB t0 t1 h P (tn t0) 0 (-1, -1) := Or.inl ⟨rfl, rfl, fun x y _ => hn x y⟩
  cases f with
  | zero => rfl
  | succ f =>
    unfold dnF
    rw [bB_eq hb]
    exact if_pos (by decide)
/-- heights that no common subtree has may be left out -/
theorem hsF_skip {t0 t1 : TT} (h0 : wfT t0) (h1 : wfT t1) {P : MM} {H : Int} (hH : ∀ x y, 0 ≤ x → x < tn t0 → 0 ≤ y → y < tn t1 → eqT t0 t1 x y → th t0 x ≤ H) : ∀ (d k : Nat) , hsF t0 t1 (d + k) (H + d) P = hsF t0 t1 k H P
  | 0, k => by rw [Nat.zero_add, show H + ((0 : Nat) : Int) = H by omega]
  | d + 1, k => by
    rw [show d + 1 + k = (d + k) + 1 by omega]
    show hsF t0 t1 (d + k) (H + ((d + 1 : Nat) : Int) - 1) (dnF t0 t1 (H + ((d + 1 : Nat) : Int)) 24 P) = _
    rw [dnF_none (fun x y z => by have := hH x y z.1.1 z.1.2 z.2.1.1 z.2.1.2 z.2.2.2.2.2; have := z.2.2.2.2.1; push_cast at this; omega), show H + ((d + 1 : Nat) : Int) - 1 = H + d by omega]
    exact hsF_skip h0 h1 hH d k
/-! phase 2 -/
/-- how many nodes below x have partners below y, of those before k -/
def cmF (P : MM) (x ey y : Int) : Nat → Int
  | 0 => 0
  | k + 1 => cmF P x ey y k + (if y < q0 P (x + 1 + (k : Int)) ∧ q0 P (x + 1 + (k : Int)) < ey then 1 else 0)
def cm (t0 t1 : TT) (P : MM) (x y : Int) : Int := cmF P x (te t1 y) y (te t0 x - x - 1).toNat
def sm (t0 t1 : TT) (x y : Int) : Int := (te t0 x - x - 1) + (te t1 y - y - 1)
theorem cmF_rng (P : MM) (x ey y : Int) : ∀ k : Nat, 0 ≤ cmF P x ey y k ∧ cmF P x ey y k ≤ k
  | 0 => ⟨Int.le_refl _, Int.le_refl _⟩
  | k + 1 => by
    have := cmF_rng P x ey y k
    unfold cmF
    split <;> push_cast <;> omega
theorem cm_rng {t0 t1 : TT} {P : MM} {x y : Int} (h0 : wfT t0) (x0 : 0 ≤ x) (x1 : x < tn t0) : 0 ≤ cm t0 t1 P x y ∧ cm t0 t1 P x y ≤ 23 := by
  have := cmF_rng P x (te t1 y) y (te t0 x - x - 1).toNat
  have := te_rng x1
  have := tn_rng h0
  unfold cm
  omega
theorem sm_rng {t0 t1 : TT} {x y : Int} (h0 : wfT t0) (h1 : wfT t1) (x0 : 0 ≤ x) (x1 : x < tn t0) (y0 : 0 ≤ y) (y1 : y < tn t1) : 0 ≤ sm t0 t1 x y ∧ sm t0 t1 x y ≤ 46 := by
  have := te_rng x1
  have := te_rng y1
  have := tn_rng h0
  have := tn_rng h1
  unfold sm
  omega
theorem mul_rng {a b : Int} (a0 : 0 ≤ a) (a1 : a ≤ 200) (b0 : 0 ≤ b) (b1 : b ≤ 200) : 0 ≤ a * b ∧ a * b ≤ 40000 := by
  refine ⟨Int.mul_nonneg a0 b0, ?_⟩
  have h1 : a * b ≤ 200 * b := Int.mul_le_mul_of_nonneg_right a1 b0
  have h2 : 200 * b ≤ 200 * 200 := by omega
  omega
theorem cmF_pos (P : MM) (x ey y : Int) : ∀ k : Nat, 0 < cmF P x ey y k → y + 1 < ey
  | 0, h => absurd h (by show ¬ (0 : Int) < 0; omega)
  | k + 1, h => by
    unfold cmF at h
    by_cases q : y < q0 P (x + 1 + (k : Int)) ∧ q0 P (x + 1 + (k : Int)) < ey
    · omega
    · rw [if_neg q, Int.add_zero] at h
      exact cmF_pos P x ey y k h
/-- the node of tree 1 that is most like x, of those before k; -1: none -/
def elU (t0 t1 : TT) (P : MM) (x y : Int) : Prop := q1 P y = -1 ∧ tl t0 x = tl t1 y ∧ 0 < cm t0 t1 P x y
noncomputable def buF (t0 t1 : TT) (P : MM) (x : Int) : Nat → Int
  | 0 => -1
  | k + 1 => @ite Int (elU t0 t1 P x (k : Int) ∧ (buF t0 t1 P x k < 0 ∨ cm t0 t1 P x (buF t0 t1 P x k) * sm t0 t1 x (k : Int) < cm t0 t1 P x (k : Int) * sm t0 t1 x (buF t0 t1 P x k))) (Classical.propDecidable _) (k : Int) (buF t0 t1 P x k)
noncomputable def bu (t0 t1 : TT) (P : MM) (x : Int) : Int := buF t0 t1 P x (tn t1).toNat
theorem buF_y {t0 t1 : TT} {P : MM} {x : Int} {k : Nat} (h : elU t0 t1 P x (k : Int) ∧ (buF t0 t1 P x k < 0 ∨ cm t0 t1 P x (buF t0 t1 P x k) * sm t0 t1 x (k : Int) < cm t0 t1 P x (k : Int) * sm t0 t1 x (buF t0 t1 P x k))) : buF t0 t1 P x (k + 1) = (k : Int) := by
  unfold buF
  exact if_pos h
theorem buF_n {t0 t1 : TT} {P : MM} {x : Int} {k : Nat} (h : ¬ (elU t0 t1 P x (k : Int) ∧ (buF t0 t1 P x k < 0 ∨ cm t0 t1 P x (buF t0 t1 P x k) * sm t0 t1 x (k : Int) < cm t0 t1 P x (k : Int) * sm t0 t1 x (buF t0 t1 P x k)))) : buF t0 t1 P x (k + 1) = buF t0 t1 P x k := by
  show @ite Int _ (Classical.propDecidable _) (k : Int) (buF t0 t1 P x k) = _
  exact if_neg h
theorem buF_ok {t0 t1 : TT} {P : MM} {x : Int} : ∀ k : Nat, buF t0 t1 P x k = -1 ∨ (0 ≤ buF t0 t1 P x k ∧ buF t0 t1 P x k < k ∧ elU t0 t1 P x (buF t0 t1 P x k))
  | 0 => Or.inl rfl
  | k + 1 => by
    by_cases q : elU t0 t1 P x (k : Int) ∧ (buF t0 t1 P x k < 0 ∨ cm t0 t1 P x (buF t0 t1 P x k) * sm t0 t1 x (k : Int) < cm t0 t1 P x (k : Int) * sm t0 t1 x (buF t0 t1 P x k))
    · rw [buF_y q]
      exact Or.inr ⟨by omega, by omega, q.1⟩
    · rw [buF_n q]
      rcases buF_ok (t0 := t0) (t1 := t1) (P := P) (x := x) k with z | z
      · exact Or.inl z
      · exact Or.inr ⟨z.1, by omega, z.2.2⟩
/-- one pair -/
def j1 (P : MM) (x y ph : Int) : MM := (up (q0 P) x y, up (q1 P) y x, up (qh P) x ph)
noncomputable def upS (t0 t1 : TT) (per : Int) (P : MM) (x : Int) : MM :=
  if ¬ q0 P x = -1 ∨ te t0 x - x - 1 = 0 then P else if bu t0 t1 P x < 0 then P else if 200 * cm t0 t1 P x (bu t0 t1 P x) < per * sm t0 t1 x (bu t0 t1 P x) then P else j1 P x (bu t0 t1 P x) 2
/-- the node at a place of the postorder -/
noncomputable def nAt (t : TT) (i : Int) : Int := Classical.epsilon (fun k => 0 ≤ k ∧ k < tn t ∧ pix (tn t) (tp t) k = i)
theorem nAt_ok {t : TT} (hw : wfT t) {i : Int} (i0 : 0 ≤ i) (i1 : i < tn t) : 0 ≤ nAt t i ∧ nAt t i < tn t ∧ pix (tn t) (tp t) (nAt t i) = i := Classical.epsilon_spec (p := fun k => 0 ≤ k ∧ k < tn t ∧ pix (tn t) (tp t) k = i) (pix_sur hw.1 i0 i1)
theorem nAt_eq {t : TT} (hw : wfT t) {i : Int} (i0 : 0 ≤ i) (i1 : i < tn t) {A : Int → Int} (hA : ∀ k, 0 ≤ k → k < tn t → A (pix (tn t) (tp t) k) = k) : A i = nAt t i := by
  have h := nAt_ok hw i0 i1
  have := hA _ h.1 h.2.1
  rw [h.2.2] at this
  exact this
noncomputable def upR (t0 t1 : TT) (per : Int) : Nat → Int → MM → MM
  | 0, _, P => P
  | k + 1, i, P => upR t0 t1 per k (i + 1) (upS t0 t1 per P (nAt t0 i))
def rtS (t0 t1 : TT) (P : MM) : MM := if q0 P 0 = -1 ∧ q1 P 0 = -1 ∧ tl t0 0 = tl t1 0 then j1 P 0 0 3 else P
def M0 : MM := (fun _ => -1, fun _ => -1, fun _ => -1)
noncomputable def matF (t0 t1 : TT) (least per : Int) : MM := rtS t0 t1 (upR t0 t1 per (tn t0).toNat 0 (hsF t0 t1 (25 - least).toNat 24 M0))
theorem j1_ok {t0 t1 : TT} {P : MM} {x y ph : Int} (hP : MOK t0 t1 P) (x0 : 0 ≤ x) (x1 : x < tn t0) (y0 : 0 ≤ y) (y1 : y < tn t1) (hx : q0 P x = -1) (hy : q1 P y = -1) (hp : 1 ≤ ph ∧ ph ≤ 3) : MOK t0 t1 (j1 P x y ph) := by
  refine ⟨fun j j0 jn => ?_, fun j j0 jn => ?_⟩
  · show (up (q0 P) x y j = -1 ∧ up (qh P) x ph j = -1) ∨ (0 ≤ up (q0 P) x y j ∧ up (q0 P) x y j < tn t1 ∧ up (q1 P) y x (up (q0 P) x y j) = j ∧ 1 ≤ up (qh P) x ph j ∧ up (qh P) x ph j ≤ 3)
    by_cases q : j = x
    · subst q
      right
      rw [up_s, up_s, up_s]
      exact ⟨y0, y1, rfl, hp⟩
    · rw [up_n _ _ q, up_n _ _ q]
      rcases hP.1 j j0 jn with z | z
      · exact Or.inl z
      · right
        rw [up_n _ _ (fun z2 => by rw [z2] at z; omega)]
        exact z
  · show up (q1 P) y x j = -1 ∨ (0 ≤ up (q1 P) y x j ∧ up (q1 P) y x j < tn t0 ∧ up (q0 P) x y (up (q1 P) y x j) = j)
    by_cases q : j = y
    · subst q
      right
      rw [up_s, up_s]
      exact ⟨x0, x1, rfl⟩
    · rw [up_n _ _ q]
      rcases hP.2 j j0 jn with z | z
      · exact Or.inl z
      · right
        rw [up_n _ _ (fun z2 => by rw [z2] at z; omega)]
        exact z
theorem M0_ok {t0 t1 : TT} : MOK t0 t1 M0 := ⟨fun x _ _ => Or.inl ⟨rfl, rfl⟩, fun y _ _ => Or.inl rfl⟩
