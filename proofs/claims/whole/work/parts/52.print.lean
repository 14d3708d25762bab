/-! printing -/
def chF (W : WW) (u i : Int) : Nat → Int
  | 0 => -1
  | k + 1 => if wa W (k : Int) = u ∧ wp W (k : Int) = i then (k : Int) else chF W u i k
def chd (W : WW) (u i : Int) : Int := chF W u i 48
theorem chF_ok {W : WW} {u i : Int} : ∀ (k : Nat), (chF W u i k = -1 ∧ ∀ z : Int, 0 ≤ z → z < k → ¬ (wa W z = u ∧ wp W z = i)) ∨ (0 ≤ chF W u i k ∧ chF W u i k < k ∧ wa W (chF W u i k) = u ∧ wp W (chF W u i k) = i)
  | 0 => Or.inl ⟨rfl, fun z a b => by omega⟩
  | k + 1 => by
    unfold chF
    by_cases q : wa W (k : Int) = u ∧ wp W (k : Int) = i
    · rw [if_pos q]; exact Or.inr ⟨by omega, by omega, q.1, q.2⟩
    · rw [if_neg q]
      rcases chF_ok (W := W) (u := u) (i := i) k with z | z
      · refine Or.inl ⟨z.1, fun w w0 w1 => ?_⟩
        by_cases q2 : w = (k : Int)
        · rw [q2]; exact q
        · exact z.2 w w0 (by omega)
      · exact Or.inr ⟨z.1, by omega, z.2.2⟩
theorem chd_ok (W : WW) (u i : Int) : (chd W u i = -1 ∧ ∀ z : Int, 0 ≤ z → z < 48 → ¬ (wa W z = u ∧ wp W z = i)) ∨ (0 ≤ chd W u i ∧ chd W u i < 48 ∧ wa W (chd W u i) = u ∧ wp W (chd W u i) = i) := chF_ok 48
theorem chd_eq {W : WW} (hw : wfW W) {u i z : Int} (hu : 0 ≤ u) (z0 : 0 ≤ z) (z1 : z < 48) (h1 : wa W z = u) (h2 : wp W z = i) : chd W u i = z := by
  rcases chd_ok W u i with y | y
  · exact absurd ⟨h1, h2⟩ (y.2 z z0 z1)
  · exact wfW_inj hw y.1 y.2.1 z0 z1 (by omega) (by omega) (by omega)
theorem s_Wt_chd {Λ : QLay} {wt : Nat} {u a : Int} {S : QMem} {Q : Int → QMem → Prop} {W : WW} (hC : CW S wt W) (hw : wfW W) (u0 : 0 ≤ u) (u1 : u ≤ 48) (ha : inR a) (hq : Q (chd W u a) S) : w_Wt_childAt Λ wt u a S Q := by
  refine s_Wt_childAt hC hw u0 u1 ha (fun x x0 x1 e1 e2 => ?_) (fun h => ?_)
  · rw [← chd_eq hw u0 x0 x1 e1 e2]; exact hq
  · rcases chd_ok W u a with y | y
    · rw [← y.1]; exact hq
    · exact absurd y.2.2.2 (h _ y.1 y.2.1 y.2.2.1)
abbrev OB : Type := (Int → Int) × Int
def emit (o : OB) (c : Int) : OB := (up o.1 o.2 c, o.2 + 1)
def con2 (W : WW) (x : Int) (o : OB) : OB := if 10 ≤ wv W x then emit o (48 + wv W x / 10) else o
def con3 (W : WW) (x : Int) (o : OB) : OB := if 0 < wv W x then emit o (48 + wv W x % 10) else o
def con (W : WW) (x : Int) (o : OB) : OB := con3 W x (con2 W x (emit o (97 + wl W x)))
theorem con_rng (W : WW) (x : Int) (o : OB) : o.2 + 1 ≤ (con W x o).2 ∧ (con W x o).2 ≤ o.2 + 3 := by
  have e : ∀ (o : OB) (c : Int), (emit o c).2 = o.2 + 1 := fun _ _ => rfl
  have h2 : ∀ o, o.2 ≤ (con2 W x o).2 ∧ (con2 W x o).2 ≤ o.2 + 1 := fun o => by unfold con2; split; rw [e]; omega; omega
  have h3 : ∀ o, o.2 ≤ (con3 W x o).2 ∧ (con3 W x o).2 ≤ o.2 + 1 := fun o => by unfold con3; split; rw [e]; omega; omega
  have a := h2 (emit o (97 + wl W x))
  have b := h3 (con2 W x (emit o (97 + wl W x)))
  rw [e] at a
  unfold con
  omega
/-- the way through a tree; none: it does not end in so many steps -/
def po (W : WW) : Nat → Int → Int → OB → Option OB
  | 0, _, _, _ => none
  | f + 1, m, x, o => if m = 0 then (if chd W x 0 = -1 then po W f 1 x o else po W f 0 (chd W x 0) (con W (chd W x 0) (emit o 40)))
    else (if chd W (wa W x) (wp W x + 1) = -1 then (if wa W x = 48 then some o else po W f 1 (wa W x) (emit o 41)) else po W f 0 (chd W (wa W x) (wp W x + 1)) (con W (chd W (wa W x) (wp W x + 1)) (emit o 32)))
theorem po_0n {W : WW} {f : Nat} {x : Int} {o : OB} (h : chd W x 0 = -1) : po W (f + 1) 0 x o = po W f 1 x o := by
  show (if (0 : Int) = 0 then (if chd W x 0 = -1 then po W f 1 x o else _) else _) = _
  rw [if_pos rfl, if_pos h]
theorem po_0y {W : WW} {f : Nat} {x : Int} {o : OB} (h : ¬ chd W x 0 = -1) : po W (f + 1) 0 x o = po W f 0 (chd W x 0) (con W (chd W x 0) (emit o 40)) := by
  show (if (0 : Int) = 0 then (if chd W x 0 = -1 then po W f 1 x o else _) else _) = _
  rw [if_pos rfl, if_neg h]
theorem po_1y {W : WW} {f : Nat} {x : Int} {o : OB} (h : ¬ chd W (wa W x) (wp W x + 1) = -1) : po W (f + 1) 1 x o = po W f 0 (chd W (wa W x) (wp W x + 1)) (con W (chd W (wa W x) (wp W x + 1)) (emit o 32)) := by
  show (if (1 : Int) = 0 then _ else (if chd W (wa W x) (wp W x + 1) = -1 then (if wa W x = 48 then some o else po W f 1 (wa W x) (emit o 41)) else _)) = _
  rw [if_neg (by decide), if_neg h]
theorem po_1e {W : WW} {f : Nat} {x : Int} {o : OB} (h : chd W (wa W x) (wp W x + 1) = -1) (h2 : wa W x = 48) : po W (f + 1) 1 x o = some o := by
  show (if (1 : Int) = 0 then _ else (if chd W (wa W x) (wp W x + 1) = -1 then (if wa W x = 48 then some o else po W f 1 (wa W x) (emit o 41)) else _)) = _
  rw [if_neg (by decide), if_pos h, if_pos h2]
theorem po_1n {W : WW} {f : Nat} {x : Int} {o : OB} (h : chd W (wa W x) (wp W x + 1) = -1) (h2 : ¬ wa W x = 48) : po W (f + 1) 1 x o = po W f 1 (wa W x) (emit o 41) := by
  show (if (1 : Int) = 0 then _ else (if chd W (wa W x) (wp W x + 1) = -1 then (if wa W x = 48 then some o else po W f 1 (wa W x) (emit o 41)) else _)) = _
  rw [if_neg (by decide), if_pos h, if_neg h2]
theorem po_mono {W : WW} : ∀ (f d : Nat) (m x : Int) (o r : OB), (m = 0 ∨ m = 1) → po W f m x o = some r → po W (f + d) m x o = some r
  | 0, d, m, x, o, r, _, h => by exact absurd h (by show ¬ (none : Option OB) = some r; exact fun z => nomatch z)
  | f + 1, d, m, x, o, r, hm, h => by
    rw [show f + 1 + d = (f + d) + 1 by omega]
    rcases hm with e | e <;> rw [e] at h ⊢
    · by_cases q : chd W x 0 = -1
      · rw [po_0n q] at h ⊢; exact po_mono f d 1 x o r (Or.inr rfl) h
      · rw [po_0y q] at h ⊢; exact po_mono f d 0 _ _ r (Or.inl rfl) h
    · by_cases q : chd W (wa W x) (wp W x + 1) = -1
      · by_cases q2 : wa W x = 48
        · rw [po_1e q q2] at h ⊢; exact h
        · rw [po_1n q q2] at h ⊢; exact po_mono f d 1 _ _ r (Or.inr rfl) h
      · rw [po_1y q] at h ⊢; exact po_mono f d 0 _ _ r (Or.inl rfl) h
/-- the chain up to the top; later siblings on it were not visited -/
def CH (W : WW) (D : Int → Int) : Nat → Int → Prop
  | 0, x => x = 48
  | d + 1, x => (0 ≤ x ∧ x < 48 ∧ wa W x ≠ -1) ∧ (∀ c, 0 ≤ c → c < 48 → wa W c = wa W x → wp W x < wp W c → D c = -1) ∧ CH W D d (wa W x)
theorem CH_uniq {W : WW} {D : Int → Int} : ∀ (d e : Nat) (x : Int), CH W D d x → CH W D e x → d = e
  | 0, 0, _, _, _ => rfl
  | 0, e + 1, x, h, h' => by have h : x = 48 := h; have := h'.1; omega
  | d + 1, 0, x, h, h' => by have h' : x = 48 := h'; have := h.1; omega
  | d + 1, e + 1, x, h, h' => by rw [CH_uniq d e _ h.2.2 h'.2.2]
theorem CH_upd {W : WW} {D : Int → Int} {x : Int} {e : Nat} (hx : CH W D (e + 1) x) : ∀ (d : Nat) (z : Int), d ≤ e → CH W D d z → CH W (up D x 0) d z
  | 0, _, _, h => h
  | d + 1, z, hd, h => by
    refine ⟨h.1, fun c c0 c1 e1 e2 => ?_, CH_upd hx d _ (by omega) h.2.2⟩
    by_cases q : c = x
    · rw [q] at e1
      have h3 := hx.2.2
      rw [e1] at h3
      have := CH_uniq _ _ _ h.2.2 h3
      omega
    · rw [up_n _ _ q]; exact h.2.1 c c0 c1 e1 e2
def clD (W : WW) (D : Int → Int) : Prop := ∀ c, 0 ≤ c → c < 48 → D c ≠ -1 → wa W c ≠ -1 ∧ (wa W c = 48 ∨ D (wa W c) ≠ -1)
/-- how many were visited -/
def vis (D : Int → Int) : Int := 48 - (cU D 48 : Int)
theorem vis_rng (D : Int → Int) : 0 ≤ vis D ∧ vis D ≤ 48 := by have := cU_le D 48; unfold vis; omega
theorem vis_up {D : Int → Int} {x : Int} (x0 : 0 ≤ x) (x1 : x < 48) (h : D x = -1) : vis (up D x 0) = vis D + 1 := by
  unfold vis
  rw [cU_up x0 h (by omega), if_pos (by omega)]
  omega
theorem vis_lt {D : Int → Int} {x : Int} (x0 : 0 ≤ x) (x1 : x < 48) (h : D x = -1) : vis D ≤ 47 := by
  have := vis_up x0 x1 h
  have := vis_rng (up D x 0)
  omega
/-- a node that may be entered -/
def EO (W : WW) (D : Int → Int) (e : Nat) (c : Int) : Prop := (0 ≤ c ∧ c < 48) ∧ D c = -1 ∧ clD W D ∧ (wa W c = 48 ∨ D (wa W c) ≠ -1) ∧ CH W D (e + 1) c ∧ (e : Int) ≤ vis D
/-- a node that was entered -/
def PI (W : WW) (D : Int → Int) (e : Nat) (x : Int) : Prop := (0 ≤ x ∧ x < 48) ∧ D x ≠ -1 ∧ clD W D ∧ CH W D (e + 1) x ∧ (e : Int) + 1 ≤ vis D
def frs (W : WW) (D : Int → Int) (x : Int) : Prop := ∀ z, 0 ≤ z → z < 48 → wa W z = x → D z = -1
theorem EO_PI {W : WW} {D : Int → Int} {e : Nat} {c : Int} (h : EO W D e c) : PI W (up D c 0) e c ∧ frs W (up D c 0) c := by
  obtain ⟨h1, h2, h3, h4, h5, h6⟩ := h
  have hne : wa W c ≠ c := fun z => by rw [z] at h4; rcases h4 with w | w; omega; exact w h2
  refine ⟨⟨h1, by rw [up_s]; omega, fun z z0 z1 hz => ?_, ⟨h5.1, fun z z0 z1 e1 e2 => ?_, CH_upd h5 e _ (Nat.le_refl _) h5.2.2⟩, by rw [vis_up h1.1 h1.2 h2]; omega⟩, fun z z0 z1 e1 => ?_⟩
  · by_cases q : z = c
    · rw [q]
      refine ⟨h5.1.2.2, ?_⟩
      rcases h4 with w | w
      · exact Or.inl w
      · exact Or.inr (by rw [up_n _ _ hne]; exact w)
    · rw [up_n _ _ q] at hz
      have := h3 z z0 z1 hz
      refine ⟨this.1, ?_⟩
      rcases this.2 with w | w
      · exact Or.inl w
      · right
        by_cases q2 : wa W z = c
        · rw [q2, up_s]; omega
        · rw [up_n _ _ q2]; exact w
  · have q : z ≠ c := fun w => by rw [w] at e2; omega
    rw [up_n _ _ q]
    exact h5.2.1 z z0 z1 e1 e2
  · have q : z ≠ c := fun w => by rw [w] at e1; exact hne e1
    rw [up_n _ _ q]
    by_cases w : D z = -1
    · exact w
    · have := (h3 z z0 z1 w).2
      rw [e1] at this
      rcases this with v | v
      · omega
      · exact absurd h2 v
theorem PI_child {W : WW} {D : Int → Int} {e : Nat} {x : Int} (h : PI W D e x) (hf : frs W D x) (hc : ¬ chd W x 0 = -1) : EO W D (e + 1) (chd W x 0) := by
  obtain ⟨h1, h2, h3, h4, h5⟩ := h
  obtain ⟨c0, c1, c2, c3⟩ := (chd_ok W x 0).resolve_left (fun z => hc z.1)
  refine ⟨⟨c0, c1⟩, hf _ c0 c1 c2, h3, Or.inr (by rw [c2]; exact h2), ⟨⟨c0, c1, by omega⟩, fun z z0 z1 e1 e2 => hf z z0 z1 (by rw [e1]; exact c2), by rw [c2]; exact h4⟩, by omega⟩
theorem PI_next {W : WW} {D : Int → Int} {e : Nat} {x : Int} (h : PI W D e x) (hc : ¬ chd W (wa W x) (wp W x + 1) = -1) : EO W D e (chd W (wa W x) (wp W x + 1)) := by
  obtain ⟨h1, h2, h3, h4, h5⟩ := h
  obtain ⟨c0, c1, c2, c3⟩ := (chd_ok W (wa W x) (wp W x + 1)).resolve_left (fun z => hc z.1)
  have hx := h3 x h1.1 h1.2 h2
  refine ⟨⟨c0, c1⟩, h4.2.1 _ c0 c1 c2 (by omega), h3, by rw [c2]; exact hx.2, ⟨⟨c0, c1, by rw [c2]; exact hx.1⟩, fun z z0 z1 e1 e2 => h4.2.1 z z0 z1 (by rw [e1]; exact c2) (by omega), by rw [c2]; exact h4.2.2⟩, by omega⟩
theorem PI_up {W : WW} {D : Int → Int} {e : Nat} {x : Int} (h : PI W D e x) (hu : ¬ wa W x = 48) : ∃ e', e = e' + 1 ∧ PI W D e' (wa W x) := by
  obtain ⟨h1, h2, h3, h4, h5⟩ := h
  have hx := h3 x h1.1 h1.2 h2
  have hc := h4.2.2
  cases e with
  | zero => exact absurd hc hu
  | succ e => exact ⟨e, rfl, ⟨hc.1.1, hc.1.2.1⟩, hx.2.resolve_left hu, h3, hc, by omega⟩
/-- it ends -/
theorem po_half {W : WW} {n : Nat} (enter : ∀ (D : Int → Int) (e : Nat) (c : Int) (o : OB), cU D 48 ≤ n → EO W D e c → ∃ f r, po W f 0 c o = some r) : (∀ (D : Int → Int) (e : Nat) (x : Int) (o : OB), cU D 48 ≤ n → PI W D e x → ∃ f r, po W f 1 x o = some r) ∧ (∀ (D : Int → Int) (e : Nat) (x : Int) (o : OB), cU D 48 ≤ n → PI W D e x → frs W D x → ∃ f r, po W f 0 x o = some r) := by
  have one : ∀ (e : Nat) (D : Int → Int) (x : Int) (o : OB), cU D 48 ≤ n → PI W D e x → ∃ f r, po W f 1 x o = some r := by
    intro e
    induction e with
    | zero =>
      intro D x o hn hP
      by_cases q : chd W (wa W x) (wp W x + 1) = -1
      · by_cases q2 : wa W x = 48
        · exact ⟨1, o, po_1e q q2⟩
        · obtain ⟨e', h, _⟩ := PI_up hP q2
          omega
      · obtain ⟨f, r, h⟩ := enter D 0 _ (con W (chd W (wa W x) (wp W x + 1)) (emit o 32)) hn (PI_next hP q)
        exact ⟨f + 1, r, by rw [po_1y q]; exact h⟩
    | succ e ih =>
      intro D x o hn hP
      by_cases q : chd W (wa W x) (wp W x + 1) = -1
      · by_cases q2 : wa W x = 48
        · exact ⟨1, o, po_1e q q2⟩
        · obtain ⟨e', h, hp⟩ := PI_up hP q2
          have he : e' = e := by omega
          rw [he] at hp
          obtain ⟨f, r, h⟩ := ih D _ (emit o 41) hn hp
          exact ⟨f + 1, r, by rw [po_1n q q2]; exact h⟩
      · obtain ⟨f, r, h⟩ := enter D (e + 1) _ (con W (chd W (wa W x) (wp W x + 1)) (emit o 32)) hn (PI_next hP q)
        exact ⟨f + 1, r, by rw [po_1y q]; exact h⟩
  refine ⟨fun D e x o hn hP => one e D x o hn hP, fun D e x o hn hP hf => ?_⟩
  by_cases q : chd W x 0 = -1
  · obtain ⟨f, r, h⟩ := one e D x o hn hP
    exact ⟨f + 1, r, by rw [po_0n q]; exact h⟩
  · obtain ⟨f, r, h⟩ := enter D (e + 1) _ (con W (chd W x 0) (emit o 40)) hn (PI_child hP hf q)
    exact ⟨f + 1, r, by rw [po_0y q]; exact h⟩
theorem po_end {W : WW} (n : Nat) : (∀ (D : Int → Int) (e : Nat) (x : Int) (o : OB), cU D 48 ≤ n → PI W D e x → ∃ f r, po W f 1 x o = some r) ∧ (∀ (D : Int → Int) (e : Nat) (x : Int) (o : OB), cU D 48 ≤ n → PI W D e x → frs W D x → ∃ f r, po W f 0 x o = some r) := by
  induction n with
  | zero =>
    refine po_half (fun D e c o hn hE => ?_)
    have hl := vis_lt hE.1.1 hE.1.2 hE.2.1
    unfold vis at hl
    omega
  | succ n ih =>
    refine po_half (fun D e c o hn hE => ?_)
    have hp := EO_PI hE
    have hv := vis_up hE.1.1 hE.1.2 hE.2.1
    unfold vis at hv
    exact ih.2 _ e c o (by omega) hp.1 hp.2
def D0 : Int → Int := fun _ => -1
def o0 : OB := (fun _ => 0, 0)
theorem D0_vis : vis D0 = 0 := by
  have : ∀ n : Nat, cU D0 n = n := by
    intro n
    induction n with
    | zero => rfl
    | succ n ih => unfold cU; rw [ih]; exact congrArg (n + ·) (if_pos rfl)
  unfold vis
  rw [this]
  omega
theorem EO_0 {W : WW} (h : ¬ chd W 48 0 = -1) : EO W D0 0 (chd W 48 0) := by
  obtain ⟨c0, c1, c2, c3⟩ := (chd_ok W 48 0).resolve_left (fun z => h z.1)
  exact ⟨⟨c0, c1⟩, rfl, fun c _ _ z => absurd rfl z, Or.inl c2, ⟨⟨c0, c1, by omega⟩, fun z _ _ _ _ => rfl, c2⟩, by rw [D0_vis]; omega⟩
/-- what is printed -/
noncomputable def outO (W : WW) : OB := @ite OB (chd W 48 0 = -1) (Classical.propDecidable _) o0 (Classical.epsilon (fun r => ∃ f, po W f 0 (chd W 48 0) (con W (chd W 48 0) o0) = some r))
theorem outO_0 {W : WW} (h : chd W 48 0 = -1) : outO W = o0 := if_pos h
theorem outO_1 {W : WW} (h : ¬ chd W 48 0 = -1) : ∃ f, po W f 0 (chd W 48 0) (con W (chd W 48 0) o0) = some (outO W) := by
  have e : outO W = Classical.epsilon (fun r => ∃ f, po W f 0 (chd W 48 0) (con W (chd W 48 0) o0) = some r) := if_neg h
  rw [e]
  have hE := EO_PI (EO_0 h)
  obtain ⟨f, r, hr⟩ := (po_end (W := W) 48).2 _ 0 (chd W 48 0) (con W (chd W 48 0) o0) (cU_le _ _) hE.1 hE.2
  exact Classical.epsilon_spec (p := fun r => ∃ f, po W f 0 (chd W 48 0) (con W (chd W 48 0) o0) = some r) ⟨r, f, hr⟩
def OM (S : QMem) (o fb fl : Nat) (b : OB) : Prop := S.1 o fl 0 = b.2 ∧ ∀ i, 0 ≤ i → i < b.2 → S.1 o fb i = b.1 i
theorem OM_kp {P : Nat → Nat → Prop} {S S' : QMem} {o fb fl : Nat} {b : OB} (hk : Kp P S S') (h1 : ¬ P o fb) (h2 : ¬ P o fl) (h : OM S o fb fl b) : OM S' o fb fl b := ⟨by rw [hk.at h2]; exact h.1, fun i i0 i1 => by rw [hk.at h1]; exact h.2 i i0 i1⟩
theorem OM_emit {S S1 S2 : QMem} {o fb fl : Nat} {b : OB} {c : Int} (hne : fb ≠ fl) (h0 : 0 ≤ b.2) (h : OM S o fb fl b) (e1 : S1 = q_st S o fb b.2 c) (e2 : S2 = q_st S1 o fl 0 (b.2 + 1)) : OM S2 o fb fl (emit b c) := by
  refine ⟨by rw [e2]; simp [q_st]; rfl, fun i i0 i1 => ?_⟩
  have i1 : i < b.2 + 1 := i1
  show S2.1 o fb i = up b.1 b.2 c i
  by_cases q : i = b.2
  · rw [q, up_s, e2, e1]; simp [q_st, hne]
  · rw [up_n _ _ q, e2, e1]; simp [q_st, hne, q]; exact h.2 i i0 (by omega)
/-! the class prints -/
abbrev Pou (ou : Nat) : Nat → Nat → Prop := fun o _ => o = ou
theorem s_Ou_put {Λ : QLay} {ou : Nat} {c : Int} {S : QMem} {Q : QMem → Prop} {b : OB} (h : OM S ou 0 1 b) (hb : 0 ≤ b.2 ∧ b.2 < 288) (hq : ∀ S', Kp (Pou ou) S S' → OM S' ou 0 1 (emit b c) → Q S') : w_Ou_put Λ ou c S Q := by
  unfold w_Ou_put
  rw [h.1]
  refine ⟨by unfold inR; omega, fun z => by omega, fun _ => ⟨by omega, ?_⟩⟩
  intro S1 e1 S2 e2
  have e : S1.1 ou 1 0 = b.2 := by rw [e1]; simp [q_st, h.1]
  rw [e] at e2
  exact hq S2 (by rw [e2, e1]; exact ((Kp.rf (P := Pou ou)).st rfl).st rfl) (OM_emit (by decide) hb.1 h e1 e2)
theorem s_Ou_putContent {Λ : QLay} {ou : Nat} {x : Int} {S : QMem} {Q : QMem → Prop} {W : WW} {b : OB} (h : OM S ou 0 1 b) (hb : 0 ≤ b.2 ∧ b.2 < 280) (hv : 0 ≤ wv W x ∧ wv W x ≤ 99) (hq : ∀ S', Kp (Pou ou) S S' → OM S' ou 0 1 (con W x b) → Q S') : w_Ou_putContent Λ ou (wl W x) (wv W x) S Q := by
  unfold w_Ou_putContent
  refine s_Ou_put h (by omega) (fun S1 hk1 h1 => ?_)
  have e1 : (emit b (97 + wl W x)).2 = b.2 + 1 := rfl
  have tail : ∀ S2 b2, Kp (Pou ou) S S2 → OM S2 ou 0 1 b2 → b2 = con2 W x (emit b (97 + wl W x)) → 0 ≤ b2.2 ∧ b2.2 < 285 → w_Ou_putContent_25 Λ Q ou (wv W x) S2 := fun S2 b2 hk2 h2 e2 hb2 => by
    unfold w_Ou_putContent_25
    refine ⟨by unfold inR; omega, fun z => hq S2 hk2 ?_, fun z => ⟨⟨hv.1, by unfold inR; omega⟩, ?_⟩⟩
    · unfold con con3; rw [if_neg (by omega), ← e2]; exact h2
    · refine s_Ou_put h2 (by omega) (fun S3 hk3 h3 => hq S3 (hk2.tr hk3) ?_)
      unfold con con3; rw [if_pos (by omega), ← e2]; exact h3
  refine ⟨by unfold inR; omega, fun z => ?_, fun z => ⟨⟨hv.1, by unfold inR; omega⟩, ?_⟩⟩
  · exact tail S1 _ hk1 h1 (by unfold con2; rw [if_neg (by omega)]) (by rw [e1]; omega)
  · refine s_Ou_put h1 (by rw [e1]; omega) (fun S2 hk2 h2 => tail S2 _ (hk1.tr hk2) h2 (by unfold con2; rw [if_pos (by omega)]) ?_)
    show 0 ≤ b.2 + 1 + 1 ∧ b.2 + 1 + 1 < 285
    omega
theorem s_Ou_close {Λ : QLay} {ou wt : Nat} {S : QMem} {Q : Int → QMem → Prop} {W : WW} {r : OB} (hne : wt ≠ ou) (hC : CW S wt W) (hw : wfW W) : ∀ (f n e : Nat) (x lv : Int) (D : Int → Int) (b : OB) (S1 : QMem), e + 1 < n → 0 ≤ lv → lv + e + 1 ≤ 48 → PI W D e x → (0 ≤ b.2 ∧ b.2 + e + 1 ≤ 5 * vis D) → po W f 1 x b = some r → Kp (Pou ou) S S1 → OM S1 ou 0 1 b →
    (∀ S2 c b2 f2 e2, Kp (Pou ou) S S2 → OM S2 ou 0 1 b2 → EO W D e2 c → (0 ≤ b2.2 ∧ b2.2 + e2 ≤ 5 * vis D) → po W f2 0 c (con W c b2) = some r → f2 < f → Q c S2) → (∀ S2, Kp (Pou ou) S S2 → OM S2 ou 0 1 r → Q (-1) S2) → w_Ou_closeUpToNext_5 Λ Q n ou wt x lv S1
  | 0, _, _, _, _, _, _, _, _, _, _, _, _, h, _, _, _, _ => nomatch h
  | f + 1, 0, _, _, _, _, _, _, hn, _, _, _, _, _, _, _, _, _ => by omega
  | f + 1, n + 1, e, x, lv, D, b, S1, hn, hl0, hl, hP, hb, hp, hk, hO, hq1, hq0 => by
    have hv := vis_rng D
    have C1 : CW S1 wt W := CW_kp hk (fun _ => hne) hC
    have hx := hP.1
    have hxp := (hP.2.2.1 x hx.1 hx.2 hP.2.1).1
    have hxr := (wfW_rng hw hx.1 hx.2).resolve_left hxp
    have cx := C1 x hx.1 hx.2
    rw [w_Ou_closeUpToNext_5]
    refine ⟨by unfold inR; omega, fun z => by omega, fun _ => ?_⟩
    refine s_Wt_has C1 hw (by unfold inR; omega) (fun _ _ _ => ⟨by unfold inR; omega, fun z => by omega, fun _ => ⟨by omega, by omega, ?_⟩⟩) (fun z => absurd ⟨hx.1, hx.2, hxp⟩ z)
    rw [cx.1, (cx.2 hxp).1]
    refine s_Wt_chd C1 hw hxr.1 hxr.2.1 (by unfold inR; omega) ?_
    have cr := chd_ok W (wa W x) (wp W x + 1)
    refine ⟨by unfold inR; omega, fun z => ⟨by omega, ?_⟩, fun z => ?_⟩
    · intro u hu
      rw [cx.1] at hu
      refine ⟨by unfold inR; omega, fun z2 => ?_, fun z2 => ?_⟩
      · rw [hu] at z2
        rw [po_1e z z2] at hp
        have er : b = r := Option.some.inj hp
        cases n with
        | zero => omega
        | succ n =>
          rw [w_Ou_closeUpToNext_5, hu]
          refine ⟨by unfold inR; omega, fun y => by omega, fun _ => ?_⟩
          exact s_Wt_has C1 hw (by unfold inR; omega) (fun _ y _ => by omega) (fun _ => ⟨by unfold inR; omega, fun _ => hq0 S1 hk (by rw [← er]; exact hO), fun y => absurd rfl y⟩)
      · rw [hu] at z2 ⊢
        obtain ⟨e', he, hP'⟩ := PI_up hP z2
        rw [po_1n z z2] at hp
        refine s_Ou_put hO (by omega) (fun S2 hk2 hO2 => ?_)
        refine s_Ou_close hne hC hw f n e' (wa W x) (lv + 1) D (emit b 41) S2 (by omega) (by omega) (by omega) hP' ?_ hp (hk.tr hk2) hO2 (fun S3 c b3 f3 e3 h1 h2 h3 h4 h5 h6 => hq1 S3 c b3 f3 e3 h1 h2 h3 h4 h5 (by omega)) hq0
        show 0 ≤ b.2 + 1 ∧ b.2 + 1 + e' + 1 ≤ 5 * vis D
        omega
    · have hE := PI_next hP z
      rw [po_1y z] at hp
      refine s_Ou_put hO (by omega) (fun S2 hk2 hO2 => hq1 S2 _ _ f e (hk.tr hk2) hO2 hE ?_ hp (by omega))
      show 0 ≤ b.2 + 1 ∧ b.2 + 1 + e ≤ 5 * vis D
      omega
theorem s_Ou_loop {Λ : QLay} {ou wt : Nat} {S : QMem} {Q : QMem → Prop} {W : WW} {r : OB} (hne : wt ≠ ou) (hC : CW S wt W) (hw : wfW W) (hg : rgW W) (hq : ∀ S', Kp (Pou ou) S S' → OM S' ou 0 1 r → Q S') : ∀ (F f n e : Nat) (c : Int) (D : Int → Int) (b : OB) (S1 : QMem), f ≤ F → 49 - vis D < n → EO W D e c → (0 ≤ b.2 ∧ b.2 + e ≤ 5 * vis D + 1) → po W f 0 c (con W c b) = some r → Kp (Pou ou) S S1 → OM S1 ou 0 1 b → w_Ou_write_15 Λ Q n ou wt c (vis D) S1
  | F, f, 0, _, _, D, _, _, _, hn, _, _, _, _, _ => by have := vis_rng D; omega
  | F, 0, n + 1, _, _, _, _, _, _, _, _, _, h, _, _ => nomatch h
  | 0, f + 1, n + 1, _, _, _, _, _, hF, _, _, _, _, _, _ => by omega
  | F + 1, f + 1, n + 1, e, c, D, b, S1, hF, hn, hE, hb, hp, hk, hO => by
    have hv := vis_rng D
    have hc := hE.1
    have hvl := vis_lt hc.1 hc.2 hE.2.1
    have hvu := vis_up hc.1 hc.2 hE.2.1
    have hcp : wa W c ≠ -1 := hE.2.2.2.2.1.1.2.2
    have hcg := hg c hc.1 hc.2 hcp
    have hPI := EO_PI hE
    have C1 : CW S1 wt W := CW_kp hk (fun _ => hne) hC
    have cc := (C1 c hc.1 hc.2).2 hcp
    have hr := con_rng W c b
    have he := hE.2.2.2.2.2
    rw [w_Ou_write_15]
    refine ⟨by unfold inR; omega, fun z => by omega, fun _ => ⟨by unfold inR; omega, fun z => by omega, fun _ => ⟨by omega, by omega, ?_⟩⟩⟩
    rw [cc.2.1, cc.2.2]
    refine s_Ou_putContent hO (by omega) hcg.2 (fun S2 hk2 hO2 => ?_)
    have K2 := hk.tr hk2
    have C2 : CW S2 wt W := CW_kp K2 (fun _ => hne) hC
    refine s_Wt_chd C2 hw hc.1 (by omega) (by unfold inR; omega) ?_
    have cr := chd_ok W c 0
    refine ⟨by unfold inR; omega, fun z => ?_, fun z => ?_⟩
    · have hE2 := PI_child hPI.1 hPI.2 z
      rw [po_0y z] at hp
      refine s_Ou_put hO2 (by omega) (fun S3 hk3 hO3 => ?_)
      have := s_Ou_loop (Λ := Λ) (Q := Q) hne hC hw hg hq F f n (e + 1) (chd W c 0) (up D c 0) (emit (con W c b) 40) S3 (by omega) (by omega) hE2 (by show 0 ≤ (con W c b).2 + 1 ∧ (con W c b).2 + 1 + ((e + 1 : Nat) : Int) ≤ 5 * vis (up D c 0) + 1; omega) hp (K2.tr hk3) hO3
      rw [hvu] at this
      exact this
    · rw [po_0n z] at hp
      unfold w_Ou_closeUpToNext
      refine ⟨50, s_Ou_close hne hC hw f 50 e c 0 (up D c 0) (con W c b) S2 (by omega) (by omega) (by omega) hPI.1 ⟨by omega, by omega⟩ hp K2 hO2 (fun S3 c3 b3 f3 e3 h1 h2 h3 h4 h5 h6 => ?_) (fun S3 h1 h2 => ?_)⟩
      · have := s_Ou_loop (Λ := Λ) (Q := Q) hne hC hw hg hq F f3 n e3 c3 (up D c 0) b3 S3 (by omega) (by omega) h3 ⟨h4.1, by omega⟩ h5 h1 h2
        rw [hvu] at this
        exact this
      · cases n with
        | zero => omega
        | succ n =>
          rw [w_Ou_write_15]
          exact ⟨by unfold inR; omega, fun _ => hq S3 h1 h2, fun _ => ⟨by unfold inR; omega, fun _ => hq S3 h1 h2, fun y => absurd rfl y⟩⟩
theorem s_Ou_write {Λ : QLay} {ou wt : Nat} {S : QMem} {Q : QMem → Prop} {W : WW} (hne : wt ≠ ou) (hC : CW S wt W) (hw : wfW W) (hg : rgW W) (hq : ∀ S', Kp (Pou ou) S S' → OM S' ou 0 1 (outO W) → Q S') : w_Ou_write Λ ou wt S Q := by
  unfold w_Ou_write
  intro S1 e1
  have k1 : Kp (Pou ou) S S1 := by rw [e1]; exact Kp.rf.st rfl
  have O1 : OM S1 ou 0 1 o0 := ⟨by rw [e1]; simp [q_st]; rfl, fun i a b => by have b : i < 0 := b; omega⟩
  refine s_Wt_chd (CW_kp k1 (fun _ => hne) hC) hw (by omega) (by omega) (by unfold inR; omega) ?_
  by_cases q : chd W 48 0 = -1
  · refine ⟨1, ?_⟩
    rw [w_Ou_write_15, q]
    have := hq S1 k1 (by rw [outO_0 q]; exact O1)
    exact ⟨by unfold inR; omega, fun _ => this, fun _ => ⟨by unfold inR; omega, fun _ => this, fun y => absurd rfl y⟩⟩
  · obtain ⟨f, hf⟩ := outO_1 q
    have h := s_Ou_loop (Λ := Λ) (Q := Q) (r := outO W) hne hC hw hg hq f f 50 0 (chd W 48 0) D0 o0 S1 (Nat.le_refl _) (by rw [D0_vis]; omega) (EO_0 q) (by rw [D0_vis]; show 0 ≤ (0 : Int) ∧ (0 : Int) + ((0 : Nat) : Int) ≤ 5 * 0 + 1; omega) hf k1 O1
    rw [D0_vis] at h
    exact ⟨50, h⟩
