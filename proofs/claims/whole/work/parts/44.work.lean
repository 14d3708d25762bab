/-! the tree on which scripts work -/
abbrev WW : Type := (Int → Int) × (Int → Int) × (Int → Int) × (Int → Int)
def wa (W : WW) : Int → Int := W.1
def wp (W : WW) : Int → Int := W.2.1
def wl (W : WW) : Int → Int := W.2.2.1
def wv (W : WW) : Int → Int := W.2.2.2
def coh (W : WW) (km : Int → Int) (kd : Int → Int → Int) : Prop :=
  (∀ x, 0 ≤ x → x < 48 → wa W x = -1 ∨ (0 ≤ wa W x ∧ wa W x ≤ 48 ∧ 0 ≤ wp W x ∧ wp W x < km (wa W x) ∧ kd (wa W x) (wp W x) = x)) ∧
  (∀ u i, 0 ≤ u → u ≤ 48 → 0 ≤ i → i < km u → 0 ≤ kd u i ∧ kd u i < 48 ∧ wa W (kd u i) = u ∧ wp W (kd u i) = i) ∧ ∀ u, 0 ≤ u → u ≤ 48 → 0 ≤ km u
def wfW (W : WW) : Prop := ∃ km kd, coh W km kd
def eqW (W W' : WW) : Prop := ∀ x, 0 ≤ x → x < 48 → wa W x = wa W' x ∧ (wa W x ≠ -1 → wp W x = wp W' x ∧ wl W x = wl W' x ∧ wv W x = wv W' x)
theorem eqW.rf {W : WW} : eqW W W := fun x _ _ => ⟨rfl, fun _ => ⟨rfl, rfl, rfl⟩⟩
theorem eqW.sy {W W' : WW} (h : eqW W W') : eqW W' W := fun x a b => ⟨(h x a b).1.symm, fun z => by
  have h1 := h x a b
  have h2 := h1.2 (by rw [h1.1]; exact z)
  exact ⟨h2.1.symm, h2.2.1.symm, h2.2.2.symm⟩⟩
theorem eqW.tr {W W1 W2 : WW} (h : eqW W W1) (h2 : eqW W1 W2) : eqW W W2 := fun x a b => by
  have e1 := h x a b
  have e2 := h2 x a b
  refine ⟨e1.1.trans e2.1, fun z => ?_⟩
  have f1 := e1.2 z
  have f2 := e2.2 (by rw [← e1.1]; exact z)
  exact ⟨f1.1.trans f2.1, f1.2.1.trans f2.2.1, f1.2.2.trans f2.2.2⟩
def putW (W : WW) (x u a : Int) : WW := (up (wa W) x u, fun z => if z = x then a else if wa W z = u ∧ a ≤ wp W z then wp W z + 1 else wp W z, wl W, wv W)
def outW (W : WW) (x : Int) : WW := (up (wa W) x (-1), fun z => if z ≠ x ∧ wa W z = wa W x ∧ wp W x < wp W z then wp W z - 1 else wp W z, wl W, wv W)
def valW (W : WW) (x v : Int) : WW := (wa W, wp W, wl W, up (wv W) x v)
def labW (W : WW) (x l v : Int) : WW := (wa W, wp W, up (wl W) x l, up (wv W) x v)
theorem put_a (W : WW) (x u a z : Int) : wa (putW W x u a) z = up (wa W) x u z := rfl
theorem put_p_s (W : WW) (x u a : Int) : wp (putW W x u a) x = a := if_pos rfl
theorem put_p_n (W : WW) {x u a z : Int} (h : z ≠ x) : wp (putW W x u a) z = if wa W z = u ∧ a ≤ wp W z then wp W z + 1 else wp W z := if_neg h
theorem out_p (W : WW) (x z : Int) : wp (outW W x) z = if z ≠ x ∧ wa W z = wa W x ∧ wp W x < wp W z then wp W z - 1 else wp W z := rfl
theorem coh_ext {W : WW} {km km' : Int → Int} {kd kd' : Int → Int → Int} (h : coh W km kd) (h1 : ∀ u, 0 ≤ u → u ≤ 48 → km' u = km u) (h2 : ∀ u i, 0 ≤ u → u ≤ 48 → 0 ≤ i → i < km u → kd' u i = kd u i) : coh W km' kd' := by
  obtain ⟨a, b, c⟩ := h
  refine ⟨fun x x0 x1 => ?_, fun u i u0 u1 i0 i1 => ?_, fun u u0 u1 => by rw [h1 u u0 u1]; exact c u u0 u1⟩
  · rcases a x x0 x1 with z | ⟨z1, z2, z3, z4, z5⟩
    · exact Or.inl z
    · exact Or.inr ⟨z1, z2, z3, by rw [h1 _ z1 z2]; exact z4, by rw [h2 _ _ z1 z2 z3 z4]; exact z5⟩
  · rw [h1 u u0 u1] at i1
    rw [h2 u i u0 u1 i0 i1]
    exact b u i u0 u1 i0 i1
theorem coh_eq {W W' : WW} {km : Int → Int} {kd : Int → Int → Int} (h : coh W km kd) (he : eqW W W') : coh W' km kd := by
  obtain ⟨a, b, c⟩ := h
  refine ⟨fun x x0 x1 => ?_, fun u i u0 u1 i0 i1 => ?_, c⟩
  · have e := he x x0 x1
    rcases a x x0 x1 with z | z
    · exact Or.inl (by rw [← e.1]; exact z)
    · have e2 := e.2 (by omega)
      rw [← e.1, ← e2.1]
      exact Or.inr z
  · obtain ⟨z1, z2, z3, z4⟩ := b u i u0 u1 i0 i1
    have e := he _ z1 z2
    have e2 := e.2 (by omega)
    rw [← e.1, ← e2.1]
    exact ⟨z1, z2, z3, z4⟩
theorem km_le {W : WW} {km : Int → Int} {kd : Int → Int → Int} (h : coh W km kd) {u : Int} (u0 : 0 ≤ u) (u1 : u ≤ 48) : km u ≤ 48 := by
  by_cases q : km u ≤ 48
  · exact q
  · exfalso
    have hb := h.2.1
    obtain ⟨i, i0, i1⟩ := pigeon 48 (fun i => (kd u (i : Int)).toNat) (fun i hi => by have := hb u i u0 u1 (by omega) (by omega); show (kd u (i : Int)).toNat < 48; omega) (fun i j hi hj he => by
      have e1 := hb u i u0 u1 (by omega) (by omega)
      have e2 := hb u j u0 u1 (by omega) (by omega)
      have e3 : kd u (i : Int) = kd u (j : Int) := by have he : (kd u (i : Int)).toNat = (kd u (j : Int)).toNat := he; omega
      rw [e3] at e1
      omega) (kd u 48).toNat (by have := hb u 48 u0 u1 (by omega) (by omega); omega)
    have e1 := hb u i u0 u1 (by omega) (by omega)
    have e2 := hb u 48 u0 u1 (by omega) (by omega)
    have i1 : (kd u (i : Int)).toNat = (kd u 48).toNat := i1
    have e3 : kd u (i : Int) = kd u 48 := by omega
    rw [e3] at e1
    omega
theorem km_lt {W : WW} {km : Int → Int} {kd : Int → Int → Int} (h : coh W km kd) {u x : Int} (u0 : 0 ≤ u) (u1 : u ≤ 48) (x0 : 0 ≤ x) (x1 : x < 48) (hx : wa W x = -1) : km u ≤ 47 := by
  have hk := km_le h u0 u1
  by_cases q : km u ≤ 47
  · exact q
  · exfalso
    have hb := h.2.1
    obtain ⟨i, i0, i1⟩ := pigeon 48 (fun i => (kd u (i : Int)).toNat) (fun i hi => by have := hb u i u0 u1 (by omega) (by omega); show (kd u (i : Int)).toNat < 48; omega) (fun i j hi hj he => by
      have e1 := hb u i u0 u1 (by omega) (by omega)
      have e2 := hb u j u0 u1 (by omega) (by omega)
      have e3 : kd u (i : Int) = kd u (j : Int) := by have he : (kd u (i : Int)).toNat = (kd u (j : Int)).toNat := he; omega
      rw [e3] at e1
      omega) x.toNat (by omega)
    have e1 := hb u i u0 u1 (by omega) (by omega)
    have i1 : (kd u (i : Int)).toNat = x.toNat := i1
    have e3 : kd u (i : Int) = x := by omega
    rw [e3] at e1
    omega
theorem coh_put {W : WW} {km : Int → Int} {kd : Int → Int → Int} {x u a : Int} (h : coh W km kd) (x0 : 0 ≤ x) (x1 : x < 48) (hx : wa W x = -1) (u0 : 0 ≤ u) (u1 : u ≤ 48) (a0 : 0 ≤ a) (a1 : a ≤ km u) :
    coh (putW W x u a) (up km u (km u + 1)) (fun w i => if w = u then (if i < a then kd u i else if i = a then x else kd u (i - 1)) else kd w i) := by
  obtain ⟨ha, hb, hc⟩ := h
  refine ⟨fun z z0 z1 => ?_, fun w i w0 w1 i0 i1 => ?_, fun w w0 w1 => ?_⟩
  · show up (wa W) x u z = -1 ∨ (0 ≤ up (wa W) x u z ∧ up (wa W) x u z ≤ 48 ∧ 0 ≤ wp (putW W x u a) z ∧ wp (putW W x u a) z < up km u (km u + 1) (up (wa W) x u z) ∧ (if up (wa W) x u z = u then (if wp (putW W x u a) z < a then kd u (wp (putW W x u a) z) else if wp (putW W x u a) z = a then x else kd u (wp (putW W x u a) z - 1)) else kd (up (wa W) x u z) (wp (putW W x u a) z)) = z)
    by_cases q : z = x
    · rw [q, put_p_s, up_s, up_s, if_pos rfl, if_neg (by omega), if_pos rfl]
      right
      exact ⟨u0, u1, a0, by omega, rfl⟩
    · rw [put_p_n W q, up_n _ _ q]
      rcases ha z z0 z1 with e | ⟨e1, e2, e3, e4, e5⟩
      · exact Or.inl e
      · right
        by_cases q2 : wa W z = u
        · rw [q2, up_s]
          rw [q2] at e4 e5
          by_cases q3 : a ≤ wp W z
          · rw [if_pos ⟨rfl, q3⟩, if_pos rfl, if_neg (by omega), if_neg (by omega), show wp W z + 1 - 1 = wp W z by omega]
            exact ⟨u0, u1, by omega, by omega, e5⟩
          · rw [if_neg (fun y => q3 y.2), if_pos rfl, if_pos (by omega)]
            exact ⟨u0, u1, by omega, by omega, e5⟩
        · rw [up_n _ _ q2, if_neg (fun y => q2 y.1), if_neg q2]
          exact ⟨e1, e2, e3, e4, e5⟩
  · show 0 ≤ (if w = u then (if i < a then kd u i else if i = a then x else kd u (i - 1)) else kd w i) ∧ (if w = u then (if i < a then kd u i else if i = a then x else kd u (i - 1)) else kd w i) < 48 ∧ wa (putW W x u a) (if w = u then (if i < a then kd u i else if i = a then x else kd u (i - 1)) else kd w i) = w ∧ wp (putW W x u a) (if w = u then (if i < a then kd u i else if i = a then x else kd u (i - 1)) else kd w i) = i
    by_cases q : w = u
    · rw [if_pos q]
      rw [q, up_s] at i1
      by_cases q2 : i < a
      · rw [if_pos q2]
        obtain ⟨e1, e2, e3, e4⟩ := hb u i u0 u1 i0 (by omega)
        have n : kd u i ≠ x := fun y => by rw [y] at e3; omega
        rw [put_a, put_p_n W n, up_n _ _ n, if_neg (by omega)]
        exact ⟨e1, e2, by omega, e4⟩
      · rw [if_neg q2]
        by_cases q3 : i = a
        · rw [if_pos q3, put_a, put_p_s, up_s]
          exact ⟨x0, x1, q.symm, q3.symm⟩
        · rw [if_neg q3]
          obtain ⟨e1, e2, e3, e4⟩ := hb u (i - 1) u0 u1 (by omega) (by omega)
          have n : kd u (i - 1) ≠ x := fun y => by rw [y] at e3; omega
          rw [put_a, put_p_n W n, up_n _ _ n, if_pos (by omega)]
          exact ⟨e1, e2, by omega, by omega⟩
    · rw [if_neg q]
      rw [up_n _ _ q] at i1
      obtain ⟨e1, e2, e3, e4⟩ := hb w i w0 w1 i0 i1
      have n : kd w i ≠ x := fun y => by rw [y] at e3; omega
      rw [put_a, put_p_n W n, up_n _ _ n, if_neg (by omega)]
      exact ⟨e1, e2, e3, e4⟩
  · by_cases q : w = u
    · rw [q, up_s]; have := hc u u0 u1; omega
    · rw [up_n _ _ q]; exact hc w w0 w1
theorem coh_out {W : WW} {km : Int → Int} {kd : Int → Int → Int} {x : Int} (h : coh W km kd) (x0 : 0 ≤ x) (x1 : x < 48) (hx : wa W x ≠ -1) :
    coh (outW W x) (up km (wa W x) (km (wa W x) - 1)) (fun w i => if w = wa W x then (if i < wp W x then kd w i else kd w (i + 1)) else kd w i) := by
  obtain ⟨ha, hb, hc⟩ := h
  have hxx := (ha x x0 x1).resolve_left hx
  refine ⟨fun z z0 z1 => ?_, fun w i w0 w1 i0 i1 => ?_, fun w w0 w1 => ?_⟩
  · show up (wa W) x (-1) z = -1 ∨ (0 ≤ up (wa W) x (-1) z ∧ up (wa W) x (-1) z ≤ 48 ∧ 0 ≤ wp (outW W x) z ∧ wp (outW W x) z < up km (wa W x) (km (wa W x) - 1) (up (wa W) x (-1) z) ∧ (if up (wa W) x (-1) z = wa W x then (if wp (outW W x) z < wp W x then kd (up (wa W) x (-1) z) (wp (outW W x) z) else kd (up (wa W) x (-1) z) (wp (outW W x) z + 1)) else kd (up (wa W) x (-1) z) (wp (outW W x) z)) = z)
    by_cases q : z = x
    · left; rw [q, up_s]
    · rw [up_n _ _ q, out_p]
      rcases ha z z0 z1 with e | ⟨e1, e2, e3, e4, e5⟩
      · exact Or.inl e
      · right
        by_cases q2 : wa W z = wa W x
        · rw [if_pos q2, q2, up_s]
          rw [q2] at e4 e5
          have hne : wp W z ≠ wp W x := fun y => by
            rw [y] at e5
            have := hxx.2.2.2.2
            omega
          by_cases q3 : wp W x < wp W z
          · rw [if_pos ⟨q, rfl, q3⟩, if_neg (by omega), show wp W z - 1 + 1 = wp W z by omega]
            exact ⟨by omega, by omega, by omega, by omega, e5⟩
          · rw [if_neg (fun y => q3 y.2.2), if_pos (by omega)]
            exact ⟨by omega, by omega, by omega, by omega, e5⟩
        · rw [if_neg q2, up_n _ _ q2, if_neg (fun y => q2 y.2.1)]
          exact ⟨e1, e2, e3, e4, e5⟩
  · show 0 ≤ (if w = wa W x then (if i < wp W x then kd w i else kd w (i + 1)) else kd w i) ∧ (if w = wa W x then (if i < wp W x then kd w i else kd w (i + 1)) else kd w i) < 48 ∧ wa (outW W x) (if w = wa W x then (if i < wp W x then kd w i else kd w (i + 1)) else kd w i) = w ∧ wp (outW W x) (if w = wa W x then (if i < wp W x then kd w i else kd w (i + 1)) else kd w i) = i
    have oa : ∀ z, wa (outW W x) z = up (wa W) x (-1) z := fun _ => rfl
    by_cases q : w = wa W x
    · rw [if_pos q]
      rw [q, up_s] at i1
      rw [q]
      by_cases q2 : i < wp W x
      · rw [if_pos q2]
        obtain ⟨e1, e2, e3, e4⟩ := hb (wa W x) i (by omega) (by omega) i0 (by omega)
        have n : kd (wa W x) i ≠ x := fun y => by rw [y] at e4; omega
        rw [oa, out_p, up_n _ _ n, if_neg (by omega)]
        exact ⟨e1, e2, e3, e4⟩
      · rw [if_neg q2]
        obtain ⟨e1, e2, e3, e4⟩ := hb (wa W x) (i + 1) (by omega) (by omega) (by omega) (by omega)
        have n : kd (wa W x) (i + 1) ≠ x := fun y => by rw [y] at e4; omega
        rw [oa, out_p, up_n _ _ n, if_pos ⟨n, e3, by omega⟩]
        exact ⟨e1, e2, e3, by omega⟩
    · rw [if_neg q]
      rw [up_n _ _ q] at i1
      obtain ⟨e1, e2, e3, e4⟩ := hb w i w0 w1 i0 i1
      have n : kd w i ≠ x := fun y => by rw [y] at e3; exact q e3.symm
      rw [oa, out_p, up_n _ _ n, if_neg (fun y => by have := y.2.1; omega)]
      exact ⟨e1, e2, e3, e4⟩
  · by_cases q : w = wa W x
    · rw [q, up_s]; omega
    · rw [up_n _ _ q]; exact hc w w0 w1
theorem wfW_rng {W : WW} (h : wfW W) {x : Int} (x0 : 0 ≤ x) (x1 : x < 48) : wa W x = -1 ∨ (0 ≤ wa W x ∧ wa W x ≤ 48 ∧ 0 ≤ wp W x ∧ wp W x ≤ 47) := by
  obtain ⟨km, kd, hc⟩ := h
  rcases hc.1 x x0 x1 with z | z
  · exact Or.inl z
  · have := km_le hc z.1 z.2.1
    exact Or.inr (by omega)
theorem wfW_inj {W : WW} (h : wfW W) {x y : Int} (x0 : 0 ≤ x) (x1 : x < 48) (y0 : 0 ≤ y) (y1 : y < 48) (hx : wa W x ≠ -1) (ha : wa W x = wa W y) (hp : wp W x = wp W y) : x = y := by
  obtain ⟨km, kd, hc⟩ := h
  have e1 := ((hc.1 x x0 x1).resolve_left hx).2.2.2.2
  have e2 := ((hc.1 y y0 y1).resolve_left (by rw [← ha]; exact hx)).2.2.2.2
  rw [← e1, ← e2, ha, hp]
/-- so many children, at least, that a node may come to place a -/
def okA (W : WW) (x u a : Int) : Prop := 0 ≤ a ∧ (a = 0 ∨ ∃ z, 0 ≤ z ∧ z < 48 ∧ z ≠ x ∧ wa W z = u ∧ wp W z = a - 1)
theorem okA_km {W : WW} {km : Int → Int} {kd : Int → Int → Int} (h : coh W km kd) {x u a : Int} (u0 : 0 ≤ u) (u1 : u ≤ 48) (ho : okA W x u a) : a ≤ km u := by
  rcases ho.2 with z | ⟨z, z0, z1, _, z2, z3⟩
  · have := h.2.2 u u0 u1; omega
  · have := (h.1 z z0 z1).resolve_left (by omega)
    rw [z2] at this
    omega
theorem wfW_put {W : WW} (h : wfW W) {x u a : Int} (x0 : 0 ≤ x) (x1 : x < 48) (hx : wa W x = -1) (u0 : 0 ≤ u) (u1 : u ≤ 48) (ho : okA W x u a) : wfW (putW W x u a) := by
  obtain ⟨km, kd, hc⟩ := h
  exact ⟨_, _, coh_put hc x0 x1 hx u0 u1 ho.1 (okA_km hc u0 u1 ho)⟩
theorem wfW_out {W : WW} (h : wfW W) {x : Int} (x0 : 0 ≤ x) (x1 : x < 48) (hx : wa W x ≠ -1) : wfW (outW W x) := by
  obtain ⟨km, kd, hc⟩ := h
  exact ⟨_, _, coh_out hc x0 x1 hx⟩
/-! the class's working tree -/
def CW (S : QMem) (wt : Nat) (W : WW) : Prop := ∀ x, 0 ≤ x → x < 48 → S.1 wt 2 x = wa W x ∧ (wa W x ≠ -1 → S.1 wt 3 x = wp W x ∧ S.1 wt 0 x = wl W x ∧ S.1 wt 1 x = wv W x)
theorem CW_eq {S : QMem} {wt : Nat} {W W' : WW} (h : CW S wt W) (he : eqW W W') : CW S wt W' := fun x x0 x1 => by
  have h1 := h x x0 x1
  have h2 := he x x0 x1
  refine ⟨by rw [← h2.1]; exact h1.1, fun z => ?_⟩
  have z' : wa W x ≠ -1 := by rw [h2.1]; exact z
  have h3 := h2.2 z'
  rw [← h3.1, ← h3.2.1, ← h3.2.2]
  exact h1.2 z'
theorem CW_kp {P : Nat → Nat → Prop} {S S' : QMem} {wt : Nat} {W : WW} (hk : Kp P S S') (hn : ∀ f, ¬ P wt f) (h : CW S wt W) : CW S' wt W := fun x x0 x1 => by
  rw [hk.at (hn 0), hk.at (hn 1), hk.at (hn 2), hk.at (hn 3)]
  exact h x x0 x1
abbrev Pw2 (wt : Nat) : Nat → Nat → Prop := fun o f => o = wt ∧ (f = 2 ∨ f = 3)
abbrev Pwt (wt : Nat) : Nat → Nat → Prop := fun o _ => o = wt
theorem s_Wt_has {Λ : QLay} {wt : Nat} {x : Int} {S : QMem} {Q : Int → QMem → Prop} {W : WW} (hC : CW S wt W) (hw : wfW W) (hx : inR x) (h1 : 0 ≤ x → x < 48 → wa W x ≠ -1 → Q 1 S) (h0 : ¬ (0 ≤ x ∧ x < 48 ∧ wa W x ≠ -1) → Q 0 S) : w_Wt_has Λ wt x S Q := by
  unfold w_Wt_has
  refine ⟨hx, fun z => h0 (by omega), fun z => ⟨hx, fun z2 => h0 (by omega), fun z2 => ⟨by omega, ?_⟩⟩⟩
  rw [(hC x (by omega) (by omega)).1]
  have := wfW_rng hw (x := x) (by omega) (by omega)
  exact ⟨by unfold inR; omega, fun z3 => h0 (by omega), fun z3 => h1 (by omega) (by omega) z3⟩
theorem s_Wt_childAt {Λ : QLay} {wt : Nat} {u a : Int} {S : QMem} {Q : Int → QMem → Prop} {W : WW} (hC : CW S wt W) (hw : wfW W) (u0 : 0 ≤ u) (u1 : u ≤ 48) (ha : inR a) (h1 : ∀ x, 0 ≤ x → x < 48 → wa W x = u → wp W x = a → Q x S) (h0 : (∀ x, 0 ≤ x → x < 48 → wa W x = u → wp W x ≠ a) → Q (-1) S) : w_Wt_childAt Λ wt u a S Q := by
  unfold w_Wt_childAt
  have key : ∀ (f : Nat) (i : Int), 0 ≤ i → i + f = 48 → (∀ x, 0 ≤ x → x < i → wa W x = u → wp W x ≠ a) → w_Wt_childAt_2 Λ Q (f + 1) wt u a i S := by
    intro f
    induction f with
    | zero =>
      intro i i0 hi hn
      rw [w_Wt_childAt_2]
      exact ⟨by unfold inR; omega, fun _ => h0 (fun x x0 x1 => hn x x0 (by omega)), fun z => by omega⟩
    | succ f ih =>
      intro i i0 hi hn
      rw [w_Wt_childAt_2, (hC i i0 (by omega)).1]
      have hr := wfW_rng hw (x := i) i0 (by omega)
      refine ⟨by unfold inR; omega, fun z => by omega, fun _ => ⟨by omega, by unfold inR; omega, by unfold inR; omega, fun z => ih (i + 1) (by omega) (by omega) (fun x x0 x1 e => ?_), fun z => ⟨by omega, ?_⟩⟩⟩
      · by_cases q : x = i
        · rw [q] at e; exact absurd e z
        · exact hn x x0 (by omega) e
      · rw [((hC i i0 (by omega)).2 (by omega)).1]
        refine ⟨by unfold inR; omega, ha, fun z2 => ih (i + 1) (by omega) (by omega) (fun x x0 x1 e => ?_), fun z2 => h1 i i0 (by omega) z z2⟩
        by_cases q : x = i
        · rw [q]; exact z2
        · exact hn x x0 (by omega) e
  exact ⟨_, key 48 0 (by omega) (by omega) (fun x a b => by omega)⟩
theorem s_Wt_putIn {Λ : QLay} {wt : Nat} {x u a : Int} {S : QMem} {Q : QMem → Prop} {W : WW} (hC : CW S wt W) (hw : wfW W) (x0 : 0 ≤ x) (x1 : x < 48) (hx : wa W x = -1) (u0 : 0 ≤ u) (u1 : u ≤ 48) (ha : 0 ≤ a ∧ a ≤ 100) (hlv : S.1 wt 0 x = wl W x ∧ S.1 wt 1 x = wv W x)
    (hq : ∀ S', Kp (Pw2 wt) S S' → CW S' wt (putW W x u a) → Q S') : w_Wt_putIn Λ wt x u a S Q := by
  unfold w_Wt_putIn
  have key : ∀ (f : Nat) (i : Int) (S1 : QMem), 0 ≤ i → i + f = 48 → Kp (fun o f => o = wt ∧ f = 3) S S1 → (∀ z, 0 ≤ z → z < 48 → wa W z ≠ -1 → S1.1 wt 3 z = if z < i ∧ wa W z = u ∧ a ≤ wp W z then wp W z + 1 else wp W z) → w_Wt_putIn_3 Λ Q (f + 1) wt x u a i S1 := by
    intro f
    induction f with
    | zero =>
      intro i S1 i0 hi hk hp
      rw [w_Wt_putIn_3]
      refine ⟨by unfold inR; omega, fun _ => ⟨by omega, ?_⟩, fun z => by omega⟩
      intro S2 e2
      refine ⟨by omega, ?_⟩
      intro S3 e3
      refine hq S3 ?_ (fun z z0 z1 => ?_)
      · rw [e3, e2]; exact ((hk.mono (fun o f y => ⟨y.1, Or.inr y.2⟩)).st ⟨rfl, Or.inl rfl⟩).st ⟨rfl, Or.inr rfl⟩
      · rw [e3, e2]
        by_cases q : z = x
        · rw [q, put_a, up_s, put_p_s]
          refine ⟨by simp [q_st], fun _ => ⟨by simp [q_st], ?_, ?_⟩⟩
          · show _ = wl W x
            rw [← hlv.1, ← hk.at (o := wt) (f := 0) (i := x) (by simp)]
            simp [q_st]
          · show _ = wv W x
            rw [← hlv.2, ← hk.at (o := wt) (f := 1) (i := x) (by simp)]
            simp [q_st]
        · have h1 := hC z z0 z1
          rw [put_a, up_n _ _ q, put_p_n W q]
          have h2 := hk.at (o := wt) (f := 2) (i := z) (by simp)
          refine ⟨by simp [q_st, q, h2, h1.1], fun y => ?_⟩
          have h3 := h1.2 y
          have h4 := hp z z0 z1 y
          refine ⟨?_, ?_, ?_⟩
          · have e : q_st (q_st S1 wt 2 x u) wt 3 x a = q_st (q_st S1 wt 2 x u) wt 3 x a := rfl
            have h5 : (q_st (q_st S1 wt 2 x u) wt 3 x a).1 wt 3 z = S1.1 wt 3 z := by simp [q_st, q]
            rw [h5, h4]
            by_cases q2 : wa W z = u ∧ a ≤ wp W z
            · rw [if_pos q2, if_pos ⟨by omega, q2⟩]
            · rw [if_neg q2, if_neg (fun y => q2 y.2)]
          · show _ = wl W z
            rw [← h3.2.1, ← hk.at (o := wt) (f := 0) (i := z) (by simp)]
            simp [q_st]
          · show _ = wv W z
            rw [← h3.2.2, ← hk.at (o := wt) (f := 1) (i := z) (by simp)]
            simp [q_st]
    | succ f ih =>
      intro i S1 i0 hi hk hp
      have h2 : S1.1 wt 2 i = wa W i := by rw [hk.at (by simp)]; exact (hC i i0 (by omega)).1
      rw [w_Wt_putIn_3, h2]
      have hr := wfW_rng hw (x := i) i0 (by omega)
      have same : ¬ (wa W i = u ∧ a ≤ wp W i) → ∀ z, 0 ≤ z → z < 48 → wa W z ≠ -1 → S1.1 wt 3 z = if z < i + 1 ∧ wa W z = u ∧ a ≤ wp W z then wp W z + 1 else wp W z := fun hn z z0 z1 y => by
        rw [hp z z0 z1 y]
        by_cases q : z = i
        · rw [q, if_neg (fun w => by omega), if_neg (fun w => hn w.2)]
        · by_cases q2 : z < i ∧ wa W z = u ∧ a ≤ wp W z
          · rw [if_pos q2, if_pos ⟨by omega, q2.2⟩]
          · rw [if_neg q2, if_neg (fun w => q2 ⟨by omega, w.2⟩)]
      refine ⟨by unfold inR; omega, fun z => by omega, fun _ => ⟨by omega, by unfold inR; omega, by unfold inR; omega, fun z => ih (i + 1) S1 (by omega) (by omega) hk (same (fun y => z y.1)), fun z => ⟨by omega, ?_⟩⟩⟩
      have h3 : S1.1 wt 3 i = wp W i := by rw [hp i i0 (by omega) (by omega), if_neg (by omega)]
      rw [h3]
      refine ⟨by unfold inR; omega, by unfold inR; omega, fun z2 => ih (i + 1) S1 (by omega) (by omega) hk (same (by omega)), fun z2 => ⟨by omega, by omega, ?_⟩⟩
      intro S2 e2
      refine ih (i + 1) S2 (by omega) (by omega) (by rw [e2]; exact hk.st ⟨rfl, rfl⟩) (fun w w0 w1 y => ?_)
      by_cases q : w = i
      · rw [e2, q, if_pos ⟨by omega, z, by omega⟩]; simp [q_st]
      · have h4 := hp w w0 w1 y
        have h5 : S2.1 wt 3 w = S1.1 wt 3 w := by rw [e2]; simp [q_st, q]
        rw [h5, h4]
        by_cases q2 : w < i ∧ wa W w = u ∧ a ≤ wp W w
        · rw [if_pos q2, if_pos ⟨by omega, q2.2⟩]
        · rw [if_neg q2, if_neg (fun y => q2 ⟨by omega, y.2⟩)]
  exact ⟨_, key 48 0 S (by omega) (by omega) Kp.rf (fun z z0 z1 y => by rw [if_neg (by omega)]; exact ((hC z z0 z1).2 y).1)⟩
theorem s_Wt_takeOut {Λ : QLay} {wt : Nat} {x : Int} {S : QMem} {Q : QMem → Prop} {W : WW} (hC : CW S wt W) (hw : wfW W) (x0 : 0 ≤ x) (x1 : x < 48) (hx : wa W x ≠ -1)
    (hq : ∀ S', Kp (Pw2 wt) S S' → CW S' wt (outW W x) → Q S') : w_Wt_takeOut Λ wt x S Q := by
  unfold w_Wt_takeOut
  have hxr := (wfW_rng hw x0 x1).resolve_left hx
  refine s_Wt_has hC hw (by unfold inR; omega) (fun _ _ _ => ⟨by unfold inR; omega, fun _ => ⟨by omega, ?_⟩, fun z => by omega⟩) (fun z => absurd ⟨x0, x1, hx⟩ z)
  intro u hu
  rw [(hC x x0 x1).1] at hu
  refine ⟨by omega, ?_⟩
  intro S2 e2
  have key : ∀ (f : Nat) (i : Int) (S1 : QMem), 0 ≤ i → i + f = 48 → Kp (fun o f => o = wt ∧ f = 3) S2 S1 → (∀ z, 0 ≤ z → z < 48 → wa W z ≠ -1 → S1.1 wt 3 z = if z < i ∧ z ≠ x ∧ wa W z = wa W x ∧ wp W x < wp W z then wp W z - 1 else wp W z) → w_Wt_takeOut_25 Λ Q (f + 1) wt x u i S1 := by
    intro f
    induction f with
    | zero =>
      intro i S1 i0 hi hk hp
      rw [w_Wt_takeOut_25]
      refine ⟨by unfold inR; omega, fun _ => ?_, fun z => by omega⟩
      have k2 : Kp (Pw2 wt) S S2 := by rw [e2]; exact Kp.rf.st ⟨rfl, Or.inl rfl⟩
      refine hq S1 (k2.tr (hk.mono (fun o f y => ⟨y.1, Or.inr y.2⟩))) (fun z z0 z1 => ?_)
      · have h1 := hC z z0 z1
        have h2 := hk.at (o := wt) (f := 2) (i := z) (by simp)
        show S1.1 wt 2 z = up (wa W) x (-1) z ∧ (up (wa W) x (-1) z ≠ -1 → _)
        by_cases q : z = x
        · rw [q, up_s]
          rw [q] at h2
          exact ⟨by rw [h2, e2]; simp [q_st], fun y => absurd rfl y⟩
        · rw [up_n _ _ q]
          refine ⟨by rw [h2, e2]; simp [q_st, q, h1.1], fun y => ?_⟩
          have h3 := h1.2 y
          rw [out_p]
          refine ⟨?_, ?_, ?_⟩
          · rw [hp z z0 z1 y]
            by_cases q2 : z ≠ x ∧ wa W z = wa W x ∧ wp W x < wp W z
            · rw [if_pos q2, if_pos ⟨by omega, q2⟩]
            · rw [if_neg q2, if_neg (fun y => q2 y.2)]
          · show _ = wl W z
            rw [hk.at (by simp), e2, ← h3.2.1]; simp [q_st]
          · show _ = wv W z
            rw [hk.at (by simp), e2, ← h3.2.2]; simp [q_st]
    | succ f ih =>
      intro i S1 i0 hi hk hp
      have h2 : S1.1 wt 2 i = up (wa W) x (-1) i := by
        rw [hk.at (by simp), e2]
        by_cases q : i = x
        · rw [q, up_s]; simp [q_st]
        · rw [up_n _ _ q]; simp [q_st, q, (hC i i0 (by omega)).1]
      rw [w_Wt_takeOut_25, h2]
      have hr := wfW_rng hw (x := i) i0 (by omega)
      have same : ¬ (i ≠ x ∧ wa W i = wa W x ∧ wp W x < wp W i) → ∀ z, 0 ≤ z → z < 48 → wa W z ≠ -1 → S1.1 wt 3 z = if z < i + 1 ∧ z ≠ x ∧ wa W z = wa W x ∧ wp W x < wp W z then wp W z - 1 else wp W z := fun hn z z0 z1 y => by
        rw [hp z z0 z1 y]
        by_cases q : z = i
        · rw [q, if_neg (fun w => by omega), if_neg (fun w => hn w.2)]
        · by_cases q2 : z < i ∧ z ≠ x ∧ wa W z = wa W x ∧ wp W x < wp W z
          · rw [if_pos q2, if_pos ⟨by omega, q2.2⟩]
          · rw [if_neg q2, if_neg (fun w => q2 ⟨by omega, w.2⟩)]
      by_cases qi : i = x
      · rw [show up (wa W) x (-1) i = -1 by rw [qi, up_s]]
        refine ⟨by unfold inR; omega, fun z => by omega, fun _ => ⟨by omega, by unfold inR; omega, by unfold inR; omega, fun z => ?_, fun z => by omega⟩⟩
        exact ih (i + 1) S1 (by omega) (by omega) hk (same (fun y => y.1 qi))
      · rw [up_n _ _ qi]
        refine ⟨by unfold inR; omega, fun z => by omega, fun _ => ⟨by omega, by unfold inR; omega, by unfold inR; omega, fun z => ih (i + 1) S1 (by omega) (by omega) hk (same (fun y => z (by rw [hu]; exact y.2.1))), fun z => ⟨by omega, by omega, ?_⟩⟩⟩
        have h3 : S1.1 wt 3 i = wp W i := by rw [hp i i0 (by omega) (by omega), if_neg (by omega)]
        have h4 : S1.1 wt 3 x = wp W x := by rw [hp x x0 x1 hx, if_neg (fun y => y.2.1 rfl)]
        rw [h3, h4]
        refine ⟨by unfold inR; omega, by unfold inR; omega, fun z2 => ih (i + 1) S1 (by omega) (by omega) hk (same (by omega)), fun z2 => ⟨by omega, by omega, ?_⟩⟩
        intro S3 e3
        refine ih (i + 1) S3 (by omega) (by omega) (by rw [e3]; exact hk.st ⟨rfl, rfl⟩) (fun w w0 w1 y => ?_)
        by_cases q : w = i
        · rw [e3, q, if_pos ⟨by omega, qi, by omega, by omega⟩]; simp [q_st]
        · have h6 := hp w w0 w1 y
          have h5 : S3.1 wt 3 w = S1.1 wt 3 w := by rw [e3]; simp [q_st, q]
          rw [h5, h6]
          by_cases q2 : w < i ∧ w ≠ x ∧ wa W w = wa W x ∧ wp W x < wp W w
          · rw [if_pos q2, if_pos ⟨by omega, q2.2⟩]
          · rw [if_neg q2, if_neg (fun y => q2 ⟨by omega, y.2⟩)]
  exact ⟨_, key 48 0 S2 (by omega) (by omega) Kp.rf (fun z z0 z1 y => by rw [if_neg (by omega), e2]; simp [q_st, ((hC z z0 z1).2 y).1])⟩
/-- the room of the node above -/
def pu (t : TT) (x : Int) : Int := if tp t x < 0 then 48 else tp t x
def W0 (t : TT) : WW := (fun x => if 0 ≤ x ∧ x < tn t then pu t x else -1, plT (tp t), tl t, tv t)
theorem s_Wt_load {Λ : QLay} {wt tr : Nat} {S : QMem} {Q : QMem → Prop} {t : TT} (hT : cT S tr t) (hw : wfT t) (hne : tr ≠ wt)
    (hq : ∀ S', Kp (Pwt wt) S S' → CW S' wt (W0 t) → Q S') : w_Wt_load Λ wt tr S Q := by
  have hn := tn_rng hw
  unfold w_Wt_load
  have fill : ∀ (f : Nat) (i : Int) (S1 : QMem), 0 ≤ i → i + f = tn t → Kp (Pwt wt) S S1 → (∀ x, 0 ≤ x → x < 48 → S1.1 wt 2 x = if x < i then pu t x else -1) → (∀ x, 0 ≤ x → x < i → S1.1 wt 3 x = plT (tp t) x ∧ S1.1 wt 0 x = tl t x ∧ S1.1 wt 1 x = tv t x) → w_Wt_load_23 Λ Q (f + 1) wt tr i S1 := by
    intro f
    induction f with
    | zero =>
      intro i S1 i0 hi hk ha hb
      rw [w_Wt_load_23, hk.at hne, hT.1]
      refine ⟨by unfold inR; omega, by unfold inR; omega, fun _ => hq S1 hk (fun x x0 x1 => ?_), fun z => by omega⟩
      show S1.1 wt 2 x = (if 0 ≤ x ∧ x < tn t then pu t x else -1) ∧ ((if 0 ≤ x ∧ x < tn t then pu t x else -1) ≠ -1 → _)
      rw [ha x x0 x1]
      by_cases q : x < i
      · rw [if_pos q, if_pos ⟨x0, by omega⟩]
        exact ⟨rfl, fun _ => hb x x0 q⟩
      · rw [if_neg q, if_neg (by omega)]
        exact ⟨rfl, fun y => absurd rfl y⟩
    | succ f ih =>
      intro i S1 i0 hi hk ha hb
      obtain ⟨t1, t2, t3, t4, _⟩ := hT.2.1 i i0 (by omega)
      have pr := tp_rng hw i0 (by omega : i < tn t)
      rw [w_Wt_load_23, hk.at hne, hT.1, hk.at hne, t1]
      refine ⟨by unfold inR; omega, by unfold inR; omega, fun z => by omega, fun _ => ⟨by omega, by omega, ?_⟩⟩
      intro S2 e2
      have k2 : Kp (Pwt wt) S S2 := by rw [e2]; exact hk.st rfl
      rw [k2.at hne, t2]
      refine ⟨by omega, by omega, ?_⟩
      intro S3 e3
      have k3 : Kp (Pwt wt) S S3 := by rw [e3]; exact k2.st rfl
      rw [k3.at hne, t3]
      have fin : ∀ v, v = pu t i → w_Wt_load_80 Λ (fun v0' v1' v2' S' => w_Wt_load_23 Λ Q (f + 1) v0' v1' v2' S') Q wt tr i wt i v S3 := by
        intro v hv
        unfold w_Wt_load_80
        refine ⟨by omega, ?_⟩
        intro S4 e4
        have k4 : Kp (Pwt wt) S S4 := by rw [e4]; exact k3.st rfl
        rw [k4.at hne, t4]
        refine ⟨by omega, by omega, ?_⟩
        intro S5 e5
        refine ih (i + 1) S5 (by omega) (by omega) (by rw [e5]; exact k4.st rfl) (fun x x0 x1 => ?_) (fun x x0 x1 => ?_)
        · by_cases q : x = i
          · rw [e5, e4, q, if_pos (by omega), ← hv]; simp [q_st]
          · have e : S5.1 wt 2 x = S1.1 wt 2 x := by rw [e5, e4, e3, e2]; simp [q_st, q]
            rw [e, ha x x0 x1]
            by_cases q2 : x < i
            · rw [if_pos q2, if_pos (by omega)]
            · rw [if_neg q2, if_neg (by omega)]
        · by_cases q : x = i
          · rw [e5, e4, e3, e2, q]; simp [q_st]
          · have := hb x x0 (by omega)
            rw [e5, e4, e3, e2]; simp [q_st, q, this.1, this.2.1, this.2.2]
      refine ⟨by omega, by unfold inR; omega, fun z => ⟨by omega, fin _ (by unfold pu; rw [if_neg (by omega)])⟩, fun z => fin _ (by unfold pu; rw [if_pos (by omega)])⟩
  have clear : ∀ (f : Nat) (i : Int) (S1 : QMem), 0 ≤ i → i + f = 49 → Kp (Pwt wt) S S1 → (∀ x, 0 ≤ x → x < i → S1.1 wt 2 x = -1) → w_Wt_load_2 Λ Q (f + 1) wt tr i S1 := by
    intro f
    induction f with
    | zero =>
      intro i S1 i0 hi hk ha
      rw [w_Wt_load_2]
      exact ⟨by unfold inR; omega, fun _ => ⟨_, fill (tn t).toNat 0 S1 (by omega) (by omega) hk (fun x x0 x1 => by rw [if_neg (by omega)]; exact ha x x0 (by omega)) (fun x a b => by omega)⟩, fun z => by omega⟩
    | succ f ih =>
      intro i S1 i0 hi hk ha
      rw [w_Wt_load_2]
      refine ⟨by unfold inR; omega, fun z => by omega, fun _ => ⟨by omega, ?_⟩⟩
      intro S2 e2
      refine ih (i + 1) S2 (by omega) (by omega) (by rw [e2]; exact hk.st rfl) (fun x x0 x1 => ?_)
      by_cases q : x = i
      · rw [e2, q]; simp [q_st]
      · rw [e2]; simp [q_st, q, ha x x0 (by omega)]
  exact ⟨_, clear 49 0 S (by omega) (by omega) Kp.rf (fun x a b => by omega)⟩
