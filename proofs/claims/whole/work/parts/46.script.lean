/-! scripts as values -/
theorem coh_W0k {t : TT} (hw : wfT t) : ∀ (k : Nat), (k : Int) ≤ tn t → ∃ km kd, coh (W0k t k) km kd ∧ (∀ u, 0 ≤ u → u < 48 → km u = cnt (tp t) u k) ∧ km 48 = (if 0 < (k : Int) then 1 else 0)
  | 0, _ => by
    have e : ∀ x, wa (W0k t ((0 : Nat) : Int)) x = -1 := fun x => if_neg (by omega)
    exact ⟨fun _ => 0, fun _ _ => 0, ⟨fun x _ _ => Or.inl (e x), fun u i _ _ a b => by have b : i < 0 := b; omega, fun u _ _ => Int.le_refl _⟩, fun u _ _ => (cnt_0 _ _).symm, (if_neg (by omega)).symm⟩
  | k + 1, hk => by
    obtain ⟨km, kd, hc, h1, h2⟩ := coh_W0k hw k (by omega)
    have hn := tn_rng hw
    have tr := tp_rng hw (k := (k : Int)) (by omega) (by omega)
    have pr := pu_rng hw (x := (k : Int)) (by omega) (by omega)
    have hab : wa (W0k t k) k = -1 := if_neg (by omega)
    have plr := pl_rng hw (x := (k : Int)) (by omega) (by omega)
    have hpl : km (pu t k) = plT (tp t) k := by
      unfold pu plT
      by_cases q : tp t k < 0
      · rw [if_pos q, if_pos q, h2, if_neg (by have := tr.2.2.1; omega)]
      · rw [if_neg q, if_neg q, h1 _ (by omega) (by omega)]
    have hp := coh_put hc (x := (k : Int)) (u := pu t k) (a := km (pu t k)) (by omega) (by omega) hab pr.1 pr.2.1 (by omega) (Int.le_refl _)
    refine ⟨_, _, coh_eq hp (fun x x0 x1 => ?_), fun u u0 u1 => ?_, ?_⟩
    · rw [put_a]
      show up (wa (W0k t k)) k (pu t k) x = (if 0 ≤ x ∧ x < ((k + 1 : Nat) : Int) then pu t x else -1) ∧ (up (wa (W0k t k)) k (pu t k) x ≠ -1 → wp (putW (W0k t k) k (pu t k) (km (pu t k))) x = plT (tp t) x ∧ tl t x = tl t x ∧ tv t x = tv t x)
      by_cases q : x = (k : Int)
      · rw [q, up_s, put_p_s, if_pos (by omega)]
        exact ⟨rfl, fun _ => ⟨hpl, rfl, rfl⟩⟩
      · rw [up_n _ _ q, put_p_n _ q]
        have ex : wa (W0k t k) x = if 0 ≤ x ∧ x < (k : Int) then pu t x else -1 := rfl
        refine ⟨?_, fun y => ⟨?_, rfl, rfl⟩⟩
        · rw [ex]
          by_cases q2 : 0 ≤ x ∧ x < (k : Int)
          · rw [if_pos q2, if_pos (by omega)]
          · rw [if_neg q2, if_neg (by omega)]
        · have hr := (hc.1 x x0 x1).resolve_left y
          refine if_neg (fun w => ?_)
          rw [w.1] at hr
          omega
    · rw [show ((k + 1 : Nat) : Int) = (k : Int) + 1 by omega, cnt_s _ _ (by omega)]
      by_cases q : u = pu t k
      · have q2 : tp t k = u := by
          unfold pu at q
          by_cases q3 : tp t k < 0
          · rw [if_pos q3] at q; omega
          · rw [if_neg q3] at q; omega
        rw [← q, up_s, if_pos q2, h1 u u0 u1]
      · have q2 : tp t k ≠ u := fun z => q (by unfold pu; rw [if_neg (by omega)]; exact z.symm)
        rw [up_n _ _ q, if_neg q2, h1 u u0 u1, Int.add_zero]
    · rw [if_pos (by omega)]
      by_cases q : pu t k = 48
      · have q2 : (k : Int) = 0 := by
          by_cases q3 : (k : Int) = 0
          · exact q3
          · have := tr.2.2.1 (by omega)
            unfold pu at q
            rw [if_neg (by omega)] at q
            omega
        rw [q, up_s, h2, if_neg (by omega)]; rfl
      · have q2 : (k : Int) ≠ 0 := fun z => by
          have := tr.2.2.2 z
          unfold pu at q
          rw [if_pos (by omega)] at q
          exact q rfl
        rw [up_n _ _ (fun y => q y.symm), h2, if_pos (by omega)]
theorem wfW_W0 {t : TT} (hw : wfT t) : wfW (W0 t) := by
  have hn := tn_rng hw
  obtain ⟨km, kd, hc, _, _⟩ := coh_W0k hw (tn t).toNat (by omega)
  refine ⟨km, kd, ?_⟩
  rw [show (((tn t).toNat : Nat) : Int) = tn t by omega] at hc
  exact hc
def rgW (W : WW) : Prop := ∀ x, 0 ≤ x → x < 48 → wa W x ≠ -1 → (0 ≤ wl W x ∧ wl W x ≤ 7) ∧ (0 ≤ wv W x ∧ wv W x ≤ 99)
theorem rgW_W0 {t : TT} (hw : wfT t) : rgW (W0 t) := fun x x0 x1 h => by
  by_cases q : 0 ≤ x ∧ x < tn t
  · exact hw.2 x q.1 q.2
  · exact absurd (if_neg q) h
/-- kind, room, under, place, label, value, old under, old place, old value -/
abbrev ST : Type := Int × Int × Int × Int × Int × Int × Int × Int × Int
def sk (s : ST) : Int := s.1
def sr (s : ST) : Int := s.2.1
def su (s : ST) : Int := s.2.2.1
def sp (s : ST) : Int := s.2.2.2.1
def sl (s : ST) : Int := s.2.2.2.2.1
def sv (s : ST) : Int := s.2.2.2.2.2.1
def ou (s : ST) : Int := s.2.2.2.2.2.2.1
def op (s : ST) : Int := s.2.2.2.2.2.2.2.1
def ov (s : ST) : Int := s.2.2.2.2.2.2.2.2
def ap (W : WW) (s : ST) : WW := if sk s = 0 then valW W (sr s) (sv s) else if sk s = 1 then putW (labW W (sr s) (sl s) (sv s)) (sr s) (su s) (sp s) else if sk s = 2 then putW (outW W (sr s)) (sr s) (su s) (sp s) else outW W (sr s)
def tb (W : WW) (s : ST) : WW := if sk s = 0 then valW W (sr s) (ov s) else if sk s = 1 then outW W (sr s) else if sk s = 2 then putW (outW W (sr s)) (sr s) (ou s) (op s) else putW W (sr s) (ou s) (op s)
def okS (W : WW) (s : ST) : Prop := (0 ≤ sr s ∧ sr s < 48) ∧
  ((sk s = 0 ∧ wa W (sr s) ≠ -1 ∧ ov s = wv W (sr s) ∧ (0 ≤ sv s ∧ sv s ≤ 99)) ∨
   (sk s = 1 ∧ wa W (sr s) = -1 ∧ (0 ≤ su s ∧ su s ≤ 48) ∧ okA W (sr s) (su s) (sp s) ∧ (0 ≤ sl s ∧ sl s ≤ 7) ∧ (0 ≤ sv s ∧ sv s ≤ 99) ∧ 24 ≤ sr s) ∨
   (sk s = 2 ∧ wa W (sr s) ≠ -1 ∧ (0 ≤ su s ∧ su s ≤ 48) ∧ okA (outW W (sr s)) (sr s) (su s) (sp s) ∧ ou s = wa W (sr s) ∧ op s = wp W (sr s)) ∨
   (sk s = 3 ∧ wa W (sr s) ≠ -1 ∧ ou s = wa W (sr s) ∧ op s = wp W (sr s) ∧ sr s < 24))
theorem ap_0 {W : WW} {s : ST} (h : sk s = 0) : ap W s = valW W (sr s) (sv s) := if_pos h
theorem ap_1 {W : WW} {s : ST} (h : sk s = 1) : ap W s = putW (labW W (sr s) (sl s) (sv s)) (sr s) (su s) (sp s) := by unfold ap; rw [if_neg (by omega), if_pos h]
theorem ap_2 {W : WW} {s : ST} (h : sk s = 2) : ap W s = putW (outW W (sr s)) (sr s) (su s) (sp s) := by unfold ap; rw [if_neg (by omega), if_neg (by omega), if_pos h]
theorem ap_3 {W : WW} {s : ST} (h : sk s = 3) : ap W s = outW W (sr s) := by unfold ap; rw [if_neg (by omega), if_neg (by omega), if_neg (by omega)]
theorem tb_0 {W : WW} {s : ST} (h : sk s = 0) : tb W s = valW W (sr s) (ov s) := if_pos h
theorem tb_1 {W : WW} {s : ST} (h : sk s = 1) : tb W s = outW W (sr s) := by unfold tb; rw [if_neg (by omega), if_pos h]
theorem tb_2 {W : WW} {s : ST} (h : sk s = 2) : tb W s = putW (outW W (sr s)) (sr s) (ou s) (op s) := by unfold tb; rw [if_neg (by omega), if_neg (by omega), if_pos h]
theorem tb_3 {W : WW} {s : ST} (h : sk s = 3) : tb W s = putW W (sr s) (ou s) (op s) := by unfold tb; rw [if_neg (by omega), if_neg (by omega), if_neg (by omega)]
theorem wfW_lab {W : WW} {x l v : Int} (h : wfW W) : wfW (labW W x l v) := h
theorem wfW_val {W : WW} {x v : Int} (h : wfW W) : wfW (valW W x v) := h
theorem out_self (W : WW) (x : Int) : wa (outW W x) x = -1 := up_s _ _ _
theorem out_n (W : WW) {x z : Int} (h : z ≠ x) : wa (outW W x) z = wa W z := up_n _ _ h
theorem wfW_ap {W : WW} {s : ST} (h : wfW W) (ho : okS W s) : wfW (ap W s) := by
  obtain ⟨hr, z | z | z | z⟩ := ho
  · rw [ap_0 z.1]; exact h
  · rw [ap_1 z.1]; exact wfW_put (wfW_lab h) hr.1 hr.2 z.2.1 z.2.2.1.1 z.2.2.1.2 z.2.2.2.1
  · rw [ap_2 z.1]; exact wfW_put (wfW_out h hr.1 hr.2 z.2.1) hr.1 hr.2 (out_self _ _) z.2.2.1.1 z.2.2.1.2 z.2.2.2.1
  · rw [ap_3 z.1]; exact wfW_out h hr.1 hr.2 z.2.1
theorem rgW_ap {W : WW} {s : ST} (h : rgW W) (ho : okS W s) : rgW (ap W s) := by
  obtain ⟨hr, z | z | z | z⟩ := ho
  · rw [ap_0 z.1]
    intro x x0 x1 hx
    refine ⟨(h x x0 x1 hx).1, ?_⟩
    show 0 ≤ up (wv W) (sr s) (sv s) x ∧ up (wv W) (sr s) (sv s) x ≤ 99
    by_cases q : x = sr s
    · rw [q, up_s]; exact z.2.2.2
    · rw [up_n _ _ q]; exact (h x x0 x1 hx).2
  · rw [ap_1 z.1]
    intro x x0 x1 hx
    show (0 ≤ up (wl W) (sr s) (sl s) x ∧ up (wl W) (sr s) (sl s) x ≤ 7) ∧ (0 ≤ up (wv W) (sr s) (sv s) x ∧ up (wv W) (sr s) (sv s) x ≤ 99)
    by_cases q : x = sr s
    · rw [q, up_s, up_s]; exact ⟨z.2.2.2.2.1, z.2.2.2.2.2.1⟩
    · rw [up_n _ _ q, up_n _ _ q]
      exact h x x0 x1 (fun y => hx ((up_n _ _ q).trans y))
  · rw [ap_2 z.1]
    intro x x0 x1 hx
    by_cases q : x = sr s
    · rw [q]; exact h _ hr.1 hr.2 z.2.1
    · exact h x x0 x1 (fun y => hx ((up_n _ _ q).trans ((up_n _ _ q).trans y)))
  · rw [ap_3 z.1]
    intro x x0 x1 hx
    by_cases q : x = sr s
    · exact absurd (by rw [q]; exact out_self _ _) hx
    · exact h x x0 x1 (fun y => hx ((up_n _ _ q).trans y))
def eqP (W W' : WW) : Prop := ∀ x, 0 ≤ x → x < 48 → wa W x = wa W' x ∧ (wa W x ≠ -1 → wp W x = wp W' x)
theorem eqP_put {W W' : WW} {r u a : Int} (h : eqP W W') (hu : 0 ≤ u) : eqP (putW W r u a) (putW W' r u a) := fun x x0 x1 => by
  have hx := h x x0 x1
  rw [put_a, put_a]
  by_cases q : x = r
  · rw [q, up_s, up_s, put_p_s, put_p_s]; exact ⟨rfl, fun _ => rfl⟩
  · rw [up_n _ _ q, up_n _ _ q, put_p_n _ q, put_p_n _ q]
    refine ⟨hx.1, fun y => ?_⟩
    rw [← hx.1, ← hx.2 y]
theorem out_put {W : WW} {r u a : Int} (hr : wa W r = -1) : eqP (outW (putW W r u a) r) W := fun x x0 x1 => by
  by_cases q : x = r
  · rw [q, out_self, hr]; exact ⟨rfl, fun y => absurd rfl y⟩
  · rw [out_n _ q, put_a, up_n _ _ q]
    refine ⟨rfl, fun y => ?_⟩
    rw [out_p, put_a, put_a, up_n _ _ q, up_s, put_p_s, put_p_n _ q]
    by_cases q2 : wa W x = u ∧ a ≤ wp W x
    · rw [if_pos q2, if_pos ⟨q, q2.1, by omega⟩]; omega
    · rw [if_neg q2, if_neg (fun w => q2 ⟨w.2.1, by omega⟩)]
theorem put_out {W : WW} {r : Int} (hw : wfW W) (r0 : 0 ≤ r) (r1 : r < 48) (hr : wa W r ≠ -1) : eqP (putW (outW W r) r (wa W r) (wp W r)) W := fun x x0 x1 => by
  by_cases q : x = r
  · rw [q, put_a, up_s, put_p_s]; exact ⟨rfl, fun _ => rfl⟩
  · rw [put_a, up_n _ _ q, out_n _ q, put_p_n _ q, out_n _ q, out_p]
    refine ⟨rfl, fun y => ?_⟩
    by_cases q2 : wa W x = wa W r
    · have hne : wp W x ≠ wp W r := fun z => q (wfW_inj hw x0 x1 r0 r1 y q2 z)
      by_cases q3 : wp W r < wp W x
      · have e : (if x ≠ r ∧ wa W x = wa W r ∧ wp W r < wp W x then wp W x - 1 else wp W x) = wp W x - 1 := if_pos ⟨q, q2, q3⟩
        rw [e, if_pos ⟨q2, by omega⟩]; omega
      · have e : (if x ≠ r ∧ wa W x = wa W r ∧ wp W r < wp W x then wp W x - 1 else wp W x) = wp W x := if_neg (fun w => q3 w.2.2)
        rw [e, if_neg (fun w => by have := w.2; omega)]
    · have e : (if x ≠ r ∧ wa W x = wa W r ∧ wp W r < wp W x then wp W x - 1 else wp W x) = wp W x := if_neg (fun w => q2 w.2.1)
      rw [e, if_neg (fun w => q2 w.1)]
theorem eqP.tr {W W1 W2 : WW} (h : eqP W W1) (h2 : eqP W1 W2) : eqP W W2 := fun x a b => ⟨(h x a b).1.trans (h2 x a b).1, fun z => ((h x a b).2 z).trans ((h2 x a b).2 (by rw [← (h x a b).1]; exact z))⟩
/-- a step taken back -/
theorem tb_ap {W : WW} {s : ST} (h : wfW W) (ho : okS W s) : eqW (tb (ap W s) s) W := by
  obtain ⟨hr, z | z | z | z⟩ := ho
  · rw [tb_0 z.1, ap_0 z.1, z.2.2.1]
    refine fun x x0 x1 => ⟨rfl, fun y => ⟨rfl, rfl, ?_⟩⟩
    show up (up (wv W) (sr s) (sv s)) (sr s) (wv W (sr s)) x = wv W x
    by_cases q : x = sr s
    · rw [q, up_s]
    · rw [up_n _ _ q, up_n _ _ q]
  · rw [tb_1 z.1, ap_1 z.1]
    intro x x0 x1
    have e := out_put (W := labW W (sr s) (sl s) (sv s)) (r := sr s) (u := su s) (a := sp s) z.2.1 x x0 x1
    refine ⟨e.1, fun y => ⟨e.2 y, ?_⟩⟩
    have q : x ≠ sr s := fun w => y (by rw [w]; exact out_self _ _)
    exact ⟨up_n _ _ q, up_n _ _ q⟩
  · rw [tb_2 z.1, ap_2 z.1, z.2.2.2.2.1, z.2.2.2.2.2]
    have hu := (wfW_rng h hr.1 hr.2).resolve_left z.2.1
    have e := (eqP_put (r := sr s) (u := wa W (sr s)) (a := wp W (sr s)) (out_put (W := outW W (sr s)) (r := sr s) (u := su s) (a := sp s) (out_self _ _)) hu.1).tr (put_out h hr.1 hr.2 z.2.1)
    exact fun x x0 x1 => ⟨(e x x0 x1).1, fun y => ⟨(e x x0 x1).2 y, rfl, rfl⟩⟩
  · rw [tb_3 z.1, ap_3 z.1, z.2.2.1, z.2.2.2.1]
    have e := put_out h hr.1 hr.2 z.2.1
    exact fun x x0 x1 => ⟨(e x x0 x1).1, fun y => ⟨(e x x0 x1).2 y, rfl, rfl⟩⟩
/-- the tree after k steps -/
def rn (st : Nat → ST) (W : WW) : Nat → WW
  | 0 => W
  | k + 1 => ap (rn st W k) (st k)
theorem rn_ext {st st' : Nat → ST} {W : WW} : ∀ (k : Nat), (∀ i, i < k → st' i = st i) → rn st' W k = rn st W k
  | 0, _ => rfl
  | k + 1, h => by
    show ap (rn st' W k) (st' k) = ap (rn st W k) (st k)
    rw [rn_ext k (fun i hi => h i (by omega)), h k (by omega)]
/-- the tree, how many steps, the steps, the rooms of tree 1's nodes, the marks -/
abbrev ZZ : Type := WW × Nat × (Nat → ST) × (Int → Int) × (Int → Int)
def zw (Z : ZZ) : WW := Z.1
def zn (Z : ZZ) : Nat := Z.2.1
def zs (Z : ZZ) : Nat → ST := Z.2.2.1
def zp (Z : ZZ) : Int → Int := Z.2.2.2.1
def zm (Z : ZZ) : Int → Int := Z.2.2.2.2
/-- the steps lead to the tree -/
def okZ (W : WW) (Z : ZZ) : Prop := zw Z = rn (zs Z) W (zn Z) ∧ ∀ i, i < zn Z → okS (rn (zs Z) W i) (zs Z i)
def addZ (Z : ZZ) (s : ST) (p m : Int → Int) : ZZ := (ap (zw Z) s, zn Z + 1, fun i => if i = zn Z then s else zs Z i, p, m)
theorem okZ_add {W : WW} {Z : ZZ} {s : ST} {p m : Int → Int} (h : okZ W Z) (ho : okS (zw Z) s) : okZ W (addZ Z s p m) := by
  have e : ∀ k, k ≤ zn Z → rn (zs (addZ Z s p m)) W k = rn (zs Z) W k := fun k hk => rn_ext k (fun i hi => if_neg (by omega))
  refine ⟨?_, fun i hi => ?_⟩
  · show ap (zw Z) s = ap (rn (zs (addZ Z s p m)) W (zn Z)) (if zn Z = zn Z then s else _)
    rw [e _ (Nat.le_refl _), if_pos rfl, ← h.1]
  · have hi' : i < zn Z + 1 := hi
    rw [e i (by omega)]
    show okS _ (if i = zn Z then s else zs Z i)
    by_cases q : i = zn Z
    · rw [if_pos q, q, ← h.1]; exact ho
    · rw [if_neg q]; exact h.2 i (by omega)
theorem okZ_wf {W : WW} {Z : ZZ} (hw : wfW W) (hr : rgW W) (h : okZ W Z) : ∀ k, k ≤ zn Z → wfW (rn (zs Z) W k) ∧ rgW (rn (zs Z) W k)
  | 0, _ => ⟨hw, hr⟩
  | k + 1, hk => by
    have ih := okZ_wf hw hr h k (by omega)
    exact ⟨wfW_ap ih.1 (h.2 k (by omega)), rgW_ap ih.2 (h.2 k (by omega))⟩
def rm (Z : ZZ) (y : Int) : Int := if y < 0 then 48 else zp Z y
/-- the last marked sibling before -/
def lsM (t1 : TT) (m : Int → Int) (y : Int) : Nat → Int
  | 0 => -1
  | k + 1 => if tp t1 (k : Int) = tp t1 y ∧ m (k : Int) ≠ 0 then (k : Int) else lsM t1 m y k
def plc (t1 : TT) (W : WW) (p m : Int → Int) (y : Int) : Int := if lsM t1 m y y.toNat < 0 then 0 else wp W (p (lsM t1 m y y.toNat)) + 1
def mvZ (t1 : TT) (Z : ZZ) (y : Int) : ZZ := addZ Z (2, zp Z y, rm Z (tp t1 y), plc t1 (outW (zw Z) (zp Z y)) (zp Z) (zm Z) y, 0, 0, wa (zw Z) (zp Z y), wp (zw Z) (zp Z y), 0) (zp Z) (up (zm Z) y 1)
def insZ (t1 : TT) (Z : ZZ) (y : Int) : ZZ := addZ Z (1, 24 + y, rm Z (tp t1 y), plc t1 (zw Z) (zp Z) (zm Z) y, tl t1 y, tv t1 y, 0, 0, 0) (up (zp Z) y (24 + y)) (up (zm Z) y 1)
def updZ (Z : ZZ) (x v : Int) : ZZ := addZ Z (0, x, 0, 0, 0, v, 0, 0, wv (zw Z) x) (zp Z) (zm Z)
def delZ (Z : ZZ) (x : Int) : ZZ := addZ Z (3, x, 0, 0, 0, 0, wa (zw Z) x, wp (zw Z) x, 0) (zp Z) (zm Z)
theorem lsM_ok {t1 : TT} {m : Int → Int} {y : Int} : ∀ (k : Nat), lsM t1 m y k = -1 ∨ (0 ≤ lsM t1 m y k ∧ lsM t1 m y k < k ∧ tp t1 (lsM t1 m y k) = tp t1 y ∧ m (lsM t1 m y k) ≠ 0)
  | 0 => Or.inl rfl
  | k + 1 => by
    unfold lsM
    by_cases q : tp t1 (k : Int) = tp t1 y ∧ m (k : Int) ≠ 0
    · rw [if_pos q]; exact Or.inr ⟨by omega, by omega, q.1, q.2⟩
    · rw [if_neg q]
      rcases lsM_ok (t1 := t1) (m := m) (y := y) k with z | z
      · exact Or.inl z
      · exact Or.inr ⟨z.1, by omega, z.2.2⟩
/-- what holds while a script is made -/
def ZI (t0 t1 : TT) (Z : ZZ) : Prop := okZ (W0 t0) Z ∧ wfW (zw Z) ∧ rgW (zw Z) ∧
  (∀ k, 0 ≤ k → k < tn t1 → zp Z k = -1 ∨ (0 ≤ zp Z k ∧ zp Z k < 48 ∧ wa (zw Z) (zp Z k) ≠ -1 ∧ (24 ≤ zp Z k → zp Z k = 24 + k))) ∧
  (∀ k k', 0 ≤ k → k < tn t1 → 0 ≤ k' → k' < tn t1 → zp Z k ≠ -1 → zp Z k = zp Z k' → k = k') ∧
  (∀ k, 0 ≤ k → k < tn t1 → zp Z k = -1 → wa (zw Z) (24 + k) = -1) ∧
  (∀ k, 0 ≤ k → k < tn t1 → (zm Z k = 0 ∨ zm Z k = 1) ∧ (zm Z k ≠ 0 → zp Z k ≠ -1 ∧ rm Z (tp t1 k) ≠ -1 ∧ wa (zw Z) (zp Z k) = rm Z (tp t1 k))) ∧
  (∀ x, 0 ≤ x → x < tn t0 → wa (zw Z) x ≠ -1)
theorem ZI_rm {t0 t1 : TT} (w1 : wfT t1) {Z : ZZ} (h : ZI t0 t1 Z) {y : Int} (y0 : -1 ≤ y) (y1 : y < tn t1) (hr : rm Z y ≠ -1) : 0 ≤ rm Z y ∧ rm Z y ≤ 48 := by
  unfold rm at hr ⊢
  by_cases q : y < 0
  · rw [if_pos q]; omega
  · rw [if_neg q] at hr ⊢
    have := h.2.2.2.1 y (by omega) y1
    omega
/-- the place that is found is a good one -/
theorem plc_ok {t0 t1 : TT} (w1 : wfT t1) {Z : ZZ} (h : ZI t0 t1 Z) {y x : Int} (y0 : 0 ≤ y) (y1 : y < tn t1) (hx : ∀ k, 0 ≤ k → k < y → zp Z k ≠ -1 → zp Z k ≠ x) {W : WW} (hW : ∀ z, z ≠ x → wa W z = wa (zw Z) z) (hp : ∀ z, 0 ≤ z → z < 48 → wa W z ≠ -1 → 0 ≤ wp W z) : okA W x (rm Z (tp t1 y)) (plc t1 W (zp Z) (zm Z) y) := by
  have hl := lsM_ok (t1 := t1) (m := zm Z) (y := y) y.toNat
  unfold plc
  by_cases q : lsM t1 (zm Z) y y.toNat < 0
  · rw [if_pos q]; exact ⟨Int.le_refl _, Or.inl rfl⟩
  · rw [if_neg q]
    have hl := hl.resolve_left (by omega)
    have hm := (h.2.2.2.2.2.2.1 _ hl.1 (by omega)).2 hl.2.2.2
    have hz := (h.2.2.2.1 _ hl.1 (by omega)).resolve_left hm.1
    have hne := hx _ hl.1 (by omega) hm.1
    have ha := hW _ hne
    have h0 := hp _ hz.1 hz.2.1 (by rw [ha]; exact hz.2.2.1)
    refine ⟨by omega, Or.inr ⟨_, hz.1, hz.2.1, hne, ?_, by omega⟩⟩
    rw [ha, hm.2.2, hl.2.2.1]
theorem wp_nn {W : WW} (h : wfW W) : ∀ z, 0 ≤ z → z < 48 → wa W z ≠ -1 → 0 ≤ wp W z := fun z z0 z1 hz => ((wfW_rng h z0 z1).resolve_left hz).2.2.1
theorem ZI_mv {t0 t1 : TT} (w1 : wfT t1) {Z : ZZ} (h : ZI t0 t1 Z) {y : Int} (y0 : 0 ≤ y) (y1 : y < tn t1) (hp : zp Z y ≠ -1) (hr : rm Z (tp t1 y) ≠ -1) : ZI t0 t1 (mvZ t1 Z y) ∧ okA (outW (zw Z) (zp Z y)) (zp Z y) (rm Z (tp t1 y)) (plc t1 (outW (zw Z) (zp Z y)) (zp Z) (zm Z) y) := by
  have htp := tp_rng w1 y0 y1
  have hrr := ZI_rm w1 h (y := tp t1 y) (by omega) (by omega) hr
  obtain ⟨h1, h2, h3, h4, h5, h6, h7, h8⟩ := h
  have hy := (h4 y y0 y1).resolve_left hp
  have hwo := wfW_out h2 hy.1 hy.2.1 hy.2.2.1
  have hA := plc_ok w1 ⟨h1, h2, h3, h4, h5, h6, h7, h8⟩ y0 y1 (x := zp Z y) (fun k k0 k1 e e2 => by have := h5 k y k0 (by omega) y0 y1 e e2; omega) (W := outW (zw Z) (zp Z y)) (fun z q => out_n _ q) (wp_nn hwo)
  have hok : okS (zw Z) (2, zp Z y, rm Z (tp t1 y), plc t1 (outW (zw Z) (zp Z y)) (zp Z) (zm Z) y, 0, 0, wa (zw Z) (zp Z y), wp (zw Z) (zp Z y), 0) := ⟨⟨hy.1, hy.2.1⟩, Or.inr (Or.inr (Or.inl ⟨rfl, hy.2.2.1, hrr, hA, rfl, rfl⟩))⟩
  have ew : zw (mvZ t1 Z y) = putW (outW (zw Z) (zp Z y)) (zp Z y) (rm Z (tp t1 y)) (plc t1 (outW (zw Z) (zp Z y)) (zp Z) (zm Z) y) := ap_2 (s := (2, zp Z y, rm Z (tp t1 y), plc t1 (outW (zw Z) (zp Z y)) (zp Z) (zm Z) y, 0, 0, wa (zw Z) (zp Z y), wp (zw Z) (zp Z y), 0)) rfl
  have wan : ∀ z, z ≠ zp Z y → wa (zw (mvZ t1 Z y)) z = wa (zw Z) z := fun z q => by rw [ew, put_a, up_n _ _ q, out_n _ q]
  have was : wa (zw (mvZ t1 Z y)) (zp Z y) = rm Z (tp t1 y) := by rw [ew, put_a, up_s]
  have wap : ∀ z, wa (zw Z) z ≠ -1 → wa (zw (mvZ t1 Z y)) z ≠ -1 := fun z hz => by
    by_cases q : z = zp Z y
    · rw [q, was]; omega
    · rw [wan z q]; exact hz
  refine ⟨⟨okZ_add h1 hok, wfW_ap h2 hok, rgW_ap h3 hok, fun k k0 k1 => ?_, h5, fun k k0 k1 e => ?_, fun k k0 k1 => ?_, fun x x0 x1 => wap x (h8 x x0 x1)⟩, hA⟩
  · rcases h4 k k0 k1 with z | z
    · exact Or.inl z
    · exact Or.inr ⟨z.1, z.2.1, wap _ z.2.2.1, z.2.2.2⟩
  · have q : 24 + k ≠ zp Z y := fun z => by
      have e2 := h6 k k0 k1 e
      rw [z] at e2
      exact hy.2.2.1 e2
    rw [wan _ q]
    exact h6 k k0 k1 e
  · show (up (zm Z) y 1 k = 0 ∨ up (zm Z) y 1 k = 1) ∧ (up (zm Z) y 1 k ≠ 0 → zp Z k ≠ -1 ∧ rm Z (tp t1 k) ≠ -1 ∧ wa (zw (mvZ t1 Z y)) (zp Z k) = rm Z (tp t1 k))
    by_cases q : k = y
    · rw [q, up_s]
      exact ⟨Or.inr rfl, fun _ => ⟨hp, hr, was⟩⟩
    · rw [up_n _ _ q]
      refine ⟨(h7 k k0 k1).1, fun z => ?_⟩
      have hm := (h7 k k0 k1).2 z
      refine ⟨hm.1, hm.2.1, ?_⟩
      rw [wan _ (fun e => q (h5 k y k0 k1 y0 y1 hm.1 e))]
      exact hm.2.2
theorem ZI_ins {t0 t1 : TT} (w1 : wfT t1) {Z : ZZ} (h : ZI t0 t1 Z) {y : Int} (y0 : 0 ≤ y) (y1 : y < tn t1) (hp : zp Z y = -1) (hr : rm Z (tp t1 y) ≠ -1) : ZI t0 t1 (insZ t1 Z y) ∧ okA (zw Z) (24 + y) (rm Z (tp t1 y)) (plc t1 (zw Z) (zp Z) (zm Z) y) := by
  have n1 := tn_rng w1
  have htp := tp_rng w1 y0 y1
  have hrr := ZI_rm w1 h (y := tp t1 y) (by omega) (by omega) hr
  obtain ⟨h1, h2, h3, h4, h5, h6, h7, h8⟩ := h
  have hab := h6 y y0 y1 hp
  have hA := plc_ok w1 ⟨h1, h2, h3, h4, h5, h6, h7, h8⟩ y0 y1 (x := 24 + y) (fun k k0 k1 e e2 => by have := (h4 k k0 (by omega)).resolve_left e; omega) (W := zw Z) (fun z q => rfl) (wp_nn h2)
  have hlv := w1.2 y y0 y1
  have hok : okS (zw Z) (1, 24 + y, rm Z (tp t1 y), plc t1 (zw Z) (zp Z) (zm Z) y, tl t1 y, tv t1 y, 0, 0, 0) := ⟨⟨by show 0 ≤ 24 + y; omega, by show 24 + y < 48; omega⟩, Or.inr (Or.inl ⟨rfl, hab, hrr, hA, hlv.1, hlv.2, by show 24 ≤ 24 + y; omega⟩)⟩
  have ew : zw (insZ t1 Z y) = putW (labW (zw Z) (24 + y) (tl t1 y) (tv t1 y)) (24 + y) (rm Z (tp t1 y)) (plc t1 (zw Z) (zp Z) (zm Z) y) := ap_1 (s := (1, 24 + y, rm Z (tp t1 y), plc t1 (zw Z) (zp Z) (zm Z) y, tl t1 y, tv t1 y, 0, 0, 0)) rfl
  have wan : ∀ z, z ≠ 24 + y → wa (zw (insZ t1 Z y)) z = wa (zw Z) z := fun z q => by rw [ew, put_a, up_n _ _ q]; rfl
  have was : wa (zw (insZ t1 Z y)) (24 + y) = rm Z (tp t1 y) := by rw [ew, put_a, up_s]
  have hq : ∀ k, 0 ≤ k → k < tn t1 → zp Z k ≠ -1 → zp Z k ≠ 24 + y := fun k k0 k1 e e2 => by
    have := (h4 k k0 k1).resolve_left e
    rw [e2] at this
    exact this.2.2.1 hab
  have hrm : ∀ k, -1 ≤ k → rm Z k ≠ -1 → rm (insZ t1 Z y) k = rm Z k := fun k k0 hk => by
    unfold rm at hk ⊢
    by_cases q : k < 0
    · rw [if_pos q, if_pos q]
    · rw [if_neg q] at hk
      rw [if_neg q, if_neg q]
      show up (zp Z) y (24 + y) k = zp Z k
      exact up_n _ _ (fun z => hk (by rw [z]; exact hp))
  refine ⟨⟨okZ_add h1 hok, wfW_ap h2 hok, rgW_ap h3 hok, fun k k0 k1 => ?_, fun k k' k0 k1 k0' k1' e1 e2 => ?_, fun k k0 k1 e => ?_, fun k k0 k1 => ?_, fun x x0 x1 => ?_⟩, hA⟩
  · show up (zp Z) y (24 + y) k = -1 ∨ (0 ≤ up (zp Z) y (24 + y) k ∧ up (zp Z) y (24 + y) k < 48 ∧ wa (zw (insZ t1 Z y)) (up (zp Z) y (24 + y) k) ≠ -1 ∧ (24 ≤ up (zp Z) y (24 + y) k → up (zp Z) y (24 + y) k = 24 + k))
    by_cases q : k = y
    · rw [q, up_s, was]; exact Or.inr ⟨by omega, by omega, by omega, fun _ => rfl⟩
    · rw [up_n _ _ q]
      rcases h4 k k0 k1 with z | z
      · exact Or.inl z
      · exact Or.inr ⟨z.1, z.2.1, by rw [wan _ (hq k k0 k1 (by omega))]; exact z.2.2.1, z.2.2.2⟩
  · have e1 : up (zp Z) y (24 + y) k ≠ -1 := e1
    have e2 : up (zp Z) y (24 + y) k = up (zp Z) y (24 + y) k' := e2
    by_cases q : k = y
    · by_cases q2 : k' = y
      · omega
      · rw [q, up_s, up_n _ _ q2] at e2
        exact absurd e2.symm (hq k' k0' k1' (by omega))
    · rw [up_n _ _ q] at e1 e2
      by_cases q2 : k' = y
      · rw [q2, up_s] at e2
        exact absurd e2 (hq k k0 k1 e1)
      · rw [up_n _ _ q2] at e2
        exact h5 k k' k0 k1 k0' k1' e1 e2
  · have e : up (zp Z) y (24 + y) k = -1 := e
    by_cases q : k = y
    · rw [q, up_s] at e; omega
    · rw [up_n _ _ q] at e
      rw [wan _ (by omega)]
      exact h6 k k0 k1 e
  · show (up (zm Z) y 1 k = 0 ∨ up (zm Z) y 1 k = 1) ∧ (up (zm Z) y 1 k ≠ 0 → up (zp Z) y (24 + y) k ≠ -1 ∧ rm (insZ t1 Z y) (tp t1 k) ≠ -1 ∧ wa (zw (insZ t1 Z y)) (up (zp Z) y (24 + y) k) = rm (insZ t1 Z y) (tp t1 k))
    have hk := tp_rng w1 k0 k1
    by_cases q : k = y
    · rw [q, up_s, up_s, hrm _ (by omega) hr]
      exact ⟨Or.inr rfl, fun _ => ⟨by omega, hr, was⟩⟩
    · rw [up_n _ _ q, up_n _ _ q]
      refine ⟨(h7 k k0 k1).1, fun z => ?_⟩
      have hm := (h7 k k0 k1).2 z
      rw [hrm _ (by omega) hm.2.1, wan _ (hq k k0 k1 hm.1)]
      exact hm
  · have q : x ≠ 24 + y := fun z => h8 x x0 x1 (by rw [z]; exact hab)
    rw [wan _ q]
    exact h8 x x0 x1
theorem ZI_upd {t0 t1 : TT} {Z : ZZ} (h : ZI t0 t1 Z) {x v : Int} (x0 : 0 ≤ x) (x1 : x < 48) (hx : wa (zw Z) x ≠ -1) (hv : 0 ≤ v ∧ v ≤ 99) : ZI t0 t1 (updZ Z x v) := by
  obtain ⟨h1, h2, h3, h4, h5, h6, h7, h8⟩ := h
  have hok : okS (zw Z) (0, x, 0, 0, 0, v, 0, 0, wv (zw Z) x) := ⟨⟨x0, x1⟩, Or.inl ⟨rfl, hx, rfl, hv⟩⟩
  have ew : zw (updZ Z x v) = valW (zw Z) x v := ap_0 (s := (0, x, 0, 0, 0, v, 0, 0, wv (zw Z) x)) rfl
  have ea : wa (zw (updZ Z x v)) = wa (zw Z) := by rw [ew]; rfl
  refine ⟨okZ_add h1 hok, wfW_ap h2 hok, rgW_ap h3 hok, fun k k0 k1 => by rw [ea]; exact h4 k k0 k1, h5, fun k k0 k1 e => by rw [ea]; exact h6 k k0 k1 e, fun k k0 k1 => by rw [ea]; exact h7 k k0 k1, fun z z0 z1 => by rw [ea]; exact h8 z z0 z1⟩
