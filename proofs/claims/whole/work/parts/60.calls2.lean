/-! the calls, second part -/
theorem rn_abs {t0 : TT} {Z : ZZ} (hZ : okZ (W0 t0) Z) : ∀ (k : Nat), k ≤ zn Z → ∀ x, tn t0 ≤ x → 0 ≤ x → x < 24 → wa (rn (zs Z) (W0 t0) k) x = -1
  | 0, _, x, a, b, c => if_neg (by omega)
  | k + 1, hk, x, a, b, c => by
    have ih := rn_abs hZ k (by omega) x a b c
    obtain ⟨hr, z | z | z | z⟩ := hZ.2 k (by omega)
    · show wa (ap _ (zs Z k)) x = -1
      rw [ap_0 z.1]; exact ih
    · show wa (ap _ (zs Z k)) x = -1
      have := z.2.2.2.2.2.2
      rw [ap_1 z.1, put_a, up_n _ _ (by omega)]; exact ih
    · show wa (ap _ (zs Z k)) x = -1
      have q : x ≠ sr (zs Z k) := fun e => z.2.1 (by rw [← e]; exact ih)
      rw [ap_2 z.1, put_a, up_n _ _ q, out_n _ q]; exact ih
    · show wa (ap _ (zs Z k)) x = -1
      have q : x ≠ sr (zs Z k) := fun e => z.2.1 (by rw [← e]; exact ih)
      rw [ap_3 z.1, out_n _ q]; exact ih
/-- the printed signs -/
def OC (b : OB) : Prop := ∀ i, 0 ≤ i → i < b.2 → 0 ≤ b.1 i ∧ b.1 i ≤ 200
theorem OC_emit {b : OB} {c : Int} (h : OC b) (hc : 0 ≤ c ∧ c ≤ 200) : OC (emit b c) := fun i i0 i1 => by
  have i1 : i < b.2 + 1 := i1
  show 0 ≤ up b.1 b.2 c i ∧ up b.1 b.2 c i ≤ 200
  by_cases q : i = b.2
  · rw [q, up_s]; exact hc
  · rw [up_n _ _ q]; exact h i i0 (by omega)
theorem OC_con {W : WW} {x : Int} {b : OB} (hl : 0 ≤ wl W x ∧ wl W x ≤ 7) (hv : 0 ≤ wv W x ∧ wv W x ≤ 99) (h : OC b) : OC (con W x b) := by
  have h1 := OC_emit (c := 97 + wl W x) h (by omega)
  have h2 : OC (con2 W x (emit b (97 + wl W x))) := by
    unfold con2
    by_cases q : 10 ≤ wv W x
    · rw [if_pos q]; exact OC_emit h1 (by omega)
    · rw [if_neg q]; exact h1
  unfold con con3
  by_cases q : 0 < wv W x
  · rw [if_pos q]; exact OC_emit h2 (by omega)
  · rw [if_neg q]; exact h2
theorem OC_EO {W : WW} {D : Int → Int} {e : Nat} {c : Int} {b : OB} (hg : rgW W) (hE : EO W D e c) (h : OC b) : OC (con W c b) := by
  have g := hg c hE.1.1 hE.1.2 hE.2.2.2.2.1.1.2.2
  exact OC_con g.1 g.2 h
theorem outO_oc {W : WW} (hg : rgW W) : OC (outO W) := by
  have main : ∀ (f e : Nat) (x : Int) (D : Int → Int) (b r : OB), PI W D e x → OC b → (frs W D x → po W f 0 x b = some r → OC r) ∧ (po W f 1 x b = some r → OC r) := by
    intro f
    induction f with
    | zero => intro e x D b r _ _; exact ⟨fun _ h => (nomatch h), fun h => (nomatch h)⟩
    | succ f ih =>
      intro e x D b r hP hb
      refine ⟨fun hf hp => ?_, fun hp => ?_⟩
      · by_cases q : chd W x 0 = -1
        · rw [po_0n q] at hp; exact (ih e x D b r hP hb).2 hp
        · rw [po_0y q] at hp
          have hE := PI_child hP hf q
          have hPE := EO_PI hE
          exact (ih (e + 1) _ _ _ r hPE.1 (OC_EO hg hE (OC_emit hb (by omega)))).1 hPE.2 hp
      · by_cases q : chd W (wa W x) (wp W x + 1) = -1
        · by_cases q2 : wa W x = 48
          · rw [po_1e q q2] at hp
            rw [← Option.some.inj hp]; exact hb
          · rw [po_1n q q2] at hp
            obtain ⟨e', he', hP'⟩ := PI_up hP q2
            exact (ih e' _ D _ r hP' (OC_emit hb (by omega))).2 hp
        · rw [po_1y q] at hp
          have hE := PI_next hP q
          have hPE := EO_PI hE
          exact (ih e _ _ _ r hPE.1 (OC_EO hg hE (OC_emit hb (by omega)))).1 hPE.2 hp
  have h0 : OC o0 := fun i a b => by have b : i < 0 := b; omega
  by_cases q : chd W 48 0 = -1
  · rw [outO_0 q]; exact h0
  · obtain ⟨f, hf⟩ := outO_1 q
    have hE := EO_0 q
    have hPE := EO_PI hE
    exact (main f 0 _ _ _ _ hPE.1 (OC_EO hg hE h0)).1 hPE.2 hf
section
variable {Λ : QLay} {T m : Nat} {ix : Nat → Nat} {S : QMem} {t0 t1 : TT} {l p : Int} {n : Nat} {o : OB}
theorem c_pairs (hs : SP Λ T m ix) (hi : IV Λ T m ix S t0 t1 l p n o) : w_TD_pairs Λ T S (fun r S1 => w_Mo_pairs Λ m S1 (fun r2 S2 => r = r2 ∧ Nxt Λ T m ix S2)) := by
  unfold w_TD_pairs
  refine s_TD_compare hs hi (fun S1 I1 _ hC _ _ => ?_)
  unfold w_Mo_pairs
  refine s_Mo_finds hs I1 (fun S2 I2 _ hX _ _ _ _ => ?_)
  rw [hC.2]
  have w0 := I2.2.2.1.2.2.1
  have w1 := I2.2.2.1.2.2.2
  have hP := matF_ok (least := l) (per := p) w0 w1
  have n0 := tn_rng w0
  have key : ∀ (f k : Nat), (k : Int) + f = tn t0 → w_Mo_pairs_8 Λ (fun r2 S2 => tn t0 - (cU (q0 (Pm_ t0 t1 l p)) (tn t0).toNat : Int) = r2 ∧ Nxt Λ T m ix S2) (f + 1) m ((k : Int) - (cU (q0 (Pm_ t0 t1 l p)) k : Int)) (k : Int) S2 := by
    intro f
    induction f with
    | zero =>
      intro k hk
      rw [w_Mo_pairs_8, I2.2.2.2.1.1.1.1]
      refine ⟨by unfold inR; omega, by unfold inR; omega, fun _ => ⟨?_, _, _, _, _, _, _, I2⟩, fun z => by omega⟩
      rw [show (tn t0).toNat = k by omega]; omega
    | succ f ih =>
      intro k hk
      have ihk := ih (k + 1) (by omega)
      have hr := hP.1 (k : Int) (by omega) (by omega)
      have hr : (q0 (Pm_ t0 t1 l p) (k : Int) = -1 ∧ qh (Pm_ t0 t1 l p) (k : Int) = -1) ∨ (0 ≤ q0 (Pm_ t0 t1 l p) (k : Int) ∧ q0 (Pm_ t0 t1 l p) (k : Int) < tn t1 ∧ _) := hr
      have e : (cU (q0 (Pm_ t0 t1 l p)) (k + 1) : Int) = (cU (q0 (Pm_ t0 t1 l p)) k : Int) + (if q0 (Pm_ t0 t1 l p) (k : Int) = -1 then 1 else 0) := by
        show ((cU (q0 (Pm_ t0 t1 l p)) k + (if q0 (Pm_ t0 t1 l p) (k : Int) = -1 then 1 else 0) : Nat) : Int) = _
        split <;> push_cast <;> omega
      have n1 := tn_rng w1
      rw [e, show ((k + 1 : Nat) : Int) = (k : Int) + 1 by omega] at ihk
      rw [w_Mo_pairs_8, I2.2.2.2.1.1.1.1, (hX (k : Int) (by omega) (by omega)).1]
      refine ⟨by unfold inR; omega, by unfold inR; omega, fun z => by omega, fun _ => ⟨by omega, by unfold inR; omega, fun z v hv => ?_, fun z v hv => ?_⟩⟩
      · rw [if_neg (by omega)] at ihk
        rw [hv, show (k : Int) - (cU (q0 (Pm_ t0 t1 l p)) k : Int) + 1 = (k : Int) + 1 - ((cU (q0 (Pm_ t0 t1 l p)) k : Int) + 0) by omega]
        exact ihk
      · rw [if_pos (by omega)] at ihk
        rw [hv, show (k : Int) - (cU (q0 (Pm_ t0 t1 l p)) k : Int) + 0 = (k : Int) + 1 - ((cU (q0 (Pm_ t0 t1 l p)) k : Int) + 1) by omega]
        exact ihk
  exact ⟨_, key (tn t0).toNat 0 (by omega)⟩
def on_ (v : Int) : Int := if v = -1 then -15 else v
theorem on_rng {v : Int} (h : -1 ≤ v ∧ v ≤ 100) : -15 ≤ on_ v ∧ on_ v ≤ 100 := by unfold on_; split <;> omega
theorem s_TD_orNone {v : Int} {Q : Int → QMem → Prop} (hv : inR v) (hq : Q (on_ v) S) : w_TD_orNone Λ v S Q := by
  unfold w_TD_orNone
  unfold on_ at hq
  exact ⟨hv, fun z => by rw [if_neg z] at hq; exact hq, fun z => by rw [if_pos z] at hq; exact hq⟩
theorem MOK_r {P : MM} (w0 : wfT t0) (w1 : wfT t1) (hP : MOK t0 t1 P) : (∀ x, 0 ≤ x → x < tn t0 → (-1 ≤ q0 P x ∧ q0 P x ≤ 24) ∧ (-1 ≤ qh P x ∧ qh P x ≤ 24)) ∧ (∀ y, 0 ≤ y → y < tn t1 → -1 ≤ q1 P y ∧ q1 P y ≤ 24) := by
  have n0 := tn_rng w0
  have n1 := tn_rng w1
  exact ⟨fun x a b => by rcases hP.1 x a b with z | z <;> omega, fun y a b => by rcases hP.2 y a b with z | z <;> omega⟩
theorem c_partner {x k : Int} (hs : SP Λ T m ix) (hx : inR x) (hk : inR k) (hi : IV Λ T m ix S t0 t1 l p n o) : w_TD_partner Λ T x k S (fun r S1 => w_Mo_partner Λ m x k S1 (fun r2 S2 => r = r2 ∧ Nxt Λ T m ix S2)) := by
  have w0 := hi.2.2.1.2.2.1
  have w1 := hi.2.2.1.2.2.2
  have n0 := tn_rng w0
  have n1 := tn_rng w1
  have hr := MOK_r w0 w1 (matF_ok (least := l) (per := p) w0 w1)
  unfold w_TD_partner
  refine s_TD_isNode hx hk hi (fun z k0 k1 => ⟨by unfold inR; omega, fun _ => ?_, fun y => by omega⟩) (fun z => ⟨by unfold inR; omega, fun y => absurd rfl y, fun _ => ?_⟩)
  · refine s_TD_compare hs hi (fun S1 I1 _ hC _ _ => ?_)
    have go : ∀ v, (x = 0 → v = on_ (q0 (Pm_ t0 t1 l p) k)) → (x = 1 → v = on_ (q1 (Pm_ t0 t1 l p) k)) → w_Mo_partner Λ m x k S1 (fun r2 S2 => v = r2 ∧ Nxt Λ T m ix S2) := fun v v0 v1 => by
      unfold w_Mo_partner
      refine s_Mo_isNode hx hk I1 (fun _ _ _ => ⟨by unfold inR; omega, fun _ => ?_, fun y => by omega⟩) (fun y => absurd ⟨z, k0, k1⟩ y)
      refine s_Mo_finds hs I1 (fun S2 I2 _ hX _ _ _ _ => ?_)
      have nx : Nxt Λ T m ix S2 := ⟨_, _, _, _, _, _, I2⟩
      have last : ∀ u, -1 ≤ u ∧ u ≤ 24 → v = on_ u → w_Mo_partner_35 Λ (fun r2 S2 => v = r2 ∧ Nxt Λ T m ix S2) u S2 := fun u hu e => by
        unfold w_Mo_partner_35
        unfold on_ at e
        exact ⟨by unfold inR; omega, fun y => ⟨by rw [if_neg (by omega)] at e; exact e, nx⟩, fun y => ⟨by rw [if_pos (by omega)] at e; exact e, nx⟩⟩
      refine ⟨hx, fun y => ?_, fun y => ?_⟩
      · have e1 : x = 1 := by omega
        have k1' : k < tn t1 := by rw [e1] at k1; exact k1
        rw [(hX k k0 (by omega)).2.1]
        exact ⟨by omega, last _ (hr.2 k k0 k1') (v1 e1)⟩
      · have k1' : k < tn t0 := by rw [y] at k1; exact k1
        rw [(hX k k0 (by omega)).1]
        exact ⟨by omega, last _ (hr.1 k k0 k1').1 (v0 y)⟩
    unfold w_TD_partner_41
    refine ⟨hx, fun y => ?_, fun y => ?_⟩
    · have e1 : x = 1 := by omega
      have k1' : k < tn t1 := by rw [e1] at k1; exact k1
      have hq := hr.2 k k0 k1'
      have hq : -1 ≤ q1 (Pm_ t0 t1 l p) k ∧ q1 (Pm_ t0 t1 l p) k ≤ 24 := hq
      rw [(hC.1 k k0 (by omega)).2.1]
      exact ⟨by omega, s_TD_orNone (by unfold inR; omega) (go _ (fun q => by omega) (fun _ => rfl))⟩
    · have k1' : k < tn t0 := by rw [y] at k1; exact k1
      have hq : -1 ≤ q0 (Pm_ t0 t1 l p) k ∧ q0 (Pm_ t0 t1 l p) k ≤ 24 := (hr.1 k k0 k1').1
      rw [(hC.1 k k0 (by omega)).1]
      exact ⟨by omega, s_TD_orNone (by unfold inR; omega) (go _ (fun _ => rfl) (fun q => by omega))⟩
  · unfold w_Mo_partner
    exact s_Mo_isNode hx hk hi (fun a b c => absurd ⟨a, b, c⟩ z) (fun _ => ⟨by unfold inR; omega, fun y => absurd rfl y, fun _ => ⟨rfl, _, _, _, _, _, _, hi⟩⟩)
theorem c_phase {k : Int} (hs : SP Λ T m ix) (hk : inR k) (hi : IV Λ T m ix S t0 t1 l p n o) : w_TD_phase Λ T k S (fun r S1 => w_Mo_phase Λ m k S1 (fun r2 S2 => r = r2 ∧ Nxt Λ T m ix S2)) := by
  have w0 := hi.2.2.1.2.2.1
  have w1 := hi.2.2.1.2.2.2
  have n0 := tn_rng w0
  have z0 : inR (0 : Int) := by unfold inR; omega
  have hr := MOK_r w0 w1 (matF_ok (least := l) (per := p) w0 w1)
  unfold w_TD_phase
  refine s_TD_isNode z0 hk hi (fun z k0 k1 => ⟨by unfold inR; omega, fun _ => ?_, fun y => by omega⟩) (fun z => ⟨by unfold inR; omega, fun y => absurd rfl y, fun _ => ?_⟩)
  · have k1 : k < tn t0 := k1
    refine s_TD_compare hs hi (fun S1 I1 _ hC _ _ => ?_)
    have hq : -1 ≤ qh (Pm_ t0 t1 l p) k ∧ qh (Pm_ t0 t1 l p) k ≤ 24 := (hr.1 k k0 k1).2
    rw [(hC.1 k k0 (by omega)).2.2]
    refine ⟨by omega, s_TD_orNone (by unfold inR; omega) ?_⟩
    unfold w_Mo_phase
    refine s_Mo_isNode z0 hk I1 (fun _ _ _ => ⟨by unfold inR; omega, fun _ => ?_, fun y => by omega⟩) (fun y => absurd ⟨Or.inl rfl, k0, k1⟩ y)
    refine s_Mo_finds hs I1 (fun S2 I2 _ hX _ _ _ _ => ?_)
    rw [(hX k k0 (by omega)).2.2]
    exact ⟨by omega, rfl, _, _, _, _, _, _, I2⟩
  · unfold w_Mo_phase
    exact s_Mo_isNode z0 hk hi (fun a b c => absurd ⟨a, b, c⟩ z) (fun _ => ⟨by unfold inR; omega, fun y => absurd rfl y, fun _ => ⟨rfl, _, _, _, _, _, _, hi⟩⟩)
theorem c_likeness {x y : Int} (hs : SP Λ T m ix) (hx : inR x) (hy : inR y) (hi : IV Λ T m ix S t0 t1 l p n o) : w_TD_likeness Λ T x y S (fun r S1 => w_Mo_likeness Λ m x y S1 (fun r2 S2 => r = r2 ∧ Nxt Λ T m ix S2)) := by
  have nx : Nxt Λ T m ix S := ⟨_, _, _, _, _, _, hi⟩
  have w0 := hi.2.2.1.2.2.1
  have w1 := hi.2.2.1.2.2.2
  have n0 := tn_rng w0
  have n1 := tn_rng w1
  have z0 : inR (0 : Int) := by unfold inR; omega
  have z1 : inR (1 : Int) := by unfold inR; omega
  have hP := matF_ok (least := l) (per := p) w0 w1
  unfold w_TD_likeness
  refine s_TD_isNode z0 hx hi (fun _ x0 x1 => ⟨z1, fun w => by omega, fun _ => ?_⟩) (fun w => ⟨z0, fun _ => ?_, fun q => absurd rfl q⟩)
  · have x1 : x < tn t0 := x1
    refine s_TD_isNode z1 hy hi (fun _ y0 y1 => ⟨z1, fun _ => ?_, fun w => by omega⟩) (fun w => ⟨z0, fun q => absurd rfl q, fun _ => ?_⟩)
    · have y1 : y < tn t1 := y1
      have sr' := sm_rng (x := x) (y := y) w0 w1 x0 x1 y0 y1
      have cr := cm_rng (t1 := t1) (P := Pm_ t0 t1 l p) (y := y) w0 x0 x1
      refine s_TD_compare hs hi (fun S1 I1 _ hC _ _ => ?_)
      intro a ha
      refine ⟨by omega, ?_⟩
      intro b hb
      refine ⟨by omega, ?_⟩
      intro su hsu
      have es : su = sm t0 t1 x y := by
        rw [hsu, ha, hb, (I1.2.2.1.1.2.1 x x0 x1).2.2.2.2.2.2.1, (I1.2.2.1.2.1.2.1 y y0 y1).2.2.2.2.2.2.1]; rfl
      have go : ∀ v, (sm t0 t1 x y = 0 → v = 0) → (¬ sm t0 t1 x y = 0 → v = 200 * cm t0 t1 (Pm_ t0 t1 l p) x y / sm t0 t1 x y) → w_Mo_likeness Λ m x y S1 (fun r2 S2 => v = r2 ∧ Nxt Λ T m ix S2) := fun v v0 v1 => by
        unfold w_Mo_likeness
        refine s_Mo_isNode z0 hx I1 (fun _ _ _ => ⟨z1, fun w => by omega, fun _ => s_Mo_isNode z1 hy I1 (fun _ _ _ => ⟨z1, fun _ => ?_, fun w => by omega⟩) (fun w => absurd ⟨Or.inr rfl, y0, y1⟩ w)⟩) (fun w => absurd ⟨Or.inl rfl, x0, x1⟩ w)
        refine s_Mo_finds hs I1 (fun S2 I2 _ hX _ _ _ _ => ?_)
        have nx2 : Nxt Λ T m ix S2 := ⟨_, _, _, _, _, _, I2⟩
        refine s_Mo_both I2.2.2.2.1 x0 x1 y0 y1 ⟨by unfold inR; omega, fun w => ?_, fun w => ⟨v0 w, nx2⟩⟩
        refine s_Mo_common I2.2.2.2.1 hX hP x0 x1 y0 y1 ⟨⟨by omega, by unfold inR; omega⟩, ⟨by omega, by unfold inR; omega⟩, v1 w, nx2⟩
      rw [es]
      refine ⟨by unfold inR; omega, fun w => ?_, fun w => go 0 (fun _ => rfl) (fun q => absurd w q)⟩
      exact s_Ma_commonBelow I1.2.2.1 hC hP x0 x1 y0 y1 ⟨⟨by omega, by unfold inR; omega⟩, ⟨by omega, by unfold inR; omega⟩, go _ (fun q => absurd q w) (fun _ => rfl)⟩
    · unfold w_Mo_likeness
      exact s_Mo_isNode z0 hx hi (fun _ _ _ => ⟨z1, fun w => by omega, fun _ => s_Mo_isNode z1 hy hi (fun a b c => absurd ⟨a, b, c⟩ w) (fun _ => ⟨z0, fun q => absurd rfl q, fun _ => ⟨rfl, nx⟩⟩)⟩) (fun q => absurd ⟨Or.inl rfl, x0, x1⟩ q)
  · unfold w_Mo_likeness
    exact s_Mo_isNode z0 hx hi (fun a b c => absurd ⟨a, b, c⟩ w) (fun _ => ⟨z0, fun _ => ⟨rfl, nx⟩, fun q => absurd rfl q⟩)
theorem c_steps (hs : SP Λ T m ix) (hi : IV Λ T m ix S t0 t1 l p n o) : w_TD_steps Λ T S (fun r S1 => w_Mo_steps Λ m S1 (fun r2 S2 => r = r2 ∧ Nxt Λ T m ix S2)) := by
  unfold w_TD_steps
  refine s_TD_compare hs hi (fun S1 I1 _ _ hZ _ => ?_)
  unfold w_Mo_steps
  refine s_Mo_finds hs I1 (fun S2 I2 _ _ h31 _ _ _ => ?_)
  rw [hZ.2.1, h31]
  exact ⟨rfl, _, _, _, _, _, _, I2⟩
theorem c_step {k w : Int} (hs : SP Λ T m ix) (hk : inR k) (hw : inR w) (hi : IV Λ T m ix S t0 t1 l p n o) : w_TD_step Λ T k w S (fun r S1 => w_Mo_step Λ m k w S1 (fun r2 S2 => r = r2 ∧ Nxt Λ T m ix S2)) := by
  have w0 := hi.2.2.1.2.2.1
  have w1 := hi.2.2.1.2.2.2
  have hz := Zs_ok (l := l) (p := p) w0 w1
  have z5 : inR (5 : Int) := by unfold inR; omega
  have z0 : inR (0 : Int) := by unfold inR; omega
  unfold w_TD_step
  refine s_TD_compare hs hi (fun S1 I1 _ _ hZ _ => ?_)
  have bad : ¬ (0 ≤ k ∧ k < (zn (Zs_ t0 t1 l p) : Int)) → w_Mo_step Λ m k w S1 (fun r2 S2 => -11 = r2 ∧ Nxt Λ T m ix S2) := fun h => by
    unfold w_Mo_step
    refine s_Mo_finds hs I1 (fun S2 I2 _ _ h31 _ _ _ => ?_)
    rw [h31]
    exact s_Mo_in hk z0 (by unfold inR; omega) (fun z => by omega) (fun _ => ⟨z0, fun q => absurd rfl q, fun _ => ⟨rfl, _, _, _, _, _, _, I2⟩⟩)
  rw [hZ.2.1]
  refine ⟨hk, fun z => bad (by omega), fun z => ⟨hk, by unfold inR; omega, fun z2 => ⟨by omega, ?_⟩, fun z2 => bad (by omega)⟩⟩
  have ek : ((k.toNat : Nat) : Int) = k := by omega
  have cs := hZ.2.2.1 k.toNat (by omega)
  rw [ek] at cs
  have okk := hz.1.2 k.toNat (by omega)
  have wfk := (okZ_wf (wfW_W0 w0) (rgW_W0 w0) hz.1 k.toNat (by omega)).1
  have go : ∀ v, (0 ≤ w → w ≤ 5 → v = tl6 (zs (Zs_ t0 t1 l p) k.toNat) w) → (¬ (0 ≤ w ∧ w ≤ 5) → v = -12) → w_Mo_step Λ m k w S1 (fun r2 S2 => v = r2 ∧ Nxt Λ T m ix S2) := fun v v1 v0 => by
    unfold w_Mo_step
    refine s_Mo_finds hs I1 (fun S2 I2 _ _ h31 hst _ _ => ?_)
    have nx2 : Nxt Λ T m ix S2 := ⟨_, _, _, _, _, _, I2⟩
    rw [h31]
    refine s_Mo_in hk z0 (by unfold inR; omega) (fun _ => ⟨by unfold inR; omega, fun _ => ?_, fun q => by omega⟩) (fun q => by omega)
    refine s_Mo_in hw z0 z5 (fun q => ⟨by unfold inR; omega, fun y => by omega, fun _ => ⟨by omega, ?_⟩⟩) (fun q => ⟨z0, fun _ => ⟨v0 q, nx2⟩, fun y => absurd rfl y⟩)
    have := hst k.toNat (by omega) w q.1 (by omega)
    rw [ek] at this
    rw [this]
    exact ⟨v1 q.1 q.2, nx2⟩
  exact s_Sp_tell cs wfk okk hw (fun a b => go _ (fun _ _ => rfl) (fun q => absurd ⟨a, b⟩ q)) (fun q => go _ (fun a b => absurd ⟨a, b⟩ q) (fun _ => rfl))
def ctS (st : Nat → ST) (kd : Int) : Nat → Int
  | 0 => 0
  | k + 1 => ctS st kd k + (if sk (st k) = kd then 1 else 0)
theorem c_count {k : Int} (hs : SP Λ T m ix) (hk : inR k) (hi : IV Λ T m ix S t0 t1 l p n o) : w_TD_count Λ T k S (fun r S1 => w_Mo_count Λ m k S1 (fun r2 S2 => r = r2 ∧ Nxt Λ T m ix S2)) := by
  have w0 := hi.2.2.1.2.2.1
  have w1 := hi.2.2.1.2.2.2
  have hz := Zs_ok (l := l) (p := p) w0 w1
  have z0 : inR (0 : Int) := by unfold inR; omega
  have z3 : inR (3 : Int) := by unfold inR; omega
  have bad : ¬ (0 ≤ k ∧ k ≤ 3) → w_Mo_count Λ m k S (fun r2 S2 => -12 = r2 ∧ Nxt Λ T m ix S2) := fun h => by
    unfold w_Mo_count
    exact s_Mo_in hk z0 z3 (fun z => absurd z h) (fun _ => ⟨z0, fun q => absurd rfl q, fun _ => ⟨rfl, _, _, _, _, _, _, hi⟩⟩)
  have skr : ∀ i, i < zn (Zs_ t0 t1 l p) → 0 ≤ sk (zs (Zs_ t0 t1 l p) i) ∧ sk (zs (Zs_ t0 t1 l p) i) ≤ 3 := fun i h => (okS_rng (okZ_wf (wfW_W0 w0) (rgW_W0 w0) hz.1 i (by omega)).1 (hz.1.2 i h)).1
  unfold w_TD_count
  refine ⟨hk, fun z => bad (by omega), fun z => ⟨hk, fun z2 => ?_, fun z2 => bad (by omega)⟩⟩
  refine s_TD_compare hs hi (fun S1 I1 _ _ hZ _ => ?_)
  have modl : w_Mo_count Λ m k S1 (fun r2 S2 => ctS (zs (Zs_ t0 t1 l p)) k (zn (Zs_ t0 t1 l p)) = r2 ∧ Nxt Λ T m ix S2) := by
    unfold w_Mo_count
    refine s_Mo_in hk z0 z3 (fun _ => ⟨by unfold inR; omega, fun _ => ?_, fun q => by omega⟩) (fun q => by omega)
    refine s_Mo_finds hs I1 (fun S2 I2 _ _ h31 hst _ _ => ?_)
    have key : ∀ (f i : Nat), i + f = zn (Zs_ t0 t1 l p) → w_Mo_count_20 Λ (fun r2 S2 => ctS (zs (Zs_ t0 t1 l p)) k (zn (Zs_ t0 t1 l p)) = r2 ∧ Nxt Λ T m ix S2) (f + 1) m k (ctS (zs (Zs_ t0 t1 l p)) k i) (i : Int) S2 := by
      intro f
      induction f with
      | zero =>
        intro i hii
        rw [w_Mo_count_20, h31]
        refine ⟨by unfold inR; omega, by unfold inR; omega, fun _ => ⟨?_, _, _, _, _, _, _, I2⟩, fun q => by omega⟩
        rw [show zn (Zs_ t0 t1 l p) = i by omega]
      | succ f ih =>
        intro i hii
        have ihk := ih (i + 1) (by omega)
        have e : ctS (zs (Zs_ t0 t1 l p)) k (i + 1) = ctS (zs (Zs_ t0 t1 l p)) k i + (if sk (zs (Zs_ t0 t1 l p) i) = k then 1 else 0) := rfl
        rw [e, show ((i + 1 : Nat) : Int) = (i : Int) + 1 by omega] at ihk
        have r0 := hst i (by omega) 0 (by omega) (by omega)
        rw [Int.add_zero] at r0
        have r0 : S2.1 m 30 (6 * (i : Int)) = sk (zs (Zs_ t0 t1 l p) i) := r0
        have sr' := skr i (by omega)
        rw [w_Mo_count_20, h31, r0]
        refine ⟨by unfold inR; omega, by unfold inR; omega, fun q => by omega, fun _ => ⟨by omega, by unfold inR; omega, hk, fun q v hv => ?_, fun q v hv => ?_⟩⟩
        · rw [if_neg q] at ihk; rw [hv]; exact ihk
        · rw [if_pos q] at ihk; rw [hv]; exact ihk
    exact ⟨_, key (zn (Zs_ t0 t1 l p)) 0 (by omega)⟩
  have key : ∀ (f i : Nat), i + f = zn (Zs_ t0 t1 l p) → w_TD_count_20 Λ (fun r S1 => w_Mo_count Λ m k S1 (fun r2 S2 => r = r2 ∧ Nxt Λ T m ix S2)) (f + 1) T k (ctS (zs (Zs_ t0 t1 l p)) k i) (i : Int) S1 := by
    intro f
    induction f with
    | zero =>
      intro i hii
      rw [w_TD_count_20, hZ.2.1]
      refine ⟨by unfold inR; omega, by unfold inR; omega, fun _ => ?_, fun q => by omega⟩
      rw [show i = zn (Zs_ t0 t1 l p) by omega]
      exact modl
    | succ f ih =>
      intro i hii
      have ihk := ih (i + 1) (by omega)
      have e : ctS (zs (Zs_ t0 t1 l p)) k (i + 1) = ctS (zs (Zs_ t0 t1 l p)) k i + (if sk (zs (Zs_ t0 t1 l p) i) = k then 1 else 0) := rfl
      rw [e, show ((i + 1 : Nat) : Int) = (i : Int) + 1 by omega] at ihk
      have sr' := skr i (by omega)
      rw [w_TD_count_20, hZ.2.1, (hZ.2.2.1 i (by omega)).1.1]
      refine ⟨by unfold inR; omega, by unfold inR; omega, fun q => by omega, fun _ => ⟨by omega, by unfold inR; omega, hk, fun q => ?_, fun q => ?_⟩⟩
      · rw [if_neg q, Int.add_zero] at ihk; exact ihk
      · rw [if_pos q] at ihk; exact ihk
  exact ⟨_, key (zn (Zs_ t0 t1 l p)) 0 (by omega)⟩
def PDc (k f : Nat) : Prop := k = 8 ∨ (k = 0 ∧ f = 12)
/-- the class's distance, for one who goes on -/
theorem s_TD_distance {Q : Int → QMem → Prop} (hs : SP Λ T m ix) (hi : IV Λ T m ix S t0 t1 l p n o) (hq : ∀ d S', IV Λ T m ix S' t0 t1 l p n o → isDist t0 t1 d → KI ix PDc S S' → Q d S') : w_TD_distance Λ T S Q := by
  have hss := hs
  obtain ⟨a0, a1, a2, a3, a4, a5, a6, a7, a8, a9, a10, a11, a12, a13, a14, a15⟩ := hs
  have w0 := hi.2.2.1.2.2.1
  have w1 := hi.2.2.1.2.2.2
  have n0 := tn_rng w0
  have n1 := tn_rng w1
  have hdr : ∀ d, isDist t0 t1 d → 0 ≤ d ∧ d ≤ 48 := fun d h => by have := isD_le h; have := h.2; omega
  unfold w_TD_distance
  have hd := hi.2.2.2.2.2.2.2.2.2.2.1
  by_cases q : S.1 T 12 0 = -1
  · rw [q]
    refine ⟨by unfold inR; omega, fun z => absurd rfl z, fun _ => ?_⟩
    obtain ⟨r0, r1, _⟩ := iTR_r hi.2.1
    refine s_ED_compute hi.2.2.1 (fun e => by rw [e, a8] at r0; omega) (fun e => by rw [e, a8] at r1; omega) (fun d S1 hk1 hD => ?_)
    intro S2 e2
    have K1 := kiO a8 hk1
    have K2 := ki1 a0 e2
    have KA : KI ix PDc S S2 := (K1.mono (fun k f y => Or.inl y)).tr (K2.mono (fun k f y => Or.inr y))
    have r2 : S2.1 T 12 0 = d := by rw [e2]; simp [q_st]
    rw [r2]
    obtain ⟨i1, i2, i3, i4, i5, i6, i7, i8, i9, i10, i11, i12⟩ := hi
    refine hq d S2 ⟨iTX_sg hss (KA.sg (fun k f i y => by unfold RTX at y; unfold PDc; omega)) i1, iTR_sg KA.1 i2, WC_sg i2 (KA.sg (fun k f i y => by unfold RTC at y; unfold PDc; omega)) i3, WM_sg a1 (KA.sg (fun k f i y => by unfold RTM at y; unfold PDc; omega)) i4, iLP_sg hss (KA.sg (fun k f i y => by unfold RLP at y; unfold PDc; omega)) i5, ⟨iSV_sg (Or.inl rfl) hss i2 (KA.sg (fun k f i y => by unfold RSV at y; unfold PDc; omega)) i6.1, iSV_sg (Or.inr rfl) hss i2 (KA.sg (fun k f i y => by unfold RSV at y; unfold PDc; omega)) i6.2⟩, iRG_sg a1 (KA.sg (fun k f i y => by unfold RRG at y; unfold PDc; omega)) i7, iAC_sg hss w0 w1 (KA.sg (fun k f i y => by unfold RAC at y; unfold PDc; omega)) i8, iAM_sg a1 (KA.sg (fun k f i y => by unfold RAM at y; unfold PDc; omega)) i9, iWK_sg hss (KA.sg (fun k f i y => by unfold RWK at y; unfold PDc; omega)) i10, Or.inr (by rw [r2]; exact hD), iOU_sg hss (KA.sg (fun k f i y => by unfold ROU at y; unfold PDc; omega)) i12⟩ hD KA
  · have hD := hd.resolve_left q
    have := hdr _ hD
    exact ⟨by unfold inR; omega, fun _ => hq _ S hi hD KI.rf, fun z => absurd z q⟩
theorem c_distance (hs : SP Λ T m ix) (hi : IV Λ T m ix S t0 t1 l p n o) : w_TD_distance Λ T S (fun r S1 => w_Mo_distance Λ m S1 (fun r2 S2 => r = r2 ∧ Nxt Λ T m ix S2)) := by
  refine s_TD_distance hs hi (fun d S1 I1 hD _ => ?_)
  refine s_Mo_distance I1.2.2.2.1 (fun d' S2 hk2 hu _ => ⟨(hu d hD).symm, _, _, _, _, _, _, IV_nr hs ((kiM hs.2.1 hk2).mono (fun k f y => by unfold NR; omega)) I1⟩)
def PSt (k f : Nat) : Prop := k = 9 ∨ (k = 0 ∧ f = 13) ∨ (k = 1 ∧ (f = 6 ∨ (25 ≤ f ∧ f ≤ 29)))
/-- the working tree goes to another step -/
theorem IV_step {S' : QMem} {n' : Nat} (hs : SP Λ T m ix) (hi : IV Λ T m ix S t0 t1 l p n o) (K : KI ix PSt S S') (h20 : S.1 m 20 0 = 1) (hn : n' ≤ zn (Zs_ t0 t1 l p)) (h13 : S'.1 T 13 0 = (n' : Int)) (h6 : S'.1 m 6 0 = (n' : Int)) (hC : CW S' (yR Λ T 7 0) (Wn_ t0 t1 l p n')) (hL : CL S' (yR Λ T 7 0) (Wn_ t0 t1 l p n') (tn t0)) (hM : MW S' m (Wn_ t0 t1 l p n')) : IV Λ T m ix S' t0 t1 l p n' o := by
  have hss := hs
  obtain ⟨a0, a1, _⟩ := hs
  obtain ⟨i1, i2, i3, i4, i5, i6, i7, i8, i9, i10, i11, i12⟩ := hi
  have g20 : S'.1 m 20 0 = 1 := by rw [K.at a1 (by unfold PSt; omega)]; exact h20
  refine ⟨iTX_sg hss (K.sg (fun k f i y => by unfold RTX at y; unfold PSt; omega)) i1, iTR_sg K.1 i2, WC_sg i2 (K.sg (fun k f i y => by unfold RTC at y; unfold PSt; omega)) i3, WM_sg a1 (K.sg (fun k f i y => by unfold RTM at y; unfold PSt; omega)) i4, iLP_sg hss (K.sg (fun k f i y => by unfold RLP at y; unfold PSt; omega)) i5, ⟨iSV_sg (Or.inl rfl) hss i2 (K.sg (fun k f i y => by unfold RSV at y; unfold PSt; omega)) i6.1, iSV_sg (Or.inr rfl) hss i2 (K.sg (fun k f i y => by unfold RSV at y; unfold PSt; omega)) i6.2⟩, iRG_sg a1 (K.sg (fun k f i y => by unfold RRG at y; unfold PSt; omega)) i7, iAC_sg hss i3.2.2.1 i3.2.2.2 (K.sg (fun k f i y => by unfold RAC at y; unfold PSt; omega)) i8, ?_, ⟨h13, h6, hn, hC, hL, fun y => by omega⟩, iDI_sg a0 (K.sg (fun k f i y => by unfold RDI at y; unfold PSt; omega)) i11, iOU_sg hss (K.sg (fun k f i y => by unfold ROU at y; unfold PSt; omega)) i12⟩
  rcases i9 with z | ⟨z1, z2, z3, z4, z5⟩
  · omega
  · have e : ∀ f i, (20 ≤ f ∧ f ≤ 23) ∨ f = 30 ∨ f = 31 → S'.1 m f i = S.1 m f i := fun f i hf => K.at a1 (by unfold PSt; omega)
    refine Or.inr ⟨g20, fun i i0 i1' => ?_, by rw [e 31 0 (by omega)]; exact z3, fun i hi' j j0 j1 => ?_, hM⟩
    · rw [e 21 i (by omega), e 22 i (by omega), e 23 i (by omega)]; exact z2 i i0 i1'
    · rw [e 30 _ (by omega)]; exact z4 i hi' j j0 j1
theorem CL_W0 {wt : Nat} (hC : CW S wt (W0 t0)) (w0 : wfT t0) : CL S wt (W0 t0) (tn t0) := fun x x0 x1 => by
  have n0 := tn_rng w0
  have e : wa (W0 t0) x = pu t0 x := if_pos ⟨x0, x1⟩
  have := pu_rng w0 x0 x1
  have h := (hC x x0 (by omega)).2 (by omega)
  exact ⟨h.2.1, h.2.2⟩
/-- the reference finds its answers, whatever the class did -/
theorem s_Mo_findsC {S1 : QMem} {Q : QMem → Prop} (a1 : ix m = 1) (hi : IV Λ T m ix S t0 t1 l p n o) (K : Sg ix (fun k _ _ => k = 1) S S1)
    (hq : ∀ S', KI ix PFi S1 S' → S'.1 m 20 0 = 1 → MX S' m (Pm_ t0 t1 l p) → S'.1 m 31 0 = (zn (Zs_ t0 t1 l p) : Int) → (∀ i : Nat, i < zn (Zs_ t0 t1 l p) → MSt S' m (i : Int) (zs (Zs_ t0 t1 l p) i)) → MW S' m (Wn_ t0 t1 l p n) → S'.1 m 6 0 = (n : Int) → WM m S' t0 t1 → Q S') : w_Mo_finds Λ m S1 Q := by
  obtain ⟨i1, i2, i3, i4, i5, i6, i7, i8, i9, i10, i11, i12⟩ := hi
  have w0 := i3.2.2.1
  have w1 := i3.2.2.2
  have hP := matF_ok (least := l) (per := p) w0 w1
  have hzs := Zs_ok (l := l) (p := p) w0 w1
  have e : ∀ f i, S1.1 m f i = S.1 m f i := fun f i => K.2 m f i a1
  have W0' : WM m S1 t0 t1 := WM_sg a1 (K.mono (fun k f i y => y.1)) i4
  have A1 : iAM m S1 t0 t1 l p n := iAM_sg a1 (K.mono (fun k f i y => y.1)) i9
  unfold w_Mo_finds
  rcases A1 with z | ⟨z1, z2, z3, z4, z5⟩
  · rw [z]
    refine ⟨by unfold inR; omega, fun _ => ?_, fun w => absurd rfl w⟩
    have n0 := i10.2.2.2.2.2 (by rw [← e 20 0]; exact z)
    refine s_Mo_matches (least := l) (per := p) W0' (by rw [e]; exact i5.1.2.1) i5.1.2.2 (by rw [e]; exact i5.2.2.1) i5.2.2.2 (fun S2 hk2 hX2 _ => ?_)
    have K2 := kiM a1 hk2
    have W2 := WM_kp hk2 Pmt_n W0'
    refine s_Mo_writes W2 hX2 hP (fun S3 hk3 hZ3 => ?_)
    have K3 := kiM a1 hk3
    intro S4 e4
    have k4 : Kp (fun o f => o = m ∧ f = 20) S3 S4 := by rw [e4]; exact Kp.rf.st ⟨rfl, rfl⟩
    have K4 := kiM a1 k4
    have W4 : WM m S4 t0 t1 := WM_kp k4 (fun f hf y => by have := y.2; omega) (WM_kp hk3 Pmo_n W2)
    have e6 : S4.1 m 6 0 = ((0 : Nat) : Int) := by
      rw [k4.at (by omega), hk3.at (fun y => by have := y.2; omega), hk2.at (fun y => by have := y.2; omega), e, i10.2.1, n0]
    rw [e6]
    refine s_Mo_goesTo (Z := Zs_ t0 t1 l p) W4.1 w0 hzs.1 (fun i hi => MSt_kp k4 (by omega) (hZ3.2.2.1 i hi)) (Nat.zero_le _) hzs.2 (fun S5 hk5 hM5 h65 => ?_)
    have K5 := kiM a1 hk5
    refine hq S5 ((((K2.mono (fun k f y => by unfold PFi; omega)).tr (K3.mono (fun k f y => by unfold PFi; omega))).tr (K4.mono (fun k f y => by unfold PFi; omega))).tr (K5.mono (fun k f y => by unfold PFi; omega))) (by rw [hk5.at (by omega), e4]; simp [q_st]) (fun i i0 i1' => ?_) (by rw [hk5.at (by omega), k4.at (by omega)]; exact hZ3.2.1) (fun i hi => MSt_kp hk5 (by omega) (MSt_kp k4 (by omega) (hZ3.2.2.1 i hi))) (by rw [n0]; exact hM5) (by rw [h65, n0]) (WM_kp hk5 (fun f hf y => by have := y.2; omega) W4)
    rw [hk5.at (by omega), hk5.at (by omega), hk5.at (by omega), k4.at (by omega), k4.at (by omega), k4.at (by omega), hk3.at (by omega), hk3.at (by omega), hk3.at (by omega)]
    exact hX2 i i0 i1'
  · rw [z1]
    exact ⟨by unfold inR; omega, fun w => by omega, fun _ => hq S1 KI.rf z1 z2 z3 z4 z5 (by rw [e]; exact i10.2.1) W0'⟩
def PSF (k f : Nat) : Prop := k = 9 ∨ (k = 0 ∧ f = 13) ∨ (k = 1 ∧ (f = 6 ∨ f = 14 ∨ f = 15 ∨ (20 ≤ f ∧ f ≤ 36)))
theorem IV_step2 {S' : QMem} {n' : Nat} (hs : SP Λ T m ix) (hi : IV Λ T m ix S t0 t1 l p n o) (K : KI ix PSF S S') (h20 : S'.1 m 20 0 = 1) (hX : MX S' m (Pm_ t0 t1 l p)) (h31 : S'.1 m 31 0 = (zn (Zs_ t0 t1 l p) : Int)) (hst : ∀ i : Nat, i < zn (Zs_ t0 t1 l p) → MSt S' m (i : Int) (zs (Zs_ t0 t1 l p) i)) (hn : n' ≤ zn (Zs_ t0 t1 l p)) (h13 : S'.1 T 13 0 = (n' : Int)) (h6 : S'.1 m 6 0 = (n' : Int)) (hC : CW S' (yR Λ T 7 0) (Wn_ t0 t1 l p n')) (hL : CL S' (yR Λ T 7 0) (Wn_ t0 t1 l p n') (tn t0)) (hM : MW S' m (Wn_ t0 t1 l p n')) : IV Λ T m ix S' t0 t1 l p n' o := by
  have hss := hs
  obtain ⟨a0, a1, _⟩ := hs
  obtain ⟨i1, i2, i3, i4, i5, i6, i7, i8, i9, i10, i11, i12⟩ := hi
  exact ⟨iTX_sg hss (K.sg (fun k f i y => by unfold RTX at y; unfold PSF; omega)) i1, iTR_sg K.1 i2, WC_sg i2 (K.sg (fun k f i y => by unfold RTC at y; unfold PSF; omega)) i3, WM_sg a1 (K.sg (fun k f i y => by unfold RTM at y; unfold PSF; omega)) i4, iLP_sg hss (K.sg (fun k f i y => by unfold RLP at y; unfold PSF; omega)) i5, ⟨iSV_sg (Or.inl rfl) hss i2 (K.sg (fun k f i y => by unfold RSV at y; unfold PSF; omega)) i6.1, iSV_sg (Or.inr rfl) hss i2 (K.sg (fun k f i y => by unfold RSV at y; unfold PSF; omega)) i6.2⟩, iRG_sg a1 (K.sg (fun k f i y => by unfold RRG at y; unfold PSF; omega)) i7, iAC_sg hss i3.2.2.1 i3.2.2.2 (K.sg (fun k f i y => by unfold RAC at y; unfold PSF; omega)) i8, Or.inr ⟨h20, hX, h31, hst, hM⟩, ⟨h13, h6, hn, hC, hL, fun y => by omega⟩, iDI_sg a0 (K.sg (fun k f i y => by unfold RDI at y; unfold PSF; omega)) i11, iOU_sg hss (K.sg (fun k f i y => by unfold ROU at y; unfold PSF; omega)) i12⟩
/-- the class has gone to step n', the reference goes there too -/
theorem c_goes {S1 : QMem} {n' : Nat} {v : Int} {Q : QMem → Prop} (hs : SP Λ T m ix) (hi : IV Λ T m ix S t0 t1 l p n o) (K : KI ix (fun k f => k = 9 ∨ (k = 0 ∧ f = 13)) S S1) (h13 : S1.1 T 13 0 = (n' : Int)) (hn : n' ≤ zn (Zs_ t0 t1 l p)) (hC : CW S1 (yR Λ T 7 0) (Wn_ t0 t1 l p n')) (hL : CL S1 (yR Λ T 7 0) (Wn_ t0 t1 l p n') (tn t0))
    {S2 : QMem} (K2 : KI ix PFi S1 S2) (h20 : S2.1 m 20 0 = 1) (hX : MX S2 m (Pm_ t0 t1 l p)) (h31 : S2.1 m 31 0 = (zn (Zs_ t0 t1 l p) : Int)) (hst : ∀ i : Nat, i < zn (Zs_ t0 t1 l p) → MSt S2 m (i : Int) (zs (Zs_ t0 t1 l p) i)) (W2 : WM m S2 t0 t1) (hv : v = (n' : Int)) (hq : ∀ S3, S3.1 m 6 0 = (n' : Int) → IV Λ T m ix S3 t0 t1 l p n' o → Q S3) : w_Mo_goesTo Λ m v S2 Q := by
  have hss := hs
  obtain ⟨a0, a1, a2, a3, a4, a5, a6, a7, a8, a9, _⟩ := hs
  have w0 := W2.2.2.1
  have w1 := W2.2.2.2
  have hz := Zs_ok (l := l) (p := p) w0 w1
  rw [hv]
  refine s_Mo_goesTo (Z := Zs_ t0 t1 l p) W2.1 w0 hz.1 hst hn hz.2 (fun S3 hk3 hM3 h63 => hq S3 h63 ?_)
  have K3 := kiM a1 hk3
  have e9 : ∀ f i, S3.1 (yR Λ T 7 0) f i = S1.1 (yR Λ T 7 0) f i := fun f i => by rw [K3.at a9 (by omega), K2.at a9 (by unfold PFi; omega)]
  refine IV_step2 hss hi (((K.mono (fun k f y => by unfold PSF; omega)).tr (K2.mono (fun k f y => by unfold PSF; unfold PFi at y; omega))).tr (K3.mono (fun k f y => by unfold PSF; omega))) (by rw [hk3.at (by omega)]; exact h20) (fun i i0 i1 => by rw [hk3.at (by omega), hk3.at (by omega), hk3.at (by omega)]; exact hX i i0 i1) (by rw [hk3.at (by omega)]; exact h31) (fun i hi => MSt_kp hk3 (by omega) (hst i hi)) hn (by rw [K3.at a0 (by omega), K2.at a0 (by unfold PFi; omega)]; exact h13) h63 (fun x x0 x1 => by rw [e9, e9, e9, e9]; exact hC x x0 x1) (fun x x0 x1 => by rw [e9, e9]; exact hL x x0 x1) hM3
theorem c_start (hs : SP Λ T m ix) (hi : IV Λ T m ix S t0 t1 l p n o) : w_TD_start Λ T S (fun r S1 => w_Mo_start Λ m S1 (fun r2 S2 => r = r2 ∧ Nxt Λ T m ix S2)) := by
  have hss := hs
  obtain ⟨a0, a1, a2, a3, a4, a5, a6, a7, a8, a9, _⟩ := hs
  have w0 := hi.2.2.1.2.2.1
  have w1 := hi.2.2.1.2.2.2
  obtain ⟨r0, r1, _⟩ := iTR_r hi.2.1
  have i10 := hi.2.2.2.2.2.2.2.2.2.1
  unfold w_TD_start
  intro r hr
  rw [i10.1] at hr
  rw [hr]
  unfold w_TD_rewind
  intro a ha
  rw [ha]
  refine s_Wt_load hi.2.2.1.1 w0 (fun e => by rw [e, a9] at r0; omega) (fun S1 hk1 hC1 => ?_)
  intro S2 e2
  have K1 := kiO a9 hk1
  have K2 := ki1 a0 e2
  have KA : KI ix (fun k f => k = 9 ∨ (k = 0 ∧ f = 13)) S S2 := (K1.mono (fun k f y => Or.inl y)).tr (K2.mono (fun k f y => Or.inr y))
  have C2 : CW S2 (yR Λ T 7 0) (W0 t0) := by
    have k2 : Kp (fun o _ => o = T) S1 S2 := by rw [e2]; exact Kp.rf.st rfl
    exact CW_kp k2 (fun f => ix_ne a9 a0 (by decide)) hC1
  unfold w_Mo_start
  refine s_Mo_findsC a1 hi (KA.sg (fun k f i y => by omega)) (fun S3 K3 h20 hX h31 hst _ h6 W3 => ?_)
  intro r2 hr2
  rw [h6] at hr2
  refine c_goes (v := 0) (n' := 0) hss hi KA (by rw [e2]; simp [q_st]) (Nat.zero_le _) C2 (CL_W0 C2 w0) K3 h20 hX h31 hst W3 rfl (fun S4 h64 I4 => ⟨hr2.symm, _, _, _, _, _, _, I4⟩)
theorem c_stepOn (hs : SP Λ T m ix) (hi : IV Λ T m ix S t0 t1 l p n o) : w_TD_stepOn Λ T S (fun r S1 => w_Mo_stepOn Λ m S1 (fun r2 S2 => r = r2 ∧ Nxt Λ T m ix S2)) := by
  have hss := hs
  obtain ⟨a0, a1, a2, a3, a4, a5, a6, a7, a8, a9, a10, a11, a12, a13, a14, a15⟩ := hs
  have w0 := hi.2.2.1.2.2.1
  have w1 := hi.2.2.1.2.2.2
  have hz := Zs_ok (l := l) (p := p) w0 w1
  unfold w_TD_stepOn
  refine s_TD_compare hss hi (fun S1 I1 _ _ hZ _ => ?_)
  have i10 := I1.2.2.2.2.2.2.2.2.2.1
  have hn := i10.2.2.1
  rw [i10.1, hZ.2.1]
  refine ⟨by unfold inR; omega, fun z => by omega, fun _ => ⟨by unfold inR; omega, by unfold inR; omega, fun z => ⟨by omega, ?_⟩, fun z => ?_⟩⟩
  · have cs := hZ.2.2.1 n (by omega)
    have okn := hz.1.2 n (by omega)
    have wfn := Wn_ok (n := n) (l := l) (p := p) w0 w1 hn
    refine s_Wt_carryOut cs (ix_ne (a15 (n : Int) (by omega) (by omega)) a9 (by omega)) i10.2.2.2.1 wfn.1 okn (fun S2 hk2 hC2 hL2 => ?_)
    intro S3 e3
    have K2 := kiO a9 hk2
    have t13 : S2.1 T 13 0 = (n : Int) := by rw [K2.at a0 (by decide)]; exact i10.1
    rw [t13] at e3
    have K3 := ki1 a0 e3
    have KA : KI ix (fun k f => k = 9 ∨ (k = 0 ∧ f = 13)) S1 S3 := (K2.mono (fun k f y => Or.inl y)).tr (K3.mono (fun k f y => Or.inr y))
    have r3 : S3.1 T 13 0 = ((n + 1 : Nat) : Int) := by rw [e3]; simp [q_st]
    rw [r3]
    have e9 : ∀ f i, S3.1 (yR Λ T 7 0) f i = S2.1 (yR Λ T 7 0) f i := fun f i => K3.at a9 (by omega)
    have ew : Wn_ t0 t1 l p (n + 1) = ap (Wn_ t0 t1 l p n) (zs (Zs_ t0 t1 l p) n) := rfl
    have hL := hL2 _ i10.2.2.2.2.1
    unfold w_Mo_stepOn
    refine s_Mo_findsC a1 I1 (KA.sg (fun k f i y => by omega)) (fun S4 K4 h20 hX h31 hst _ h6 W4 => ?_)
    rw [h6, h31]
    refine ⟨by unfold inR; omega, by unfold inR; omega, fun _ => ?_, fun y => by omega⟩
    refine c_goes (n' := n + 1) hss I1 KA r3 (by omega) (by rw [ew]; exact fun x x0 x1 => by rw [e9, e9, e9, e9]; exact hC2 x x0 x1) (by rw [ew]; exact fun x x0 x1 => by rw [e9, e9]; exact hL x x0 x1) K4 h20 hX h31 hst W4 (by omega) (fun S5 h65 I5 => ?_)
    rw [h65]
    exact ⟨rfl, _, _, _, _, _, _, I5⟩
  · unfold w_Mo_stepOn
    refine s_Mo_finds hss I1 (fun S2 I2 _ _ h31 _ _ _ => ?_)
    rw [h31, I2.2.2.2.2.2.2.2.2.2.1.2.1]
    exact ⟨by unfold inR; omega, by unfold inR; omega, fun y => by omega, fun _ => ⟨rfl, _, _, _, _, _, _, I2⟩⟩
theorem c_stepBack (hs : SP Λ T m ix) (hi : IV Λ T m ix S t0 t1 l p n o) : w_TD_stepBack Λ T S (fun r S1 => w_Mo_stepBack Λ m S1 (fun r2 S2 => r = r2 ∧ Nxt Λ T m ix S2)) := by
  have hss := hs
  obtain ⟨a0, a1, a2, a3, a4, a5, a6, a7, a8, a9, a10, a11, a12, a13, a14, a15⟩ := hs
  have w0 := hi.2.2.1.2.2.1
  have w1 := hi.2.2.1.2.2.2
  have n0 := tn_rng w0
  have hz := Zs_ok (l := l) (p := p) w0 w1
  unfold w_TD_stepBack
  refine s_TD_compare hss hi (fun S1 I1 _ _ hZ _ => ?_)
  have i10 := I1.2.2.2.2.2.2.2.2.2.1
  have hn := i10.2.2.1
  rw [i10.1, hZ.2.1]
  refine ⟨by unfold inR; omega, fun z => ?_, fun z => ⟨by unfold inR; omega, by unfold inR; omega, fun _ => ?_, fun y => by omega⟩⟩
  · unfold w_Mo_stepBack
    refine s_Mo_finds hss I1 (fun S2 I2 _ _ h31 _ _ _ => ?_)
    rw [I2.2.2.2.2.2.2.2.2.2.1.2.1]
    exact ⟨by unfold inR; omega, fun y => by omega, fun _ => ⟨rfl, _, _, _, _, _, _, I2⟩⟩
  · obtain ⟨k, hk⟩ : ∃ k, n = k + 1 := ⟨n - 1, by omega⟩
    intro S2 e2
    have K2 := ki1 a0 e2
    have t13 : S2.1 T 13 0 = (k : Int) := by rw [e2]; simp [q_st]; omega
    rw [t13]
    refine ⟨by omega, ?_⟩
    have k2 : Kp (fun o _ => o = T) S1 S2 := by rw [e2]; exact Kp.rf.st rfl
    have cs := CS_kp k2 (fun f => ix_ne (a15 (k : Int) (by omega) (by omega)) a0 (by omega)) (hZ.2.2.1 k (by omega))
    have okn := hz.1.2 k (by omega)
    have wfn := Wn_ok (n := k) (l := l) (p := p) w0 w1 (by omega)
    have ew : Wn_ t0 t1 l p n = ap (Wn_ t0 t1 l p k) (zs (Zs_ t0 t1 l p) k) := by rw [hk]; rfl
    have C2 : CW S2 (yR Λ T 7 0) (ap (Wn_ t0 t1 l p k) (zs (Zs_ t0 t1 l p) k)) := by rw [← ew]; exact CW_kp k2 (fun f => ix_ne a9 a0 (by decide)) i10.2.2.2.1
    have L2 : CL S2 (yR Λ T 7 0) (ap (Wn_ t0 t1 l p k) (zs (Zs_ t0 t1 l p) k)) (tn t0) := by
      rw [← ew]
      intro x x0 x1
      rw [k2.at (ix_ne a9 a0 (by decide)), k2.at (ix_ne a9 a0 (by decide))]
      exact i10.2.2.2.2.1 x x0 x1
    have hd : sk (zs (Zs_ t0 t1 l p) k) = 3 → sr (zs (Zs_ t0 t1 l p) k) < tn t0 := fun e3 => by
      obtain ⟨hr, z | z | z | z⟩ := okn
      · omega
      · omega
      · omega
      · by_cases q : sr (zs (Zs_ t0 t1 l p) k) < tn t0
        · exact q
        · exact absurd (rn_abs hz.1 k (by omega) _ (by omega) hr.1 z.2.2.2.2) z.2.1
    refine s_Wt_takeBack cs (ix_ne (a15 (k : Int) (by omega) (by omega)) a9 (by omega)) C2 L2 (by omega) hd wfn.1 okn (fun S3 hk3 hC3 hL3 => ?_)
    have K3 := kiO a9 hk3
    have KA : KI ix (fun k f => k = 9 ∨ (k = 0 ∧ f = 13)) S1 S3 := (K2.mono (fun k f y => Or.inr y)).tr (K3.mono (fun k f y => Or.inl y))
    have r3 : S3.1 T 13 0 = (k : Int) := by rw [K3.at a0 (by decide)]; exact t13
    rw [r3]
    unfold w_Mo_stepBack
    refine s_Mo_findsC a1 I1 (KA.sg (fun k f i y => by omega)) (fun S4 K4 h20 hX h31 hst _ h6 W4 => ?_)
    rw [h6]
    refine ⟨by unfold inR; omega, fun _ => ?_, fun y => by omega⟩
    refine c_goes (n' := k) hss I1 KA r3 (by omega) hC3 hL3 K4 h20 hX h31 hst W4 (by omega) (fun S5 h65 I5 => ?_)
    rw [h65]
    exact ⟨rfl, _, _, _, _, _, _, I5⟩
/-! the working tree -/
def rmN (v : Int) : Int := if v = -1 then 48 else if 0 ≤ v ∧ v ≤ 23 then v else if 100 ≤ v ∧ v ≤ 123 then v - 76 else -1
theorem rmN_c (v : Int) : (v = -1 ∧ rmN v = 48) ∨ ((0 ≤ v ∧ v ≤ 23) ∧ rmN v = v) ∨ ((100 ≤ v ∧ v ≤ 123) ∧ rmN v = v - 76) ∨ (v ≠ -1 ∧ ¬ (0 ≤ v ∧ v ≤ 23) ∧ ¬ (100 ≤ v ∧ v ≤ 123) ∧ rmN v = -1) := by
  unfold rmN
  by_cases q : v = -1
  · rw [if_pos q]; exact Or.inl ⟨q, rfl⟩
  · rw [if_neg q]
    by_cases q2 : 0 ≤ v ∧ v ≤ 23
    · rw [if_pos q2]; exact Or.inr (Or.inl ⟨q2, rfl⟩)
    · rw [if_neg q2]
      by_cases q3 : 100 ≤ v ∧ v ≤ 123
      · rw [if_pos q3]; exact Or.inr (Or.inr (Or.inl ⟨q3, rfl⟩))
      · rw [if_neg q3]; exact Or.inr (Or.inr (Or.inr ⟨q, q2, q3, rfl⟩))
theorem s_Mo_slot {v : Int} {Q : Int → QMem → Prop} (hv : inR v) (hq : Q (rmN v) S) : w_Mo_slot Λ v S Q := by
  have hc := rmN_c v
  unfold w_Mo_slot
  refine ⟨hv, fun z => ?_, fun z => ?_⟩
  · refine s_Mo_in hv (by unfold inR; omega) (by unfold inR; omega) (fun w => ⟨by unfold inR; omega, fun y => by omega, fun _ => ?_⟩) (fun w => ⟨by unfold inR; omega, fun _ => ?_, fun y => absurd rfl y⟩)
    · rw [show rmN v = v by omega] at hq; exact hq
    · refine s_Mo_in hv (by unfold inR; omega) (by unfold inR; omega) (fun w2 => ⟨by unfold inR; omega, fun y => by omega, fun _ => ?_⟩) (fun w2 => ⟨by unfold inR; omega, fun _ => ?_, fun y => absurd rfl y⟩)
      · rw [show rmN v = v - 76 by omega] at hq; exact hq
      · rw [show rmN v = -1 by omega] at hq; exact hq
  · rw [show rmN v = 48 by omega] at hq; exact hq
theorem s_TD_roomOf {v : Int} {Q : Int → QMem → Prop} (hv : inR v) (h1 : v ≠ -1 → Q (rmN v) S) (h0 : v = -1 → Q (-1) S) : w_TD_roomOf Λ v S Q := by
  have hc := rmN_c v
  have far : ¬ (0 ≤ v ∧ v ≤ 23) → w_TD_roomOf_12 Λ Q v S := fun h => by
    unfold w_TD_roomOf_12 w_TD_roomOfInserted
    refine ⟨hv, fun z => ?_, fun z => ⟨hv, fun w => ?_, fun w => ?_⟩⟩
    · by_cases q : v = -1
      · exact h0 q
      · have := h1 q; rw [show rmN v = -1 by omega] at this; exact this
    · have := h1 (by omega); rw [show rmN v = -1 by omega] at this; exact this
    · have := h1 (by omega); rw [show rmN v = 24 + (v - 100) by omega] at this; exact this
  unfold w_TD_roomOf
  refine ⟨hv, fun z => far (by omega), fun z => ⟨hv, fun w => far (by omega), fun w => ?_⟩⟩
  have := h1 (by omega); rw [show rmN v = v by omega] at this; exact this
/-- a room that is there -/
theorem s_Mo_isThere {W : WW} {x : Int} {Q : Int → QMem → Prop} (hM : MW S m W) (hx : -1 ≤ x ∧ x ≤ 48) (h1 : x = 48 ∨ (0 ≤ x ∧ x < 48 ∧ wa W x ≠ -1) → Q 1 S) (h0 : ¬ (x = 48 ∨ (0 ≤ x ∧ x < 48 ∧ wa W x ≠ -1)) → Q 0 S) : w_Mo_isThere Λ m x S Q := by
  unfold w_Mo_isThere
  refine ⟨by unfold inR; omega, fun z => h1 (Or.inl z), fun z => ⟨by unfold inR; omega, fun w => h0 (by omega), fun w => ?_⟩⟩
  have hr := wfW_rng (MW_wf hM) (x := x) (by omega) (by omega)
  have e := (hM.1 x (by omega) (by omega)).1
  have e2 : a2 (wa W x) = if wa W x = -1 then -2 else wa W x := rfl
  rw [e, e2]
  by_cases q : wa W x = -1
  · rw [if_pos q]
    exact ⟨by omega, by unfold inR; omega, fun _ => h0 (fun y => by omega), fun y => absurd rfl y⟩
  · rw [if_neg q]
    exact ⟨by omega, by unfold inR; omega, fun y => by omega, fun _ => h1 (Or.inr ⟨by omega, by omega, q⟩)⟩
theorem c_workingChild {v pl : Int} (hs : SP Λ T m ix) (hv : inR v) (hpl : inR pl) (hi : IV Λ T m ix S t0 t1 l p n o) : w_TD_workingChild Λ T v pl S (fun r S1 => w_Mo_workingChild Λ m v pl S1 (fun r2 S2 => r = r2 ∧ Nxt Λ T m ix S2)) := by
  have w0 := hi.2.2.1.2.2.1
  have w1 := hi.2.2.1.2.2.2
  have i10 := hi.2.2.2.2.2.2.2.2.2.1
  have wfn := Wn_ok (n := n) (l := l) (p := p) w0 w1 i10.2.2.1
  have hC := i10.2.2.2.1
  have hc := rmN_c v
  have modl : ∀ r, ((rmN v = 48 ∨ (0 ≤ rmN v ∧ rmN v < 48 ∧ wa (Wn_ t0 t1 l p n) (rmN v) ≠ -1)) → r = if chd (Wn_ t0 t1 l p n) (rmN v) pl = -1 then -15 else num (chd (Wn_ t0 t1 l p n) (rmN v) pl)) → (¬ (rmN v = 48 ∨ (0 ≤ rmN v ∧ rmN v < 48 ∧ wa (Wn_ t0 t1 l p n) (rmN v) ≠ -1)) → r = -11) → w_Mo_workingChild Λ m v pl S (fun r2 S2 => r = r2 ∧ Nxt Λ T m ix S2) := fun r hr1 hr0 => by
    unfold w_Mo_workingChild
    refine s_Mo_finds hs hi (fun S2 I2 _ _ _ _ hM _ => ?_)
    have nx2 : Nxt Λ T m ix S2 := ⟨_, _, _, _, _, _, I2⟩
    refine s_Mo_slot hv ?_
    refine s_Mo_isThere hM (by omega) (fun h => ⟨by unfold inR; omega, fun _ => ⟨by omega, ?_⟩, fun y => by omega⟩) (fun h => ⟨by unfold inR; omega, fun y => absurd rfl y, fun _ => ⟨hr0 h, nx2⟩⟩)
    have hr := hr1 h
    have ur : 0 ≤ rmN v ∧ rmN v ≤ 48 := by omega
    have km0 := hM.2.2.2 _ ur.1 ur.2
    have kml := km_le hM.2 ur.1 ur.2
    refine s_Mo_in hpl (by unfold inR; omega) (by unfold inR; omega) (fun y => ⟨by unfold inR; omega, fun q => by omega, fun _ => ⟨by omega, ?_⟩⟩) (fun y => ⟨by unfold inR; omega, fun _ => ⟨?_, nx2⟩, fun q => absurd rfl q⟩)
    · have cc := (MW_chd hM ur.1 ur.2 y.1).1 (by omega)
      have cr := (chd_ok (Wn_ t0 t1 l p n) (rmN v) pl).resolve_left (fun q => cc.2 q.1)
      rw [cc.1]
      rw [if_neg cc.2] at hr
      exact s_Mo_number cr.1 (by omega) ⟨hr, nx2⟩
    · have ce : chd (Wn_ t0 t1 l p n) (rmN v) pl = -1 := by
        by_cases q : 0 ≤ pl
        · exact (MW_chd hM ur.1 ur.2 q).2 (by omega)
        · rcases chd_ok (Wn_ t0 t1 l p n) (rmN v) pl with z | z
          · exact z.1
          · have := (wfW_rng wfn.1 z.1 z.2.1).resolve_left (by omega); omega
      rw [hr, if_pos ce]
  have look : rmN v = 48 ∨ (0 ≤ rmN v ∧ rmN v < 48 ∧ wa (Wn_ t0 t1 l p n) (rmN v) ≠ -1) → w_TD_workingChild_35 Λ (fun r S1 => w_Mo_workingChild Λ m v pl S1 (fun r2 S2 => r = r2 ∧ Nxt Λ T m ix S2)) T pl (rmN v) S := fun h => by
    unfold w_TD_workingChild_35
    have ur : 0 ≤ rmN v ∧ rmN v ≤ 48 := by omega
    refine s_Wt_chd hC wfn.1 ur.1 ur.2 hpl ?_
    have cr := chd_ok (Wn_ t0 t1 l p n) (rmN v) pl
    refine ⟨by unfold inR; omega, fun z => ?_, fun z => modl _ (fun _ => by rw [if_pos z]) (fun q => absurd h q)⟩
    exact s_TD_numberOf (by omega) (by omega) (modl _ (fun _ => by rw [if_neg z]) (fun q => absurd h q))
  have go : ∀ u, u = rmN v → w_TD_workingChild_14 Λ (fun r S1 => w_Mo_workingChild Λ m v pl S1 (fun r2 S2 => r = r2 ∧ Nxt Λ T m ix S2)) T pl u S := fun u hu => by
    rw [hu]
    unfold w_TD_workingChild_14
    refine ⟨by unfold inR; omega, fun z => look (Or.inl z), fun z => ?_⟩
    exact s_Wt_has hC wfn.1 (by unfold inR; omega) (fun a b c => ⟨by unfold inR; omega, fun _ => look (Or.inr ⟨a, b, c⟩), fun y => by omega⟩) (fun h => ⟨by unfold inR; omega, fun y => absurd rfl y, fun _ => modl _ (fun q => by omega) (fun _ => rfl)⟩)
  unfold w_TD_workingChild
  exact ⟨hv, fun z => s_TD_roomOf hv (fun _ => go _ rfl) (fun y => absurd y z), fun z => go 48 (by omega)⟩
theorem c_workingNode {v w : Int} (hs : SP Λ T m ix) (hv : inR v) (hw : inR w) (hi : IV Λ T m ix S t0 t1 l p n o) : w_TD_workingNode Λ T v w S (fun r S1 => w_Mo_workingNode Λ m v w S1 (fun r2 S2 => r = r2 ∧ Nxt Λ T m ix S2)) := by
  have w0 := hi.2.2.1.2.2.1
  have w1 := hi.2.2.1.2.2.2
  have i10 := hi.2.2.2.2.2.2.2.2.2.1
  have wfn := Wn_ok (n := n) (l := l) (p := p) w0 w1 i10.2.2.1
  have hC := i10.2.2.2.1
  have hc := rmN_c v
  have modl : ∀ r, ((0 ≤ rmN v ∧ rmN v < 48 ∧ wa (Wn_ t0 t1 l p n) (rmN v) ≠ -1) → (w = 0 → r = wl (Wn_ t0 t1 l p n) (rmN v)) ∧ (w = 1 → r = wv (Wn_ t0 t1 l p n) (rmN v)) ∧ (w = 2 → r = num (wa (Wn_ t0 t1 l p n) (rmN v))) ∧ (w < 0 ∨ 2 < w → r = -12)) → (¬ (0 ≤ rmN v ∧ rmN v < 48 ∧ wa (Wn_ t0 t1 l p n) (rmN v) ≠ -1) → r = -11) → w_Mo_workingNode Λ m v w S (fun r2 S2 => r = r2 ∧ Nxt Λ T m ix S2) := fun r hr1 hr0 => by
    unfold w_Mo_workingNode
    refine s_Mo_finds hs hi (fun S2 I2 _ _ _ _ hM _ => ?_)
    have nx2 : Nxt Λ T m ix S2 := ⟨_, _, _, _, _, _, I2⟩
    refine s_Mo_slot hv ⟨by unfold inR; omega, fun z => ⟨hr0 (by omega), nx2⟩, fun z => ?_⟩
    refine s_Mo_isThere hM (by omega) (fun h => ⟨by unfold inR; omega, fun _ => ?_, fun y => by omega⟩) (fun h => ⟨by unfold inR; omega, fun y => absurd rfl y, fun _ => ⟨hr0 (fun q => h (Or.inr q)), nx2⟩⟩)
    have h' := h.resolve_left z
    obtain ⟨e0, e1, e2, e3⟩ := hr1 h'
    have hx := hM.1 _ h'.1 h'.2.1
    have hr := (wfW_rng wfn.1 h'.1 h'.2.1).resolve_left h'.2.2
    rw [hx.1, a2_p h'.2.2, (hx.2 h'.2.2).1, (hx.2 h'.2.2).2]
    exact ⟨hw, fun y => ⟨hw, fun y2 => ⟨hw, fun y3 => ⟨e3 (by omega), nx2⟩, fun y3 => ⟨by omega, s_Mo_number hr.1 hr.2.1 ⟨e2 y3, nx2⟩⟩⟩, fun y2 => ⟨by omega, e1 y2, nx2⟩⟩, fun y => ⟨by omega, e0 y, nx2⟩⟩
  unfold w_TD_workingNode
  have no : ¬ (0 ≤ rmN v ∧ rmN v < 48 ∧ wa (Wn_ t0 t1 l p n) (rmN v) ≠ -1) → w_Mo_workingNode Λ m v w S (fun r2 S2 => -11 = r2 ∧ Nxt Λ T m ix S2) := fun h => modl _ (fun q => absurd q h) (fun _ => rfl)
  refine s_TD_roomOf hv (fun hne => ?_) (fun he => ?_)
  · refine s_Wt_has hC wfn.1 (by unfold inR; omega) (fun a b c => ⟨by unfold inR; omega, fun _ => ?_, fun y => by omega⟩) (fun h => ⟨by unfold inR; omega, fun y => absurd rfl y, fun _ => no h⟩)
    have cx := hC _ a b
    have hr := (wfW_rng wfn.1 a b).resolve_left c
    rw [cx.1, (cx.2 c).2.1, (cx.2 c).2.2]
    have yes : 0 ≤ rmN v ∧ rmN v < 48 ∧ wa (Wn_ t0 t1 l p n) (rmN v) ≠ -1 := ⟨a, b, c⟩
    exact ⟨hw, fun y => ⟨by omega, modl _ (fun _ => ⟨fun _ => rfl, fun q => by omega, fun q => by omega, fun q => by omega⟩) (fun q => absurd yes q)⟩, fun y => ⟨by omega, modl _ (fun _ => ⟨fun q => by omega, fun _ => rfl, fun q => by omega, fun q => by omega⟩) (fun q => absurd yes q)⟩, fun y => ⟨by omega, s_TD_numberOf hr.1 hr.2.1 (modl _ (fun _ => ⟨fun q => by omega, fun q => by omega, fun _ => rfl, fun q => by omega⟩) (fun q => absurd yes q))⟩, fun y => modl _ (fun _ => ⟨fun q => by omega, fun q => by omega, fun q => by omega, fun _ => rfl⟩) (fun q => absurd yes q)⟩
  · refine s_Wt_has hC wfn.1 (by unfold inR; omega) (fun a b c => by omega) (fun h => ⟨by unfold inR; omega, fun y => absurd rfl y, fun _ => no (by omega)⟩)
end
