/-! makers: the rows of a constructor. The object being made and its arrays are the cells cs; what is made already is a pool -/
def q_mk (U : State) : Prop := va_Nw (.methodLinkNest "TreeDiffer" 11 y_Tx_init "TreeDiffer") U ∧ va_Nw (.methodLinkNest "TreeDiffer" 18 y_Se_init "TreeDiffer") U ∧ va_Nw (.methodLinkNest "TreeDiffer" 33 y_Ma_init "TreeDiffer") U ∧ va_Nw (.methodLinkNest "TreeDiffer$Script" 23 y_Wt_init "TreeDiffer") U ∧ va_Nw (.methodLinkNest "TreeDiffer$Script" 42 y_Sp_init "TreeDiffer") U ∧ va_Nw (.methodLinkNest "TreeDiffer" 47 y_ED_init "TreeDiffer") U ∧ va_Nw (.methodLinkNest "TreeDiffer" 54 y_Wt_init "TreeDiffer") U ∧ va_Nw (.methodLinkNest "TreeDiffer" 64 y_Ou_init "TreeDiffer") U ∧ va_AO "TreeDiffer$Setup" U ∧ va_AO "TreeDiffer$Step" U ∧ q_ma U
theorem q_mk_warm {s U : State} (hW : s.WarmedH U.vm) (h : q_mk s) : q_mk U := by
  obtain ⟨h1, h2, h3, h4, h5, h6, h7, h8, h9, h10, h11⟩ := h
  exact ⟨va_Nw.warmM hW h1, va_Nw.warmM hW h2, va_Nw.warmM hW h3, va_Nw.warmM hW h4, va_Nw.warmM hW h5, va_Nw.warmM hW h6, va_Nw.warmM hW h7, va_Nw.warmM hW h8, h9.moved hW.alike, h10.moved hW.alike, q_ma_moved hW.alike h11⟩
theorem q_mk_same {s U : State} (hv : s.vm = U.vm) (h : q_mk s) : q_mk U := by
  obtain ⟨h1, h2, h3, h4, h5, h6, h7, h8, h9, h10, h11⟩ := h
  have al : s.vm.Alike U.vm := by rw [hv]; exact Vm.Alike.refl _
  exact ⟨va_Nw.same rfl hv h1, va_Nw.same rfl hv h2, va_Nw.same rfl hv h3, va_Nw.same rfl hv h4, va_Nw.same rfl hv h5, va_Nw.same rfl hv h6, va_Nw.same rfl hv h7, va_Nw.same rfl hv h8, h9.moved al, h10.moved al, q_ma_moved al h11⟩
theorem vP_iff {D : va_G} {cl : List vw_C} {ws : va_W} {H : Heap} : va_P D cl ws H ↔ ∀ q ∈ ws, va_at D cl q H := by
  constructor
  · intro h q hq
    obtain ⟨k, hk⟩ := List.getElem?_of_mem hq
    exact h k q hk
  · intro h k q hk
    exact h q (List.mem_of_getElem? hk)
theorem vD_nd {A : Nat → Prop} {ws : va_W} (h : va_D A ws) : (ws.map Prod.fst).Nodup := by
  rw [List.nodup_iff_pairwise_ne, List.pairwise_iff_getElem]
  intro i j hi hj hij he
  rw [List.length_map] at hi hj
  have h1 := h.1 i j ws[i] ws[j] (List.getElem?_eq_getElem hi) (List.getElem?_eq_getElem hj) (by simpa using he)
  omega
theorem vD_of {A : Nat → Prop} {ws : va_W} (h : (ws.map Prod.fst).Nodup) (hA : ∀ q ∈ ws, A q.1) : va_D A ws := by
  refine ⟨fun i j p q hp hq he => ?_, fun k q hk => hA q (List.mem_of_getElem? hk)⟩
  rw [List.nodup_iff_pairwise_ne, List.pairwise_iff_getElem] at h
  obtain ⟨hi, ep⟩ := List.getElem?_eq_some_iff.mp hp
  obtain ⟨hj, eq⟩ := List.getElem?_eq_some_iff.mp hq
  rcases Nat.lt_trichotomy i j with z | z | z
  · exact absurd (by rw [List.getElem_map, List.getElem_map, ep, eq]; exact he) (h i j (by rw [List.length_map]; exact hi) (by rw [List.length_map]; exact hj) z)
  · exact z
  · exact absurd (by rw [List.getElem_map, List.getElem_map, ep, eq]; exact he.symm) (h j i (by rw [List.length_map]; exact hj) (by rw [List.length_map]; exact hi) z)
theorem vD_A {A : Nat → Prop} {ws : va_W} (h : va_D A ws) : ∀ q ∈ ws, A q.1 := fun q hq => by
  obtain ⟨k, hk⟩ := List.getElem?_of_mem hq
  exact h.2 k q hk
theorem vP_perm {D : va_G} {cl : List vw_C} {ws ws' : va_W} {H : Heap} (hp : ws'.Perm ws) (h : va_P D cl ws H) : va_P D cl ws' H := vP_iff.mpr (fun q hq => vP_iff.mp h q (hp.mem_iff.mp hq))
theorem vD_perm {A : Nat → Prop} {ws ws' : va_W} (hp : ws'.Perm ws) (h : va_D A ws) : va_D A ws' := vD_of ((hp.map Prod.fst).nodup_iff.mpr (vD_nd h)) (fun q hq => vD_A h q (hp.mem_iff.mp hq))
def n_P (Δ : QDl) (cs : va_W) (Λ : QLay) (S : QMem) (A : Nat → Prop) (H0 H : Heap) (locs : List Loc) : Prop := va_P Δ.1 classes (cs ++ va_pl (yL Λ) (wF Δ Λ S)) H ∧ va_D A (cs ++ va_pl (yL Λ) (wF Δ Λ S)) ∧ va_S A H0 H locs
theorem sw3 {a b c : va_W} : ((a ++ c) ++ b).Perm ((a ++ b) ++ c) := by
  rw [List.append_assoc, List.append_assoc]
  exact List.Perm.append_left a List.perm_append_comm
abbrev NGT : Type := Nat → Nat → Nat → List (Nat × Value) → List Value → va_W → QLay → QMem → Prop
def NAct (cc : ByteArray) (own : String) (nL : Nat) (R : Room) (Δ : QDl) (fin : Bool) (G : NGT) : Prop :=
  ∃ (p : Program) (l : Launch) (e : Env) (s : State) (m : MethodId) (args : Array Value) (below : List Frame) (meth : Method) (c : Code) (Q : State → Prop) (A : Nat → Prop),
    p.tables.exec = Jvm.exec ∧ c.code = cc ∧ c.maxLocals = nL ∧ s.vm.findClass own = some m.cls ∧ (∀ w ∈ lw_g, w.before args s = true) ∧ q_nest s ∧ q_mk s ∧ va_K Δ.1 classes (q_tys Δ) s ∧ (∀ q : Nat, s.heap.size ≤ q → A q) ∧ (fin = true → meth.name = "<init>") ∧
    G = fun ce sl pc lv st cs Λ S => ∀ (H : Heap) (locs : List Loc) (ls : Array Slot), n_P Δ cs Λ S A s.heap H locs → lv_has ls nL lv → W p l e R s m args below meth c H locs ce sl Q (F0 m pc ls st)
section NR1
variable {cc : ByteArray} {own : String} {nL : Nat} {R : Room} {Δ : QDl} {fin : Bool} {G : NGT} {ce sl pc : Nat} {lv lv' : List (Nat × Value)} {st : List Value} {cs : va_W} {Λ : QLay} {S : QMem}
theorem np_aload_n (hG : NAct cc own nL R Δ fin G) {j : Fin 4} (hd : decode cc pc = .ok (.aload_n j, 1)) {x : Nat} (h : lvAt lv j.val = some (.ref x)) (k : G ce sl (pc + 1) lv (.ref x :: st) cs Λ S) : G ce sl pc lv st cs Λ S := by
  obtain ⟨p, l, e, s, m, args, below, meth, c, Q, A, hx, hb, hml, hown, hts, hn, hq, hK, hA, hfi, rfl⟩ := hG
  intro H locs ls hP hl
  exact lv_aload_n hx hb hd rfl (hl.2.2 _ (lvAt_mem h)) (k H locs ls hP hl)
theorem np_iload_n (hG : NAct cc own nL R Δ fin G) {j : Fin 4} (hd : decode cc pc = .ok (.iload_n j, 1)) {x : Int} (h : lvAt lv j.val = some (vI x)) (k : G ce sl (pc + 1) lv (vI x :: st) cs Λ S) : G ce sl pc lv st cs Λ S := by
  obtain ⟨p, l, e, s, m, args, below, meth, c, Q, A, hx, hb, hml, hown, hts, hn, hq, hK, hA, hfi, rfl⟩ := hG
  intro H locs ls hP hl
  exact lv_iload_n hx hb hd rfl (hl.2.2 _ (lvAt_mem h)) (k H locs ls hP hl)
theorem np_iconst (hG : NAct cc own nL R Δ fin G) {n : Int} (hd : decode cc pc = .ok (.iconst n, 1)) (k : G ce sl (pc + 1) lv (vI n :: st) cs Λ S) : G ce sl pc lv st cs Λ S := by
  obtain ⟨p, l, e, s, m, args, below, meth, c, Q, A, hx, hb, hml, hown, hts, hn, hq, hK, hA, hfi, rfl⟩ := hG
  intro H locs ls hP hl
  exact lv_iconst hx hb hd rfl (k H locs ls hP hl)
theorem np_bipush (hG : NAct cc own nL R Δ fin G) {n : Int} (hd : decode cc pc = .ok (.bipush n, 2)) (hn0 : (Int8.ofInt n).toInt32 = Int32.ofInt n) (k : G ce sl (pc + 2) lv (vI n :: st) cs Λ S) : G ce sl pc lv st cs Λ S := by
  obtain ⟨p, l, e, s, m, args, below, meth, c, Q, A, hx, hb, hml, hown, hts, hn, hq, hK, hA, hfi, rfl⟩ := hG
  intro H locs ls hP hl
  exact lv_bipush hx hb hd hn0 (k H locs ls hP hl)
theorem np_sipush (hG : NAct cc own nL R Δ fin G) {n : Int} (hd : decode cc pc = .ok (.sipush n, 3)) (hn0 : (Int16.ofInt n).toInt32 = Int32.ofInt n) (k : G ce sl (pc + 3) lv (vI n :: st) cs Λ S) : G ce sl pc lv st cs Λ S := by
  obtain ⟨p, l, e, s, m, args, below, meth, c, Q, A, hx, hb, hml, hown, hts, hn, hq, hK, hA, hfi, rfl⟩ := hG
  intro H locs ls hP hl
  exact lv_sipush hx hb hd hn0 (k H locs ls hP hl)
theorem np_istore_n (hG : NAct cc own nL R Δ fin G) {j : Fin 4} {x : Int} (hd : decode cc pc = .ok (.istore_n j, 1)) (hi : j.val < nL) (h : lvSt lv j.val (vI x) = some lv') (k : G ce sl (pc + 1) lv' st cs Λ S) : G ce sl pc lv (vI x :: st) cs Λ S := by
  obtain ⟨p, l, e, s, m, args, below, meth, c, Q, A, hx, hb, hml, hown, hts, hn, hq, hK, hA, hfi, rfl⟩ := hG
  intro H locs ls hP hl
  exact lv_istore_n hx hb hd rfl hl hi rfl (fun ls' hl' => k H locs ls' hP (lvSt_use h hl'))
theorem np_astore_n (hG : NAct cc own nL R Δ fin G) {j : Fin 4} {x : Nat} (hd : decode cc pc = .ok (.astore_n j, 1)) (hi : j.val < nL) (h : lvSt lv j.val (.ref x) = some lv') (k : G ce sl (pc + 1) lv' st cs Λ S) : G ce sl pc lv (.ref x :: st) cs Λ S := by
  obtain ⟨p, l, e, s, m, args, below, meth, c, Q, A, hx, hb, hml, hown, hts, hn, hq, hK, hA, hfi, rfl⟩ := hG
  intro H locs ls hP hl
  exact lv_astore_n hx hb hd rfl hl hi rfl (fun ls' hl' => k H locs ls' hP (lvSt_use h hl'))
theorem np_iinc (hG : NAct cc own nL R Δ fin G) {i : Nat} {n x : Int} (hd : decode cc pc = .ok (.iinc i n, 3)) (h0 : lvAt lv i = some (vI x)) (hi : i < nL) (h : lvSt lv i (vI (x + n)) = some lv') (k : G ce sl (pc + 3) lv' st cs Λ S) : G ce sl pc lv st cs Λ S := by
  obtain ⟨j, hj⟩ := lvAt_idx h0
  obtain ⟨p, l, e, s, m, args, below, meth, c, Q, A, hx, hb, hml, hown, hts, hn, hq, hK, hA, hfi, rfl⟩ := hG
  intro H locs ls hP hl
  exact lv_iinc (v := Int32.ofInt (x + n)) hx hb hd hl hj (Int32.ofInt_add x n).symm hi rfl (fun ls' hl' => k H locs ls' hP (lvSt_use h hl'))
theorem np_goto (hG : NAct cc own nL R Δ fin G) {off : Int} {tgt : Nat} (hd : decode cc pc = .ok (.goto off, 3)) (ht : (pc : Int) + off = (tgt : Int)) (k : G ce sl tgt lv st cs Λ S) : G ce sl pc lv st cs Λ S := by
  obtain ⟨p, l, e, s, m, args, below, meth, c, Q, A, hx, hb, hml, hown, hts, hn, hq, hK, hA, hfi, rfl⟩ := hG
  intro H locs ls hP hl
  exact lv_goto hx hb hd ht (k H locs ls hP hl)
theorem np_icmp_ge (hG : NAct cc own nL R Δ fin G) {x y : Int} {off : Int} {tgt : Nat} (hd : decode cc pc = .ok (.if_icmp .ge off, 3)) (ht : (pc : Int) + off = (tgt : Int)) (hrx : inR x) (hry : inR y) (kt : y ≤ x → G ce sl tgt lv st cs Λ S) (kf : ¬ y ≤ x → G ce sl (pc + 3) lv st cs Λ S) : G ce sl pc lv (vI y :: vI x :: st) cs Λ S := by
  obtain ⟨p, l, e, s, m, args, below, meth, c, Q, A, hx, hb, hml, hown, hts, hn, hq, hK, hA, hfi, rfl⟩ := hG
  intro H locs ls hP hl
  exact lv_icmp_ge hx hb hd ht (fun h => kt ((q_le hry hrx).mp h) H locs ls hP hl) (fun h => kf (fun z => h ((q_le hry hrx).mpr z)) H locs ls hP hl)
theorem np_dup (hG : NAct cc own nL R Δ fin G) {v : Value} (hd : decode cc pc = .ok (.dup, 1)) (hv : v.category = 1) (k : G ce sl (pc + 1) lv (v :: v :: st) cs Λ S) : G ce sl pc lv (v :: st) cs Λ S := by
  obtain ⟨p, l, e, s, m, args, below, meth, c, Q, A, hx, hb, hml, hown, hts, hn, hq, hK, hA, hfi, rfl⟩ := hG
  intro H locs ls hP hl
  exact lv_dup hx hb hd hv (k H locs ls hP hl)
theorem np_widen (hG : NAct cc own nL R Δ fin G) {ce' sl' : Nat} (h1 : ce ≤ ce') (h2 : sl ≤ sl') (k : G ce' sl' pc lv st cs Λ S) : G ce sl pc lv st cs Λ S := by
  obtain ⟨p, l, e, s, m, args, below, meth, c, Q, A, hx, hb, hml, hown, hts, hn, hq, hK, hA, hfi, rfl⟩ := hG
  intro H locs ls hP hl
  exact W.widen h1 h2 (k H locs ls hP hl)
theorem np_objInit (hG : NAct cc own nL R Δ fin G) {idx x : Nat} (hw : Cond.methodLink own idx objectInit ∈ lw_g) (hf : 1 ≤ R.frames) (hlo : 12 ≤ R.locals) (hd : decode cc pc = .ok (.invokespecial idx, 3)) (k : G ce sl (pc + 3) lv [] cs Λ S) : G ce sl pc lv [.ref x] cs Λ S := by
  obtain ⟨p, l, e, s, m, args, below, meth, c, Q, A, hx, hb, hml, hown, hts, hn, hq, hK, hA, hfi, rfl⟩ := hG
  intro H locs ls hP hl
  refine W.objInit hx hb hown (hts _ hw) (hts _ m_19) (hts _ m_20) rfl (by rw [hml]; exact hl.1) rfl hd hf hlo ?_
  refine W.eq (g2 := F0 m (pc + 3) ls []) rfl ?_
  exact k H locs ls hP hl
/-- the object's own field is written -/
theorem np_put (hG : NAct cc own nL R Δ true G) {k N h0 : Nat} {C : String} {T : u_T} (hc : classes[k]? = some (C, T, N)) (hin : ∀ w ∈ u_ws C T N, w ∈ lw_g) (ty0 : Nat → FieldType) (hty : ∀ k, k < N → parseFieldDescriptor (T k).2.2.1 = some (ty0 k)) (hnm : ∀ a, a < N → ∀ b, b < N → a ≠ b → (T a).2.1 ≠ (T b).2.1) (f : Nat) (hf : f < N) (hdecl : (T f).1 = own) {fs : List Value} {cs' : va_W} {idx : Nat} (hw : Cond.fieldLink own idx (T f).1 (T f).2.1 (T f).2.2.1 ∈ lw_g) {ty : FieldType} {v : Value} (hd2 : parseFieldDescriptor (T f).2.2.1 = some ty) (hn1 : narrow ty v = v) (hfit : fits ty v = true) (hl1 : f < fs.length) (hd : decode cc pc = .ok (.putfield idx, 3))
    (kk : G ce sl (pc + 3) lv st ((h0, .inr (k, fs.set f v)) :: cs') Λ S) : G ce sl pc lv (v :: .ref h0 :: st) ((h0, .inr (k, fs)) :: cs') Λ S := by
  obtain ⟨p, l, e, s, m, args, below, meth, c, Q, A, hx, hb, hml, hown, hts, hn, hq, hK, hA, hfi, rfl⟩ := hG
  intro H locs ls hP hl
  cases hfin : (T f).2.2.2 with
  | true => exact va_putF (D := Δ.1) (ci := k) (v := v) (ty := ty) hx hb hts hin ty0 hty hnm hown hK hP.1 hP.2.1 hP.2.2 0 rfl hc f hf (hts _ hw) (fun _ h9 => h9) hfin (hfi rfl) hdecl hd2 hn1 hfit hl1 hd (fun H1 locs1 h1 h2 h3 => kk H1 locs1 ls ⟨h1, h2, h3⟩ hl)
  | false => exact va_put (D := Δ.1) (ci := k) (v := v) (ty := ty) hx hb hts hin ty0 hty hnm hown hK hP.1 hP.2.1 hP.2.2 0 rfl hc f hf (hts _ hw) (fun _ h9 => h9) hfin hd2 hn1 hfit hl1 hd (fun H1 locs1 h1 h2 h3 => kk H1 locs1 ls ⟨h1, h2, h3⟩ hl)
/-- the object's own field is read -/
theorem np_get (hG : NAct cc own nL R Δ fin G) {k N h0 : Nat} {C : String} {T : u_T} (hc : classes[k]? = some (C, T, N)) (hin : ∀ w ∈ u_ws C T N, w ∈ lw_g) (f : Nat) (hf : f < N) {fs : List Value} {cs' : va_W} {idx : Nat} (hw : Cond.fieldLink own idx (T f).1 (T f).2.1 (T f).2.2.1 ∈ lw_g) {v : Value} (hv : fs[f]? = some v) (hd : decode cc pc = .ok (.getfield idx, 3))
    (kk : G ce sl (pc + 3) lv (v :: st) ((h0, .inr (k, fs)) :: cs') Λ S) : G ce sl pc lv (.ref h0 :: st) ((h0, .inr (k, fs)) :: cs') Λ S := by
  obtain ⟨p, l, e, s, m, args, below, meth, c, Q, A, hx, hb, hml, hown, hts, hn, hq, hK, hA, hfi, rfl⟩ := hG
  intro H locs ls hP hl
  exact va_get (D := Δ.1) (ci := k) hx hb hts hin hown hK hP.1 0 rfl hc f hf (hts _ hw) (fun _ h9 => h9) hv hd (kk H locs ls hP hl)
theorem vI_nn {n : Int} {N : Nat} (h : n = (N : Int)) (hN : N ≤ 65536) : ¬ Int32.ofInt n < 0 ∧ (Int32.ofInt n).toNatClampNeg = N := by
  have r : inR n := by unfold inR; omega
  refine ⟨fun z => ?_, ?_⟩
  · rw [q_z, q_lt r q_R0] at z
    omega
  · unfold Int32.toNatClampNeg
    rw [Int32.toInt_ofInt_of_le (by omega) (by omega)]
    omega
theorem va_Kc {j : Nat} {s : State} {cA : ClassId} {ty : FieldType} (hK : va_K Δ.1 classes (q_tys Δ) s) (ht : (q_tys Δ)[j]? = some (Δ.2 j, ty)) (hc : s.vm.findClass ("[" ++ ty.toString) = some cA) : cA = Δ.2 j := by
  have h := (hK.2 j _ ht).2
  have h2 : s.vm.findClass ("[" ++ ty.toString) = some (Δ.2 j) := by
    cases ty with
    | object C => exact h.choose_spec.choose_spec.2.2.2
    | _ => exact h
  exact Option.some.inj (hc.symm.trans h2)
/-- an int array comes -/
theorem np_newI (hG : NAct cc own nL R Δ fin G) {n : Int} {N : Nat} (hn : n = (N : Int)) (hN : N ≤ 65536) (hce : ce + 1 ≤ R.cells) (hsl : sl + N ≤ R.slots) (hd : decode cc pc = .ok (.newarray .int, 2)) {c0 : Nat × va_E} {cs' : va_W}
    (kk : ∀ q : Nat, G (ce + 1) (sl + N) (pc + 2) lv (.ref q :: st) (c0 :: (cs' ++ [(q, .inl (Δ.2 0, N, .inl (fun _ => Int32.ofInt 0)))])) Λ S) : G ce sl pc lv (vI n :: st) (c0 :: cs') Λ S := by
  obtain ⟨p, l, e, s, m, args, below, meth, c, Q, A, hx, hb, hml, hown, hts, hne, hq, hK, hA, hfi, rfl⟩ := hG
  intro H locs ls hP hl
  obtain ⟨z1, z2⟩ := vI_nn hn hN
  refine va_newa (atype := .int) (D := Δ.1) hx hb (hts _ m_97) (ty := .int) rfl hK hP.1 hP.2.1 hP.2.2 hA (a0 := (N, .inl (fun _ => Int32.ofInt 0))) (fun cA => rfl) z1 z2 (by show N * 4 ≤ _; omega) hce hsl hd (fun q cA H1 hK1 hP1 hD1 hS1 => ?_)
  have hcA : cA = Δ.2 0 := va_Kc (ty := .int) hK rfl (hK1.2 5 (cA, .int) rfl).2
  subst hcA
  exact kk q H1 locs ls ⟨vP_perm (sw3 (a := c0 :: cs')) hP1, vD_perm (sw3 (a := c0 :: cs')) hD1, hS1⟩ hl
theorem np_newZ (hG : NAct cc own nL R Δ fin G) {n : Int} {N : Nat} (hn : n = (N : Int)) (hN : N ≤ 65536) (hce : ce + 1 ≤ R.cells) (hsl : sl + N ≤ R.slots) (hd : decode cc pc = .ok (.newarray .boolean, 2)) {c0 : Nat × va_E} {cs' : va_W}
    (kk : ∀ q : Nat, G (ce + 1) (sl + N) (pc + 2) lv (.ref q :: st) (c0 :: (cs' ++ [(q, .inl (Δ.2 1, N, .inl (fun _ => Int32.ofInt 0)))])) Λ S) : G ce sl pc lv (vI n :: st) (c0 :: cs') Λ S := by
  obtain ⟨p, l, e, s, m, args, below, meth, c, Q, A, hx, hb, hml, hown, hts, hne, hq, hK, hA, hfi, rfl⟩ := hG
  intro H locs ls hP hl
  obtain ⟨z1, z2⟩ := vI_nn hn hN
  refine va_newa (atype := .boolean) (D := Δ.1) hx hb (hts _ m_179) (ty := .boolean) rfl hK hP.1 hP.2.1 hP.2.2 hA (a0 := (N, .inl (fun _ => Int32.ofInt 0))) (fun cA => rfl) z1 z2 (by show N * 1 ≤ _; omega) hce hsl hd (fun q cA H1 hK1 hP1 hD1 hS1 => ?_)
  have hcA : cA = Δ.2 1 := va_Kc (ty := .boolean) hK rfl (hK1.2 5 (cA, .boolean) rfl).2
  subst hcA
  exact kk q H1 locs ls ⟨vP_perm (sw3 (a := c0 :: cs')) hP1, vD_perm (sw3 (a := c0 :: cs')) hD1, hS1⟩ hl
/-- an array of references comes: j is 2 (Setup) or 3 (Step) -/
theorem np_newA (hG : NAct cc own nL R Δ fin G) {C : String} {j idx : Nat} (hj : (j = 2 ∧ C = "TreeDiffer$Setup") ∨ (j = 3 ∧ C = "TreeDiffer$Step")) (hw : Cond.classLink own idx C ∈ lw_g) {n : Int} {N : Nat} (hn : n = (N : Int)) (hN : N ≤ 65536) (hce : ce + 1 ≤ R.cells) (hsl : sl + N ≤ R.slots) (hd : decode cc pc = .ok (.anewarray idx, 3)) {c0 : Nat × va_E} {cs' : va_W}
    (kk : ∀ q : Nat, G (ce + 1) (sl + N) (pc + 3) lv (.ref q :: st) (c0 :: (cs' ++ [(q, .inl (Δ.2 j, N, .inr (.inr (.inr (.inr (fun _ => none))))))])) Λ S) : G ce sl pc lv (vI n :: st) (c0 :: cs') Λ S := by
  obtain ⟨p, l, e, s, m, args, below, meth, c, Q, A, hx, hb, hml, hown, hts, hne, hq, hK, hA, hfi, rfl⟩ := hG
  intro H locs ls hP hl
  obtain ⟨z1, z2⟩ := vI_nn hn hN
  have hAO : va_AO C s := by
    rcases hj with z | z <;> rw [z.2]
    · exact hq.2.2.2.2.2.2.2.2.1
    · exact hq.2.2.2.2.2.2.2.2.2.1
  have hty : (q_tys Δ)[j]? = some (Δ.2 j, .object C) := by
    rcases hj with z | z <;> rw [z.1, z.2] <;> rfl
  refine va_newq (D := Δ.1) hx hb hown (hts _ hw) hAO hK hP.1 hP.2.1 hP.2.2 hA z1 z2 (by omega) hce hsl hd (fun q cA H1 hK1 hP1 hD1 hS1 => ?_)
  have h5 := (hK1.2 5 (cA, .object C) rfl).2
  have hcA : cA = Δ.2 j := va_Kc (ty := .object C) hK hty h5.choose_spec.choose_spec.2.2.2
  subst hcA
  exact kk q H1 locs ls ⟨vP_perm (sw3 (a := c0 :: cs')) hP1, vD_perm (sw3 (a := c0 :: cs')) hD1, hS1⟩ hl
end NR1
