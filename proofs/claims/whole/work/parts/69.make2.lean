/-! a constructor's contract: from the bare object to a pool that holds it -/
def QNt (y : MethodName) (cc : ByteArray) (nL fr lo mc ms k : Nat) (raw : List Value) (F : Nat → QLay → QMem → Prop) : Prop :=
  ∀ (l : Launch) (Δ : QDl) (h0 sz : Nat), Met l y (.code y cc nL none :: lw_g) { frames := fr, cells := mc, slots := ms, locals := lo }
    (va_Pc [.ref h0] (fun U => U.heap.size = sz ∧ va_P Δ.1 classes [(h0, .inr (k, raw))] U.heap ∧ va_K Δ.1 classes (q_tys Δ) U ∧ q_nest U ∧ q_mk U))
    (fun _ st oc t => (∃ (Λ : QLay) (S : QMem), oc = .returned none ∧ F h0 Λ S ∧ LyA Λ ∧ va_P Δ.1 classes (va_pl (yL Λ) (wF Δ Λ S)) t.heap ∧ va_D (va_A [(h0, .inr (k, raw))] sz) (va_pl (yL Λ) (wF Δ Λ S))) ∧ va_F (va_A [(h0, .inr (k, raw))] sz) st t) mc ms (va_A [(h0, .inr (k, raw))] sz)
theorem QNt.mk {y : MethodName} {cc : ByteArray} {nL fr lo mc ms k : Nat} {raw : List Value} {F : Nat → QLay → QMem → Prop} {own : String} (hy : plainName y.cls = true) (ho : y.cls = own) (hi : y.name = "<init>") (hn1 : 1 ≤ nL)
    (body : ∀ (Δ : QDl) (h0 : Nat) (G : NGT), NAct cc own nL { frames := fr, cells := mc, slots := ms, locals := lo } Δ true G →
      (∀ (pc : Nat) (lv : List (Nat × Value)) (Λ : QLay) (S : QMem) (ce sl : Nat), decode cc pc = .ok (.return_, 1) → F h0 Λ S → LyA Λ → ce ≤ mc → sl ≤ ms → G ce sl pc lv [] [] Λ S) →
      G 0 0 0 [(0, .ref h0)] [] [(h0, .inr (k, raw))] lyE meE) : QNt y cc nL fr lo mc ms k raw F := by
  intro l Δ h0 sz
  refine Met.ofW (cc := cc) (maxL := nL) (ret := none) hy rfl ?_
  intro p e s m args below meth c s₁ B hml hv
  obtain ⟨rfl, hsz, hP, hK, hne, hq⟩ := hv
  have hx := B.exec
  have hb := B.bytes
  have hr := B.returns
  have hts0 := atoms_spec (ws := .code y cc nL none :: lw_g) B.pre
  have hts : ∀ w ∈ lw_g, w.before ([.ref h0] : List Value).toArray s = true := fun w hw => hts0 w (List.mem_cons_of_mem _ hw)
  have hown : s.vm.findClass own = some m.cls := by rw [← ho]; exact findClass_of_methodNamed B.named
  have hlocks := B.notSynchronized
  have hin : meth.name = "<init>" := by rw [← hi]; exact (name_of_methodNamed B.named B.method).1
  subst hsz
  have key := body Δ h0 (fun ce sl pc lv st cs Λ S => ∀ (H : Heap) (locs : List Loc) (ls : Array Slot), n_P Δ cs Λ S (va_A [(h0, .inr (k, raw))] s.heap.size) s.heap H locs → lv_has ls nL lv → W p l e (headSpec (.code y cc nL none :: lw_g) { frames := fr, cells := mc, slots := ms, locals := lo }).room s m ([.ref h0] : List Value).toArray below meth c H locs ce sl (MQ below (fun _ st oc t => (∃ (Λ : QLay) (S : QMem), oc = .returned none ∧ F h0 Λ S ∧ LyA Λ ∧ va_P Δ.1 classes (va_pl (yL Λ) (wF Δ Λ S)) t.heap ∧ va_D (va_A [(h0, .inr (k, raw))] s.heap.size) (va_pl (yL Λ) (wF Δ Λ S))) ∧ va_F (va_A [(h0, .inr (k, raw))] s.heap.size) st t) ([.ref h0] : List Value).toArray s mc ms (va_A [(h0, .inr (k, raw))] s.heap.size)) (F0 m pc ls st))
    ⟨p, l, e, s, m, _, below, meth, c, _, va_A [(h0, .inr (k, raw))] s.heap.size, hx, hb, hml, hown, hts, hne, hq, hK, fun q h => Or.inr h, fun _ => hin, rfl⟩
    (fun pc lv Λ S ce sl hd hF hL h1 h2 H locs ls hP hl => W.widen h1 h2 (W.vret hx hb hr (fun t ht _ => ⟨⟨Λ, S, rfl, hF, hL, by rw [ht]; exact hP.1, hP.2.1⟩, hP.2.2.F ht⟩) hP.2.2.2.2 hd hlocks))
  have hl := lv_entry [.ref h0] (n := nL) hn1
  rw [lg_entry_eq]
  refine key s.heap [] _ ⟨?_, ?_, va_S.rf⟩ hl
  · exact hP
  · refine vD_of ?_ (fun q hq => ?_)
    · show [h0].Nodup
      simp
    · rcases List.mem_singleton.mp hq with rfl
      exact Or.inl ⟨0, _, rfl⟩
theorem n_blind {Δ : QDl} {k h0 sz : Nat} {raw : List Value} : FrameBlind (va_Pc [.ref h0] (fun U => U.heap.size = sz ∧ va_P Δ.1 classes [(h0, .inr (k, raw))] U.heap ∧ va_K Δ.1 classes (q_tys Δ) U ∧ q_nest U ∧ q_mk U)) :=
  fun a U g mk q => by
    obtain ⟨q0, q1, qP, qK, qN, qM⟩ := q
    exact ⟨q0, q1, qP, va_K.moved (u := U) (U := U.calling g mk a) (Vm.Alike.refl U.vm) qK, q_nest_same rfl qN, q_mk_same rfl qM⟩
section NR2
variable {cc : ByteArray} {own : String} {nL : Nat} {R : Room} {Δ : QDl} {fin : Bool} {G : NGT} {ce sl pc : Nat} {lv lv' : List (Nat × Value)} {st : List Value} {cs : va_W} {Λ : QLay} {S : QMem}
/-- new, dup, and the constructor's call: the made pool comes beside what was made -/
theorem np_make (hG : NAct cc own nL R Δ fin G) {y : MethodName} {bytes : ByteArray} {maxL fr lo mc ms k N : Nat} {raw : List Value} {F : Nat → QLay → QMem → Prop} {C : String} {T : u_T} (hC : QNt y bytes maxL fr lo mc ms k raw F) (hc : classes[k]? = some (C, T, N)) (hin : ∀ w ∈ u_ws C T N, w ∈ lw_g) (ty0 : Nat → FieldType) (hty : ∀ k, k < N → parseFieldDescriptor (T k).2.2.1 = some (ty0 k)) (hraw : ∀ j, j < N → defaultValue (ty0 j) = vp_V raw j) {idx idx2 : Nat} (hw1 : Cond.classLink own idx C ∈ lw_g) (hw2 : Cond.instantiable C N ∈ lw_g) (hw3 : Cond.initialized C ∈ lw_g) (hw4 : Cond.code y bytes maxL none ∈ lw_g) (hw5 : Cond.instanceMethod y ∈ lw_g) (hlk : Cond.methodLink own idx2 y ∈ lw_g ∨ ∀ s : State, q_mk s → va_Nw (.methodLinkNest own idx2 y "TreeDiffer") s)
    (hy : y.cls = C ∧ y.name = "<init>" ∧ y.cls ≠ "java/lang/invoke/MethodHandle" ∧ y.cls ≠ "java/lang/invoke/VarHandle" ∧ (parseMethodDescriptor y.desc).map (fun d => d.parameters.length) = some 0) (hR : fr + 1 ≤ R.frames ∧ 8 + (maxL + 11) + lo ≤ R.locals) (hst : (st.map fun v => v.category).sum ≤ 7) (hce : ce + 1 + mc ≤ R.cells) (hsl : sl + N + ms ≤ R.slots) (hd0 : decode cc pc = .ok (.new idx, 3)) (hd1 : decode cc (pc + 3) = .ok (.dup, 1)) (hd2 : decode cc (pc + 4) = .ok (.invokespecial idx2, 3)) (hΛ : LyA Λ)
    (kk : ∀ (q : Nat) (Λ1 : QLay) (S1 : QMem), F q Λ1 S1 → LyA Λ1 → Dj Λ Λ1 → G (ce + 1 + mc) (sl + N + ms) (pc + 7) lv (.ref q :: st) cs (lyM Λ Λ1) (meM Λ S S1)) : G ce sl pc lv st cs Λ S := by
  obtain ⟨p, l, e, s, m, args, below, meth, c, Q, A, hx, hb, hml, hown, hts, hn, hq, hK, hA, hfi, rfl⟩ := hG
  intro H locs ls hP hl
  refine va_new (ci := k) (fs := raw) (C := C) (T := T) (N := N) hx hb hts hin ty0 hty hown (hts _ hw1) (hts _ hw2) (hts _ hw3) hK hP.1 hP.2.1 hP.2.2 hA hc hraw (by omega) (by omega) hd0 (fun q H1 hP1 hD1 hS1 => ?_)
  refine lv_dup hx hb hd1 rfl ?_
  have hPc : va_P Δ.1 classes [(q, .inr (k, raw))] H1 := vP_iff.mpr (fun x hx => vP_iff.mp hP1 x (List.mem_append_right _ hx))
  have hFc : ∀ x : Nat, va_A [(q, .inr (k, raw))] H1.size x → A x := fun x hxA => by
    rcases hxA with ⟨i, ee, h⟩ | h
    · have hm := List.mem_singleton.mp (List.mem_of_getElem? h)
      have hq' : x = q := (Prod.mk.inj hm).1
      rw [hq']
      exact vD_A hD1 (q, .inr (k, raw)) (List.mem_append_right _ (List.mem_singleton.mpr rfl))
    · exact hA x (Nat.le_trans hS1.1 h)
  have hst2 : ((Value.ref q :: st).map fun v => v.category).sum ≤ 8 := by
    rw [List.map_cons, List.sum_cons]
    show 1 + _ ≤ 8
    omega
  have run : va_Run p l e R s m args below meth c H1 locs (ce + 1) (sl + N) mc ms (F0 m (pc + 4) ls (.ref q :: .ref q :: st)) (.ref q :: st) ((fun _ st oc t => (∃ (Λ : QLay) (S : QMem), oc = .returned none ∧ F q Λ S ∧ LyA Λ ∧ va_P Δ.1 classes (va_pl (yL Λ) (wF Δ Λ S)) t.heap ∧ va_D (va_A [(q, .inr (k, raw))] H1.size) (va_pl (yL Λ) (wF Δ Λ S))) ∧ va_F (va_A [(q, .inr (k, raw))] H1.size) st t : Array Value → State → Outcome → State → Prop) ([.ref q] : List Value).toArray) (va_A [(q, .inr (k, raw))] H1.size) := by
    have hpre : PreS s H1 (va_Pc [.ref q] (fun U => U.heap.size = H1.size ∧ va_P Δ.1 classes [(q, .inr (k, raw))] U.heap ∧ va_K Δ.1 classes (q_tys Δ) U ∧ q_nest U ∧ q_mk U)) [.ref q] := ⟨n_blind, fun U hU hW => ⟨rfl, by rw [hU], by rw [hU]; exact hPc, va_K.moved hW.alike hK, q_nest_warm hW hn, q_mk_warm hW hq⟩⟩
    rcases hlk with h | h
    · exact va_runI (As := []) (rest := .ref q :: st) ⟨hx, hb, hml, hown, hts⟩ (hC l Δ q H1.size) (cwI 0 hts (qm_gi hw4) rfl rfl rfl (by rw [hy.1]; exact hts _ hw3) (hts _ h) (hts _ hw5) hy.2.1 hy.2.2 hR) hpre rfl rfl hl.1 rfl (lv_room hst2) hd2 ⟨by omega, by omega⟩
    · exact va_runIN (As := []) (rest := .ref q :: st) ⟨hx, hb, hml, hown, hts⟩ (hC l Δ q H1.size) ⟨va_cnB 0 hts (qm_gi hw4) rfl rfl rfl (h s hq) (by rw [hy.1]; exact hts _ hw3) hy.2.2 hR, hy.2.1, hts _ hw5⟩ hpre rfl rfl hl.1 rfl (lv_room hst2) hd2 ⟨by omega, by omega⟩
  intro U hT X
  obtain ⟨v, st₀, t, U', L, h0, X', hL, e1, e2, ⟨⟨Λ1, S1, hv, hF, hLy, p1, d1⟩, hz, hk⟩, stp⟩ := run U hT X
  cases hv
  rw [h0] at hz hk
  have hws : ∀ x ∈ cs ++ va_pl (yL Λ) (wF Δ Λ S), x.1 < H1.size ∧ ¬ va_A [(q, .inr (k, raw))] H1.size x.1 := fun x hxm => by
    have hlt := (vP_iff.mp hP1 x (List.mem_append_left _ hxm)).lt
    refine ⟨hlt, fun hxA => ?_⟩
    rcases hxA with ⟨i, ee, h⟩ | h
    · have hm := List.mem_singleton.mp (List.mem_of_getElem? h)
      have hq' : x.1 = q := (Prod.mk.inj hm).1
      have nd := vD_nd hD1
      rw [List.map_append, List.nodup_append] at nd
      exact nd.2.2 x.1 (List.mem_map.mpr ⟨x, hxm, rfl⟩) q (List.mem_map.mpr ⟨(q, .inr (k, raw)), List.mem_singleton.mpr rfl, rfl⟩) hq'
    · omega
  have hdj : Dj Λ Λ1 := fun a h1 h2 => (hws (a, wF Δ Λ S a) (List.mem_append_right _ (List.mem_map.mpr ⟨a, h1, rfl⟩))).2 (vD_A d1 (a, wF Δ Λ1 S1 a) (List.mem_map.mpr ⟨a, h2, rfl⟩))
  have hpl : cs ++ va_pl (yL (lyM Λ Λ1)) (wF Δ (lyM Λ Λ1) (meM Λ S S1)) = (cs ++ va_pl (yL Λ) (wF Δ Λ S)) ++ va_pl (yL Λ1) (wF Δ Λ1 S1) := by rw [pl_M hdj hΛ hLy, List.append_assoc]
  have hPn : n_P Δ cs (lyM Λ Λ1) (meM Λ S S1) A s.heap U'.heap (locs ++ L) := by
    refine ⟨?_, ?_, ?_⟩
    · rw [hpl]
      refine vP_iff.mpr (fun x hxm => ?_)
      rcases List.mem_append.mp hxm with h | h
      · obtain ⟨z1, z2⟩ := hws x h
        exact (vP_iff.mp hP1 x (List.mem_append_left _ h)).kept (by rw [e1]; exact hk x.1 z1 z2)
      · rw [e1]
        exact vP_iff.mp p1 x h
    · rw [hpl]
      have nd := vD_nd hD1
      rw [List.map_append, List.nodup_append] at nd
      refine vD_of ?_ (fun x hxm => ?_)
      · rw [List.map_append, List.nodup_append]
        refine ⟨nd.1, vD_nd d1, fun a ha b hb hab => ?_⟩
        obtain ⟨x, hxm, rfl⟩ := List.mem_map.mp ha
        obtain ⟨z, hzm, rfl⟩ := List.mem_map.mp hb
        exact (hws x hxm).2 (by rw [hab]; exact vD_A d1 z hzm)
      · rcases List.mem_append.mp hxm with h | h
        · exact vD_A hD1 x (List.mem_append_left _ h)
        · exact hFc _ (vD_A d1 x h)
    · refine ⟨Nat.le_trans hS1.1 (by rw [e1]; exact hz), fun x z1 z2 => ?_, fun x hxm => ?_⟩
      · rw [e1, hk x (Nat.lt_of_lt_of_le z1 hS1.1) (fun z => z2 (hFc x z))]
        exact hS1.2.1 x z1 z2
      · rcases List.mem_append.mp hxm with h | h
        · exact hS1.2.2 x h
        · exact hFc _ (hL x h)
  obtain ⟨t2, a1, b1⟩ := kk q Λ1 S1 hF hLy hdj U'.heap (locs ++ L) ls hPn hl U' rfl X'
  exact ⟨t2, stp t2 a1, b1⟩
/-- a made object goes into an array of references -/
theorem np_aast (hG : NAct cc own nL R Δ fin G) {q0 j kv a n v : Nat} {f : Nat → Option Nat} {i : Int} (hj : (j = 2 ∧ kv = 4) ∨ (j = 3 ∧ kv = 5)) (ha : cs[q0]? = some (a, .inl (Δ.2 j, n, .inr (.inr (.inr (.inr f)))))) (hv : qob Λ kv v) (hi : 0 ≤ i ∧ i < n) (hn : n ≤ 65536) (hd : decode cc pc = .ok (.aastore, 1))
    (kk : G ce sl (pc + 1) lv st (cs.set q0 (a, .inl (Δ.2 j, n, .inr (.inr (.inr (.inr (va_up f i.toNat (some v)))))))) Λ S) : G ce sl pc lv (.ref v :: vI i :: .ref a :: st) cs Λ S := by
  obtain ⟨p, l, e, s, m, args, below, meth, c, Q, A, hx, hb, hml, hown, hts, hne, hq, hK, hA, hfi, rfl⟩ := hG
  intro H locs ls hP hl
  have hlt : q0 < cs.length := (List.getElem?_eq_some_iff.mp ha).1
  obtain ⟨kp, hkp⟩ := q_pool_get (Δ := Δ) (S := S) hv.1
  obtain ⟨fs, hfs⟩ := q_fs (Δ := Δ) (Λ := Λ) (S := S) (b := v) kv (by omega)
  rw [q_wF_at hv, hfs] at hkp
  obtain ⟨z1, z2⟩ := vI_nn (n := i) (N := i.toNat) (by omega) (by omega)
  have hin : vp_in (Int32.ofInt i) n := fun h => by
    rcases h with h | h
    · exact z1 h
    · rw [z2] at h; omega
  have ha' : (cs ++ va_pl (yL Λ) (wF Δ Λ S))[q0]? = some (a, .inl (Δ.2 j, n, .inr (.inr (.inr (.inr f))))) := by rw [List.getElem?_append_left hlt]; exact ha
  have hv' : (cs ++ va_pl (yL Λ) (wF Δ Λ S))[cs.length + kp]? = some (v, .inr (kv, fs)) := by rw [List.getElem?_append_right (Nat.le_add_right _ _), Nat.add_sub_cancel_left]; exact hkp
  rcases hj with ⟨rfl, rfl⟩ | ⟨rfl, rfl⟩
  · refine va_astq (D := Δ.1) (r := (qR4, qT4, 4)) hx hb hK hP.1 hP.2.1 hP.2.2 q0 2 (cs.length + kp) 4 ha' rfl hv' rfl hin hd (fun H1 locs1 h1 h2 h3 => ?_)
    rw [z2, List.set_append_left _ _ hlt] at h1 h2
    exact kk H1 locs1 ls ⟨h1, h2, h3⟩ hl
  · refine va_astq (D := Δ.1) (r := (qR5, qT5, 9)) hx hb hK hP.1 hP.2.1 hP.2.2 q0 3 (cs.length + kp) 5 ha' rfl hv' rfl hin hd (fun H1 locs1 h1 h2 h3 => ?_)
    rw [z2, List.set_append_left _ _ hlt] at h1 h2
    exact kk H1 locs1 ls ⟨h1, h2, h3⟩ hl
theorem arrV_cg {cA : ClassId} {n : Nat} {f g : Nat → Value} (h : ∀ j, j < n → f j = g j) : arrV cA n f = arrV cA n g := by
  unfold arrV
  congr 2
  funext j
  exact h j.val j.isLt
/-- an array's references, said otherwise -/
theorem np_refs (hG : NAct cc own nL R Δ fin G) (q0 : Nat) {a n : Nat} {cA : ClassId} {f : Nat → Option Nat} (g : Nat → Option Nat) (ha : cs[q0]? = some (a, .inl (cA, n, .inr (.inr (.inr (.inr f)))))) (hfg : ∀ j, j < n → f j = g j) (kk : G ce sl pc lv st (cs.set q0 (a, .inl (cA, n, .inr (.inr (.inr (.inr g)))))) Λ S) : G ce sl pc lv st cs Λ S := by
  obtain ⟨p, l, e, s, m, args, below, meth, c, Q, A, hx, hb, hml, hown, hts, hne, hq, hK, hA, hfi, rfl⟩ := hG
  intro H locs ls hP hl
  have hlt : q0 < cs.length := (List.getElem?_eq_some_iff.mp ha).1
  have ha' : (cs ++ va_pl (yL Λ) (wF Δ Λ S))[q0]? = some (a, .inl (cA, n, .inr (.inr (.inr (.inr f))))) := by rw [List.getElem?_append_left hlt]; exact ha
  have h0 : H[a]? = some (vp_cell cA (n, .inr (.inr (.inr (.inr f))))) := hP.1 q0 _ ha'
  have h1 : va_at Δ.1 classes (a, .inl (cA, n, .inr (.inr (.inr (.inr g))))) H := by
    show H[a]? = some (vp_cell cA (n, .inr (.inr (.inr (.inr g)))))
    rw [h0, vp_cell_q, vp_cell_q, arrV_cg (fun j hj => by rw [hfg j hj])]
  have hP' := hP.1.set hP.2.1 ha' h1 (fun _ _ => rfl)
  have hD' := hP.2.1.set (e := .inl (cA, n, .inr (.inr (.inr (.inr g))))) ha'
  rw [List.set_append_left _ _ hlt] at hP' hD'
  exact kk H locs ls ⟨hP', hD', hP.2.2⟩ hl
/-- a grid of ints comes -/
theorem np_grid (hG : NAct cc own nL R Δ fin G) {idx N M : Nat} {n k : Int} (hn : n = (N : Int)) (hk : k = (M : Int)) (hN : N ≤ 1000) (hM : M ≤ 1000) (hw : Cond.classLink own idx "[[I" ∈ lw_g) (hce : ce + (1 + N) ≤ R.cells) (hsl : sl + (N + N * M) ≤ R.slots) (hd : decode cc pc = .ok (.multianewarray idx 2, 4)) {c0 : Nat × va_E} {cs' : va_W}
    (kk : ∀ q : Nat, G (ce + 1 + N) (sl + N + N * M) (pc + 4) lv (.ref q :: st) (c0 :: (cs' ++ ((q, .inl (Δ.2 4, N, .inr (.inr (.inr (.inr (fun j => some (q + 1 + j))))))) :: (List.range N).map (fun j => (q + 1 + j, .inl (Δ.2 0, M, .inl (fun _ => Int32.ofInt 0))))))) Λ S) : G ce sl pc lv (vI k :: vI n :: st) (c0 :: cs') Λ S := by
  obtain ⟨p, l, e, s, m, args, below, meth, c, Q, A, hx, hb, hml, hown, hts, hne, hq, hK, hA, hfi, rfl⟩ := hG
  intro H locs ls hP hl
  obtain ⟨z1, z2⟩ := vI_nn hn (by omega)
  obtain ⟨y1, y2⟩ := vI_nn hk (by omega)
  refine W_grid hx hb hown (hts _ hw) hq.2.2.2.2.2.2.2.2.2.2 (hts _ m_97) z1 y1 z2 y2 hN hM hce hsl hd (fun cA cI hcA hcI => ?_)
  have eA : cA = Δ.2 4 := va_Kc (ty := .array .int) hK rfl hcA
  have eI : cI = Δ.2 0 := va_Kc (ty := .int) hK rfl hcI
  rw [eA, eI]
  generalize hH : gd_h H (Δ.2 4) (Δ.2 0) N M N = H'
  have f1 : H'.size = H.size + 1 + N := by rw [← hH]; exact gd_size
  have f2 : H'[H.size]? = some (gd_o (Δ.2 4) N H.size N) := by rw [← hH]; exact gd_out
  have f6 : ∀ j : Nat, j < N → H'[H.size + 1 + j]? = some (gd_r (Δ.2 0) M) := fun j hj => by rw [← hH]; exact gd_row hj
  have f5 : ∀ x : Nat, x < H.size → H'[x]? = H[x]? := fun x hx => by rw [← hH]; exact gd_old hx
  have old : ∀ x ∈ (c0 :: cs') ++ va_pl (yL Λ) (wF Δ Λ S), x.1 < H.size := fun x hx => (vP_iff.mp hP.1 x hx).lt
  have hperm : ((c0 :: (cs' ++ ((H.size, (.inl (Δ.2 4, N, .inr (.inr (.inr (.inr (fun j => some (H.size + 1 + j)))))) : va_E)) :: (List.range N).map (fun j => (H.size + 1 + j, (.inl (Δ.2 0, M, .inl (fun _ => Int32.ofInt 0)) : va_E)))))) ++ va_pl (yL Λ) (wF Δ Λ S)).Perm (((c0 :: cs') ++ va_pl (yL Λ) (wF Δ Λ S)) ++ ((H.size, (.inl (Δ.2 4, N, .inr (.inr (.inr (.inr (fun j => some (H.size + 1 + j)))))) : va_E)) :: (List.range N).map (fun j => (H.size + 1 + j, (.inl (Δ.2 0, M, .inl (fun _ => Int32.ofInt 0)) : va_E))))) := sw3 (a := c0 :: cs')
  refine kk H.size H' _ ls ⟨vP_perm hperm ?_, vD_perm hperm ?_, ?_⟩ hl
  · refine vP_iff.mpr (fun x hx => ?_)
    rcases List.mem_append.mp hx with h | h
    · exact (vP_iff.mp hP.1 x h).kept (f5 x.1 (old x h))
    · rcases List.mem_cons.mp h with rfl | h
      · show H'[H.size]? = some (vp_cell _ _)
        rw [vp_cell_q, f2]
        exact congrArg some (arrV_cg (fun j hj => by show (if j < N then _ else _) = _; rw [if_pos hj]; rfl))
      · obtain ⟨j, hj, rfl⟩ := List.mem_map.mp h
        exact f6 j (List.mem_range.mp hj)
  · refine vD_of ?_ (fun x hx => ?_)
    · rw [List.map_append, List.nodup_append]
      refine ⟨vD_nd hP.2.1, ?_, fun a ha b hb hab => ?_⟩
      · rw [List.map_cons, List.map_map, List.nodup_cons]
        refine ⟨fun h => ?_, ?_⟩
        · obtain ⟨j, hj, hh⟩ := List.mem_map.mp h
          have hh : H.size + 1 + j = H.size := hh
          omega
        · rw [List.nodup_iff_pairwise_ne, List.pairwise_iff_getElem]
          intro i j hi hj hij
          rw [List.getElem_map, List.getElem_map, List.getElem_range, List.getElem_range]
          show H.size + 1 + i ≠ H.size + 1 + j
          omega
      · obtain ⟨x, hxm, rfl⟩ := List.mem_map.mp ha
        have h1 := old x hxm
        obtain ⟨z, hzm, rfl⟩ := List.mem_map.mp hb
        rcases List.mem_cons.mp hzm with rfl | h
        · have hab : x.1 = H.size := hab
          omega
        · obtain ⟨j, hj, rfl⟩ := List.mem_map.mp h
          have hab : x.1 = H.size + 1 + j := hab
          omega
    · rcases List.mem_append.mp hx with h | h
      · exact vD_A hP.2.1 x h
      · have hs := hP.2.2.1
        rcases List.mem_cons.mp h with rfl | h
        · exact hA _ hs
        · obtain ⟨j, hj, rfl⟩ := List.mem_map.mp h
          exact hA (H.size + 1 + j) (by omega)
  · refine ⟨by rw [f1]; have := hP.2.2.1; omega, fun x z1 z2 => ?_, fun x hx => ?_⟩
    · rw [f5 x (Nat.lt_of_lt_of_le z1 hP.2.2.1)]
      exact hP.2.2.2.1 x z1 z2
    · exact hP.2.2.2.2 x hx
/-- the object is whole: it joins the pool -/
theorem np_obj (hG : NAct cc own nL R Δ fin G) {k h0 : Nat} {as : QAs} {rf : Nat → Int → Nat} {S0 : QMem} (hk2 : ∀ t ∈ as, 11 ≤ t.2.2.1 ∧ t.2.2.1 ≤ 15 ∧ tI k t.1 = false) (hcs : (h0, wE k Δ (obL k h0 as rf) S0 h0) :: as.map (fun t => (t.2.1, arE Δ as S0 rf h0 t)) = cs) (hLA : (h0 :: as.map (fun t => t.2.1)).Nodup → LyA (obL k h0 as rf)) (hΛ : LyA Λ)
    (kk : (h0 :: as.map (fun t => t.2.1)).Nodup → Dj (obL k h0 as rf) Λ → LyA (obL k h0 as rf) → G ce sl pc lv st [] (lyM (obL k h0 as rf) Λ) (meM (obL k h0 as rf) S0 S)) : G ce sl pc lv st cs Λ S := by
  obtain ⟨p, l, e, s, m, args, below, meth, c, Q, A, hx, hb, hml, hown, hts, hne, hq, hK, hA, hfi, rfl⟩ := hG
  intro H locs ls hP hl
  subst hcs
  have nd := vD_nd hP.2.1
  rw [List.map_append, List.nodup_append] at nd
  have hn : (h0 :: as.map (fun t => t.2.1)).Nodup := by
    have h1 := nd.1
    rw [List.map_cons, List.map_map] at h1
    exact h1
  have hL := hLA hn
  have hpl := ob_pl (k := k) (rf := rf) (Δ := Δ) (S := S0) hn (fun t ht => ⟨(hk2 t ht).1, (hk2 t ht).2.1⟩)
  have hdj : Dj (obL k h0 as rf) Λ := fun a h1 h2 => by
    rw [← hpl] at nd
    exact nd.2.2 a (List.mem_map.mpr ⟨(a, wF Δ (obL k h0 as rf) S0 a), List.mem_map.mpr ⟨a, h1, rfl⟩, rfl⟩) a (List.mem_map.mpr ⟨(a, wF Δ Λ S a), List.mem_map.mpr ⟨a, h2, rfl⟩, rfl⟩) rfl
  refine kk hn hdj hL H locs ls ⟨?_, ?_, hP.2.2⟩ hl
  · rw [List.nil_append, pl_M hdj hL hΛ, hpl]
    exact hP.1
  · rw [List.nil_append, pl_M hdj hL hΛ, hpl]
    exact hP.2.1
/-- from there on the walk is a method's -/
theorem np_walk (hG : NAct cc own nL R Δ fin G) (hΛ : LayOk Λ) (hok : okP Λ S) (hce : ce ≤ R.cells) (hsl : sl ≤ R.slots) (kk : ∀ G' : Nat → List (Nat × Value) → List Value → QMem → Prop, QAct cc own nL R Λ G' → (∀ (pc : Nat) (lv : List (Nat × Value)) (st : List Value) (S' : QMem), (okP Λ S' → G ce sl pc lv st [] Λ S') → G' pc lv st S') → G' pc lv st S) : G ce sl pc lv st [] Λ S := by
  obtain ⟨p, l, e, s, m, args, below, meth, c, Q, A, hx, hb, hml, hown, hts, hne, hq, hK, hA, hfi, rfl⟩ := hG
  intro H locs ls hP hl
  exact kk (fun pc lv st S => ∀ (H : Heap) (locs : List Loc) (ls : Array Slot), q_P Δ Λ S A s.heap H locs → lv_has ls nL lv → W p l e R s m args below meth c H locs ce sl Q (F0 m pc ls st)) ⟨p, l, e, s, m, args, below, meth, c, ce, sl, Q, A, Δ, hx, hb, hml, hown, hts, hne, hK, hΛ, hA, hce, hsl, rfl⟩ (fun pc lv st S' h H locs ls hP hl => h hP.2.2.2 H locs ls ⟨hP.1, hP.2.1, hP.2.2.1⟩ hl) H locs ls ⟨hP.1, hP.2.1, hP.2.2, hok⟩ hl
end NR2
