/-! a grid of ints (multianewarray, two dimensions). What stands behind it is said at once: the old heap, then the outer row, then the inner rows. No old cell is written, so the walk's places stay as they are. -/
def q_ma (U : State) : Prop := ∃ (comp cA : ClassId) (kA : Class), U.vm.findClass "[I" = some comp ∧ U.vm.findClass "[[I" = some cA ∧ U.vm.classes[cA]? = some kA ∧ kA.kind = .array comp (.array .int)
theorem q_ma_moved {u U : State} (hvm : u.vm.Alike U.vm) (h : q_ma u) : q_ma U := by
  obtain ⟨comp, cA, kA, h1, h2, h3, h4⟩ := h
  obtain ⟨k', hk', he⟩ := hvm.2.2 _ _ h3
  exact ⟨comp, cA, k', by rw [hvm.findClass]; exact h1, by rw [hvm.findClass]; exact h2, hk', by rw [he]; exact h4⟩
/-- what a class is when it was found as the one over comp, and its name and type fit -/
theorem gd_kind {k : Class} {comp c : ClassId} {f : Option ClassId} (a : (match k.kind with | .array x _ => x == comp | _ => false) = true) (b : (match k.kind with | .array _ ty => decide (ty = .array .int) && decide (f = some c) | _ => false) = true) : k.kind = .array comp (.array .int) ∧ f = some c := by
  split at a
  · rename_i x ty e
    rw [e] at b ⊢
    obtain ⟨b1, b2⟩ := Bool.and_eq_true_iff.mp b
    rw [eq_of_beq a, of_decide_eq_true b1]
    exact ⟨rfl, of_decide_eq_true b2⟩
  · exact absurd a Bool.false_ne_true
theorem q_ma_of {args : Array Value} {s : State} (h : (Cond.arrayOver (.array .int)).before args s = true) : q_ma s := by
  have nI : (FieldType.array .int).toString = "[I" := by decide
  have nA : "[" ++ "[I" = "[[I" := by decide
  unfold Cond.before Cond.holds at h
  have v := eq_of_beq h
  simp only [Cond.value, nI, nA] at v
  obtain ⟨comp, f1, v⟩ := Option.bind_eq_some_iff.mp v
  obtain ⟨c, f2, v⟩ := Option.bind_eq_some_iff.mp v
  obtain ⟨k, f3, v⟩ := Option.map_eq_some_iff.mp v
  have w := Array.of_findIdx?_eq_some f2
  rw [f3] at w
  obtain ⟨t1, t2⟩ := gd_kind w v
  exact ⟨comp, c, k, f1, t2, f3, t1⟩
/-- a row of zeros -/
def gd_r (cI : ClassId) (M : Nat) : Cell := arrV cI M (fun _ => .int 0)
/-- the outer row at a heap of size h, i of its places filled -/
def gd_o (cA : ClassId) (N h i : Nat) : Cell := arrV cA N (fun j => if j < i then .ref (h + 1 + j) else .null)
/-- the heap with i inner rows -/
def gd_h (H : Heap) (cA cI : ClassId) (N M i : Nat) : Heap := H.push (gd_o cA N H.size i) ++ Array.replicate i (gd_r cI M)
def gd_s (T : State) (cA cI : ClassId) (N M i : Nat) : State := { T with heap := gd_h T.heap cA cI N M i, slotsUsed := T.slotsUsed + (N + i * M) }
section GD
variable {H : Heap} {cA cI : ClassId} {N M i : Nat}
theorem gd_list : (gd_h H cA cI N M i).toList = H.toList ++ gd_o cA N H.size i :: List.replicate i (gd_r cI M) := by simp [gd_h]
theorem gd_size : (gd_h H cA cI N M i).size = H.size + 1 + i := by simp [gd_h]
theorem gd_at (q : Nat) : (gd_h H cA cI N M i)[q]? = (H.toList ++ gd_o cA N H.size i :: List.replicate i (gd_r cI M))[q]? := by rw [← gd_list, Array.getElem?_toList]
theorem gd_old {q : Nat} (h : q < H.size) : (gd_h H cA cI N M i)[q]? = H[q]? := by
  rw [gd_at, List.getElem?_append_left h, Array.getElem?_toList]
theorem gd_out : (gd_h H cA cI N M i)[H.size]? = some (gd_o cA N H.size i) := by
  rw [gd_at, List.getElem?_append_right (Nat.le_of_eq Array.length_toList), Array.length_toList, Nat.sub_self]; rfl
theorem gd_row {j : Nat} (h : j < i) : (gd_h H cA cI N M i)[H.size + 1 + j]? = some (gd_r cI M) := by
  rw [gd_at, List.getElem?_append_right (by rw [Array.length_toList]; omega), Array.length_toList, show H.size + 1 + j - H.size = j + 1 by omega, List.getElem?_cons_succ, List.getElem?_replicate, if_pos h]
theorem gd_sum : (((gd_h H cA cI N M i).toList.drop H.size).map (·.slots.size)).sum = N + i * M := by
  rw [gd_list, List.drop_left' Array.length_toList, List.map_cons, List.map_replicate, List.sum_cons, List.sum_replicate_nat]
  simp only [gd_o, gd_r, arrV_size]
/-- the outer row comes -/
theorem gd_zero (T : State) : T.pushCell (arrV cA N (fun _ => .null)) = gd_s T cA cI N M 0 := by
  have e1 : gd_h T.heap cA cI N M 0 = T.heap.push (arrV cA N (fun _ => .null)) := by simp [gd_h, gd_o]
  simp only [gd_s, e1, State.pushCell, arrV_size, Nat.zero_mul, Nat.add_zero]
/-- one inner row more, laid into its place -/
theorem gd_next (T : State) : ((gd_s T cA cI N M i).pushCell (gd_r cI M)).setCell T.heap.size ((gd_o cA N T.heap.size i).setSlot i (.ref (T.heap.size + 1 + i))) = gd_s T cA cI N M (i + 1) := by
  have e0 : (gd_o cA N T.heap.size i).setSlot i (.ref (T.heap.size + 1 + i)) = gd_o cA N T.heap.size (i + 1) := by
    unfold gd_o
    rw [arrV_store]
    congr 1
    funext j
    rcases Nat.lt_trichotomy j i with h | h | h
    · simp [updV, h, Nat.ne_of_lt h, Nat.lt_succ_of_lt h]
    · simp [updV, h]
    · simp [updV, Nat.ne_of_gt h, Nat.not_lt_of_gt h, show ¬ j < i + 1 by omega]
  have e1 : ((gd_h T.heap cA cI N M i).push (gd_r cI M)).setIfInBounds T.heap.size (gd_o cA N T.heap.size (i + 1)) = gd_h T.heap cA cI N M (i + 1) := by
    refine Array.ext' ?_
    rw [Array.toList_setIfInBounds, Array.toList_push, gd_list, gd_list, List.append_assoc, List.set_append_right _ _ (Nat.le_of_eq Array.length_toList), Array.length_toList, Nat.sub_self, List.cons_append, List.set_cons_zero, List.replicate_succ']
  have e2 : T.slotsUsed + (N + i * M) + (gd_r cI M).slots.size = T.slotsUsed + (N + (i + 1) * M) := by
    rw [show (gd_r cI M).slots.size = M from arrV_size _ _ _, Nat.add_mul, Nat.one_mul, Nat.add_assoc, Nat.add_assoc]
  rw [e0]
  simp only [gd_s, State.pushCell, State.setCell, e1, e2]
end GD
section GS
variable {p : Program} {l : Launch} {e : Env} {R : Room} {s : State} {m : MethodId} {args : Array Value} {below : List Frame} {meth : Method} {c : Code}
/-- the walk stands there, with the same places -/
theorem gd_stand {T : State} {locs : List Loc} {cells slots : Nat} (X : Stand p l e R s m args below meth c T locs cells slots) (cA cI : ClassId) (N M i : Nat) : Stand p l e R s m args below meth c (gd_s T cA cI N M i) locs (cells + 1 + i) (slots + N + i * M) := by
  have own : T.setFrames T.frames = T := congrArg (fun U : State => U.setVm T.vm) (Jvm.Sym.setFrames_own X.same)
  have grown : T.sameButNew ((gd_s T cA cI N M i).setVm T.vm) [] (1 + i) (N + i * M) := by
    refine ⟨?_, ?_, ?_, ?_, ?_, fun a x hx => ⟨x, ?_, rfl, rfl, fun _ _ => rfl⟩⟩
    · show gd_s T cA cI N M i = { T.setFrames T.frames with heap := gd_h T.heap cA cI N M i, slotsUsed := T.slotsUsed + (N + i * M) }
      rw [own]; rfl
    · show T.heap.size ≤ (gd_h T.heap cA cI N M i).size
      rw [gd_size]; omega
    · show (gd_h T.heap cA cI N M i).size ≤ _
      rw [gd_size]; omega
    · exact congrArg (T.slotsUsed + ·) gd_sum.symm
    · exact Nat.le_of_eq gd_sum
    · exact (gd_old (Array.getElem?_eq_some_iff.mp hx).1).trans hx
  have h := X.moved (T₂ := gd_s T cA cI N M i) ⟨X.here.top, X.here.above, X.here.running, X.here.runnable, X.here.alone, X.here.code, X.here.plain⟩ X.tail rfl rfl (State.WarmedH.refl T) grown
  rw [List.append_nil, ← Nat.add_assoc, ← Nat.add_assoc] at h
  exact h
end GS
section GW
variable {E : CtlPost} {e : Env}
/-- a counted loop: I i holds when the places below i are done -/
theorem gd_loop {f : Nat → PUnit → Sem (ForInStep PUnit)} {Q : PUnit → Pre} {N : Nat} (I : Nat → State → Prop) (go : ∀ i s d acts (P : ForInStep PUnit → Pre), i < N → I i s → (∀ s' d' acts', I (i + 1) s' → P (.yield PUnit.unit) d' acts' s') → Jvm.Sem.wp (f i PUnit.unit) P E e d acts s) (done : ∀ s d acts, I N s → Q PUnit.unit d acts s) : ∀ (r i : Nat) (s : State) (d : Bool) (acts : List Action), i + r = N → I i s → Jvm.Sem.wp (forIn (List.range' i r) PUnit.unit f) Q E e d acts s
  | 0, i, s, d, acts, h, hi => by
    rw [List.range'_zero, List.forIn_nil, wp_pure']
    exact done s d acts (h ▸ hi)
  | r + 1, i, s, d, acts, h, hi => by
    rw [List.range'_succ, List.forIn_cons, wp_bind']
    exact go i s d acts _ (by omega) hi (fun s' d' acts' h' => gd_loop I go done r (i + 1) s' d' acts' (by omega) h')
/-- an inner row is made -/
theorem gd_one {s : State} {d : Bool} {acts : List Action} {cI cc : ClassId} {kI : Class} {k : Int32} {M : Nat} (hI : s.vm.classes[cI]? = some kI) (tyI : kI.kind = .array cc .int) (hk : ¬ k < 0) (eM : k.toNatClampNeg = M) (la : ¬ M > e.platform.arrayLengthLimit) (lh : ¬ M * 4 > e.platform.maxHeapBytes) (rc : s.heap.size < e.platform.maxCells) (rs : s.slotsUsed + M ≤ e.platform.maxSlots) {P : Addr → Pre} (hp : ∀ acts', P s.heap.size d acts' (s.pushCell (gd_r cI M))) : Jvm.Sem.wp (multianewarray.make cI [k]) P E e d acts s := by
  unfold multianewarray.make
  simp only [wp_bind', W.ite, if_neg hk, wp_pure', W.theClass]
  refine ⟨kI, hI, ?_⟩
  rw [tyI, eM]
  refine W.newArray_of hI tyI la lh rc rs rfl (fun acts' => ?_)
  have h := hp acts'
  rw [gd_r, ← arrV_new] at h
  exact h
/-- the grid is made -/
theorem gd_make {s : State} {d : Bool} {acts : List Action} {cA cI cc : ClassId} {kA kI : Class} {n k : Int32} {N M : Nat} (hA : s.vm.classes[cA]? = some kA) (tyA : kA.kind = .array cI (.array .int)) (hI : s.vm.classes[cI]? = some kI) (tyI : kI.kind = .array cc .int) (hn : ¬ n < 0) (hk : ¬ k < 0) (eN : n.toNatClampNeg = N) (eM : k.toNatClampNeg = M) (la : ∀ z, z ≤ 1000 → ¬ z > e.platform.arrayLengthLimit) (lh : ∀ z, z ≤ 1000 → ¬ z * 4 > e.platform.maxHeapBytes) (hN : N ≤ 1000) (hM : M ≤ 1000) (rc : s.heap.size + (1 + N) ≤ e.platform.maxCells) (rs : s.slotsUsed + (N + N * M) ≤ e.platform.maxSlots) {P : Addr → Pre} (hp : ∀ d' acts', P s.heap.size d' acts' (gd_s s cA cI N M N)) : Jvm.Sem.wp (multianewarray.make cA [n, k]) P E e d acts s := by
  unfold multianewarray.make
  simp only [wp_bind', W.ite, if_neg hn, wp_pure', W.theClass]
  refine ⟨kA, hA, ?_⟩
  rw [tyA, eN]
  dsimp only
  rw [wp_bind']
  refine W.newArray_of (init := .null) hA tyA (la N hN) (lh N hN) (by omega) (by omega) rfl (fun acts' => ?_)
  have h0 : s.pushCell { cls := cA, slots := Array.replicate N .null } = gd_s s cA cI N M 0 := by
    rw [← gd_zero, ← arrV_new]
  rw [h0]
  have hf : List.find? (fun z : Int32 => decide (z < 0)) [k] = none := by rw [List.find?_cons_of_neg (by simpa using hk), List.find?_nil]
  simp only [hf, ite_self, wp_bind', wp_pure', Std.Legacy.Range.forIn_eq_forIn_range']
  refine gd_loop (N := N) (fun i U => U = gd_s s cA cI N M i) (fun i U d acts P hi hU kk => ?_) (fun U d acts hU => ?_) _ 0 _ _ _ ?_ rfl
  · subst hU
    have room : (i + 1) * M ≤ N * M := Nat.mul_le_mul_right M hi
    rw [Nat.add_mul, Nat.one_mul] at room
    rw [wp_bind']
    refine gd_one (s := gd_s s cA cI N M i) hI tyI hk eM (la M hM) (lh M hM) ?_ ?_ (fun acts' => ?_)
    · show (gd_h s.heap cA cI N M i).size < _
      rw [gd_size]; omega
    · show s.slotsUsed + (N + i * M) + M ≤ _
      omega
    · have hz : (gd_s s cA cI N M i).heap.size = s.heap.size + 1 + i := gd_size
      have lt : s.heap.size < (gd_s s cA cI N M i).heap.size := by omega
      rw [hz, wp_bind', W.writeLoc]
      refine ⟨gd_o cA N s.heap.size i, (State.heap_pushCell_of_lt _ _ lt).trans gd_out, by simp [gd_o, arrV], by rw [gd_o, arrV_size]; exact hi, ?_, ?_⟩
      · show State.fitsSlot _ cA .none i _ = true
        simp [State.fitsSlot, State.slotType?, gd_s, State.pushCell, hA, tyA, fits]
      · exact kk _ _ _ (gd_next s)
  · subst hU
    exact hp _ _
  · simp [Std.Legacy.Range.size]
end GW
section GR
variable {p : Program} {l : Launch} {e : Env} {R : Room} {s : State} {m : MethodId} {args : Array Value} {below : List Frame} {meth : Method} {c : Code} {H : Heap} {locs : List Loc} {cells slots : Nat} {Q : State → Prop} {cc : ByteArray} {pc : Nat} {ls : Array Slot} {rest : List Value}
theorem W_grid (hexec : p.tables.exec = Jvm.exec) (hb : c.code = cc) {own : String} {index : Nat} (hown : s.vm.findClass own = some m.cls) (hclink : (Cond.classLink own index "[[I").before args s = true) (hma : q_ma s) (harr : (Cond.arrayClass .int).before args s = true) {n k : Int32} {N M : Nat} (hn : ¬ n < 0) (hk : ¬ k < 0) (eN : n.toNatClampNeg = N) (eM : k.toNatClampNeg = M) (hN : N ≤ 1000) (hM : M ≤ 1000) (rc : cells + (1 + N) ≤ R.cells) (rs : slots + (N + N * M) ≤ R.slots) (hd : decode cc pc = .ok (.multianewarray index 2, 4))
    (kk : ∀ cA cI : ClassId, s.vm.findClass "[[I" = some cA → s.vm.findClass "[I" = some cI → W p l e R s m args below meth c (gd_h H cA cI N M N) locs (cells + 1 + N) (slots + N + N * M) Q (F0 m (pc + 4) ls (.ref H.size :: rest))) : W p l e R s m args below meth c H locs cells slots Q (F0 m pc ls (.int k :: .int n :: rest)) := by
  rintro T rfl X
  subst hb
  obtain ⟨cI, cA, kA, fI, fA, gA, tyA⟩ := hma
  obtain ⟨cI', kI, cc, fI', gI, tyI⟩ := Cond.arrayClass_spec harr
  obtain rfl : cI' = cI := Option.some.inj (fI'.symm.trans fI)
  obtain ⟨cX, fX, lk⟩ := Cond.classLink_spec hown hclink e.platform (by rw [X.admits.platform])
  obtain rfl : cX = cA := Option.some.inj (fX.symm.trans fA)
  have en := State.classEntry (e := e) X.warmed lk
  obtain ⟨V, hV⟩ : ∃ V, V = T.vm.noted m.cls index (.cls cX) := ⟨_, rfl⟩
  rw [← hV] at en
  obtain ⟨gv, wm, -⟩ := en
  obtain ⟨kA', gA', eA⟩ := wm.alike.2.2 _ _ gA
  obtain ⟨kI', gI', eI⟩ := wm.alike.2.2 _ _ gI
  obtain ⟨r1, r2⟩ := X.roomAbove rc rs
  have XG := gd_stand (X.noted wm) cX cI' N M N
  obtain ⟨t, st, qt⟩ := kk cX cI' fA fI (gd_s (T.setVm V) cX cI' N M N) rfl XG
  refine ⟨t, ?_, qt⟩
  have la : ∀ z, z ≤ 1000 → ¬ z > e.platform.arrayLengthLimit := fun z hz => by rw [Launch.admits_arrayLengthLimit X.admits]; omega
  have lh : ∀ z, z ≤ 1000 → ¬ z * 4 > e.platform.maxHeapBytes := fun z hz => by rw [Launch.admits_maxHeapBytes X.admits]; omega
  have made : ∀ {E : CtlPost} {d : Bool} {acts : List Action} {P : Addr → Pre}, (∀ d' acts', P T.heap.size d' acts' ((gd_s (T.setVm V) cX cI' N M N).setTop (F0 m pc ls rest))) → Jvm.Sem.wp (multianewarray.make cX [n, k]) P E e d acts ((T.setVm V).setTop (F0 m pc ls rest)) := fun hp =>
    gd_make (s := (T.setVm V).setTop (F0 m pc ls rest)) (kA := kA') (kI := kI') gA' (by rw [eA]; exact tyA) gI' (by rw [eI]; exact tyI) hn hk eN eM la lh hN hM r1 r2 hp
  jvm_step X.here [hexec, hd]
  unfold multianewarray.sem
  rw [wp_bind', W.resolveClassAt_links (State.method?_setTop _ X.here.top) gv, wp_bind', W.popN]
  refine (if_neg (by decide)).mpr ?_
  refine ⟨_, State.topJava?_setTop' (s := T.setVm V) _ X.here.top, [.int n, .int k], rest, rfl, rfl, ?_⟩
  rw [State.setVm_setTop, State.setTop_setTop]
  simp only [List.mapM_cons, List.mapM_nil, wp_bind', wp_pure']
  refine made (fun d' acts' => ?_)
  rw [wp_bind', W.mark, W.pushRef]
  refine ⟨_, State.topJava?_setTop' _ XG.here.top, fun acts => ?_⟩
  rw [State.setTop_setTop]
  simp [jvm, XG.here.top]
  exact st
end GR
