/-! THE CLAIM OUT OF ONE WALK OF THE LAW'S BODY. Your part is whole_start (and what it stands on); all else here is the same for every law, but numbers. -/
def R_law : String := "TreeDifferLaw"
def lw_P (b : Addr) (xs : List Int32) (args : Array Value) (s : State) : Prop := args = #[.ref b] ∧ s.IntsAt b xs ∧ xs.length ≤ 2048 ∧ (Jvm.Cond.and given_1 narrow_1).before args s = true
def lw_Q (_ : Array Value) (s : State) (o : Outcome) (t : State) : Prop := o = .returned (some (.int 1)) ∧ Framed s o t [] 600000 7302250
def lw_Z (below : List Frame) (a : Array Value) (s : State) : State → Prop := fun t => ∃ o, t.status = .running ∧ Ended t below o ∧ lw_Q a s o t
/-- the law's own end, with 1 on the stack, nothing written that was there before, its room as the claim has it -/
theorem lw_ret {p : Program} {l : Launch} {e : Env} {s : State} {m : MethodId} {below : List Frame} {meth : Method} {c : Code} {b : Nat} (hx : p.tables.exec = Jvm.exec) (hb : c.code = code) (hr : meth.sig.returnType = ret) (hlocks : meth.locks = false) {pc : Nat} {H : Heap} {ls : Array Slot} (hdg : decode code pc = .ok (.ireturn, 1)) : W p l e room_1 s m #[Value.ref b] below meth c H [] 600000 7302250 (lw_Z below #[Value.ref b] s) (F0 m pc ls [.int 1]) := by
  intro T hT X
  obtain ⟨fs, hret, hrun, hended, hW, hframe⟩ := X.leave (v := some (.int 1)) (hlocks := hlocks) (fun h => by rw [hr] at h; cases h)
  have hmeth' : T.vm.method? m = some meth := X.method'
  refine ⟨T.setFrames fs, ?_, .returned (some (.int 1)), hrun, hended, rfl, ⟨_, rfl⟩, hW, hframe⟩
  jvm_step X.here [X.here.top, hx, hb, hdg, hmeth', hr, ret, narrow_b1]
  (try refine ⟨rfl, ?_⟩); (try refine ⟨rfl, ?_⟩)
  first | (intro acts; rw [hret _ acts rfl rfl rfl]) | rw [hret _ _ rfl rfl rfl]
  exact Steps.refl _
/-- what holds at the law's entry: the machine, the code, the tables' words (any of lw_tbl by 'hts w (by decide +kernel)'), the script of L ints xs at the cell b, what the Statement gives of the start (any of its parts by flat_of_before) -/
def lw_At (p : Program) (s : State) (m : MethodId) (meth : Method) (c : Code) (b L : Nat) (xs : Nat → Int32) : Prop :=
  p.tables.exec = Jvm.exec ∧ c.code = code ∧ meth.sig.returnType = ret ∧ c.maxLocals = 4 ∧ s.vm.findClass R_law = some m.cls ∧ (∀ w ∈ lw_tbl, w.before #[Value.ref b] s = true) ∧ va_X b L xs s s.heap ∧ b < s.heap.size ∧ meth.locks = false ∧ (Jvm.Cond.and given_1 narrow_1).before #[Value.ref b] s = true
set_option maxRecDepth 100000 in
set_option maxHeartbeats 4000000 in
theorem whole_start {p : Program} {e : Env} {s : State} {m : MethodId} {below : List Frame} {meth : Method} {c : Code} (l : Launch) (hflags : l.flags = flags0) {b L : Nat} {xs : Nat → Int32} (hL : L ≤ 2048) (C0 : lw_At p s m meth c b L xs) : W p l e room_1 s m #[Value.ref b] below meth c s.heap [] 0 0 (lw_Z below #[Value.ref b] s) (entryFrame m ([Value.ref b] : List Value).toArray 4) := by
  obtain ⟨hx, hb, hr, hml, hown, hts, hX, hbl, hlocks, hgv⟩ := C0
  have hg : ∀ w ∈ lw_g, w.before #[Value.ref b] s = true := fun w hw => hts w (List.mem_filter.mp hw).1
  obtain ⟨Δ, hK⟩ := lw_K hts
  have hn := lw_nest hts
  have hmk := lw_mk hts
  have hl := lv_entry ([.ref b]) (n := 4) (Nat.le_of_ble_eq_true rfl)
  rw [lg_entry_eq]
  have key : ∀ G : NGT, (G = fun ce sl pc lv st cs Λ S => ∀ (H : Heap) (locs : List Loc) (ls : Array Slot), n_P Δ cs Λ S (fun q => s.heap.size ≤ q) s.heap H locs → lv_has ls 4 lv → W p l e room_1 s m #[Value.ref b] below meth c H locs ce sl (lw_Z below #[Value.ref b] s) (F0 m pc ls st)) → G 0 0 0 [(0, .ref b)] [] [] lyE meE := by
    intro G eG
    have hG : NAct code "TreeDifferLaw" 4 room_1 Δ false G := ⟨p, l, e, s, m, _, below, meth, c, _, fun q => s.heap.size ≤ q, hx, hb, hml, hown, hg, hn, hmk, hK, fun _ h => h, fun h => (nomatch h), eG⟩
    refine np_make (pc := 0) hG n_TD rfl qi9 qt9 qto9 rw9 m_13 m_14 m_1 m_17 m_16 (Or.inl m_15) (by decide +kernel) ⟨by decide, by decide⟩ (Nat.le_of_ble_eq_true rfl) (Nat.le_of_ble_eq_true rfl) (Nat.le_of_ble_eq_true rfl) d_La_0 d_La_3 d_La_4 LyA_E (fun T L1 M1 f1 g1 j1 => ?_)
    refine np_astore_n (pc := 7) (lv' := [(0, .ref b), (1, .ref T)]) hG d_La_7 (by decide) rfl ?_
    have hA1 := LyA_M j1 LyA_E g1
    have u1 := Sub_2 (S := meE) (S' := M1) j1
    refine np_make (pc := 8) hG n_Mo rfl qi10 qt10 qto10 rw10 m_785 m_786 m_11 m_789 m_788 (Or.inl m_787) (by decide +kernel) ⟨by decide, by decide⟩ (Nat.le_of_ble_eq_true rfl) (Nat.le_of_ble_eq_true rfl) (Nat.le_of_ble_eq_true rfl) d_La_8 d_La_11 d_La_12 hA1 (fun q L2 M2 f2 g2 j2 => ?_)
    refine np_astore_n (pc := 15) (lv' := [(0, .ref b), (1, .ref T), (2, .ref q)]) hG d_La_15 (by decide) rfl ?_
    refine np_iconst (pc := 16) hG d_La_16 ?_
    refine np_istore_n (pc := 17) (lv' := [(0, .ref b), (1, .ref T), (2, .ref q), (3, vI 0)]) hG d_La_17 (by decide) rfl ?_
    have hA2 := LyA_M j2 hA1 g2
    have s1 := u1.tr (Sub_1 (Λ' := L2) (S' := M2))
    have s2 := Sub_2 (S := meM lyE meE M1) (S' := M2) j2
    have dj : ∀ a, a ∈ yL L1 → a ∈ yL L2 → False := fun a h1 h2 => j2 a (memM.mpr (Or.inr h1)) h2
    obtain ⟨ix, sp, nx⟩ := start_IV s1 s2 dj g1 f1 f2
    have c1 := acc_M j1 LyR_E (okQ_E (S := meE)) f1.1.1 f1.1.2.1
    have c2 := acc_M j2 c1.1 c1.2 f2.1.1 f2.1.2.1
    have hT : qob (lyM (lyM lyE L1) L2) 9 T := s1.qob f1.1.2.2
    have hm : qob (lyM (lyM lyE L1) L2) 10 q := s2.qob f2.1.2.2
    have hLy := LyOk hA2 c2.1
    have hok : okP (lyM (lyM lyE L1) L2) (meM (lyM lyE L1) (meM lyE meE M1) M2) := c2.2
    generalize lyM (lyM lyE L1) L2 = Λ at sp nx hT hm hLy hok ⊢
    generalize meM (lyM lyE L1) (meM lyE meE M1) M2 = S at nx hok ⊢
    rw [eG]
    intro H locs ls hP hl
    have hlo : ∀ (H : Heap) (locs : List Loc) (S : QMem), q_P Δ Λ S (fun q => s.heap.size ≤ q) s.heap H locs → va_S (fun q => s.heap.size ≤ q) s.heap H locs := fun H locs S h => h.2.2.1
    have hbA : ¬ (fun q : Nat => s.heap.size ≤ q) b := Nat.not_le.mpr hbl
    refine la_loop (b := b) (L := L) (T := T) (m := q) (ix := ix) (Λ := Λ) (X := fun i => (xs i.toNat).toInt) (G := fun pc lv st S => ∀ (H : Heap) (locs : List Loc) (ls : Array Slot), q_P Δ Λ S (fun q => s.heap.size ≤ q) s.heap H locs → lv_has ls 4 lv → W p l e room_1 s m #[Value.ref b] below meth c H locs (0 + 1 + 254 + 1 + 32) (0 + 14 + 5275 + 45 + 7130) (lw_Z below #[Value.ref b] s) (F0 m pc ls st)) hL ⟨?_, ?_, ?_, ?_, ?_⟩ sp hT hm L 0 S (Int.le_refl 0) (Int.natCast_nonneg L) (by omega) nx H locs ls ⟨hP.1, hP.2.1, hP.2.2, hok⟩ hl
    · exact ⟨p, l, e, s, m, _, below, meth, c, _, _, _, fun q => s.heap.size ≤ q, Δ, hx, hb, hml, hown, hg, hn, hK, hLy, fun _ h => h, Nat.le_of_ble_eq_true rfl, Nat.le_of_ble_eq_true rfl, rfl⟩
    · intro pc lv st S i hd i0 i1 k H locs ls hP hl
      obtain ⟨z1, z2⟩ := q_vin i0 i1 (by omega)
      refine va_sld hx hb hX hbl hbA (hlo H locs S hP) z1 hd ?_
      have z3 : (Int32.ofInt i).toNatClampNeg = i.toNat := by omega
      rw [z3]
      have k := k H locs ls hP hl
      rw [show vI (xs i.toNat).toInt = .int (xs i.toNat) by unfold vI; rw [Int32.ofInt_toInt]] at k
      exact k
    · intro pc lv st S hd k H locs ls hP hl
      exact va_slen hx hb hX hbl hbA (hlo H locs S hP) hd (k H locs ls hP hl)
    · intro pc lv S hd H locs ls hP hl
      exact va_forget (fun z hz => hP.2.2.1.2.2 z hz) (W.widen (Nat.le_of_ble_eq_true rfl) (Nat.le_of_ble_eq_true rfl) (lw_ret hx hb hr hlocks hd))
    · intro i
      exact ⟨Int32.le_toInt _, Int32.toInt_lt _⟩
  exact key _ rfl s.heap [] _ ⟨fun k z h => by simp [va_pl, yL, lyE] at h, ⟨fun i j z w h => by simp [va_pl, yL, lyE] at h, fun k z h => by simp [va_pl, yL, lyE] at h⟩, va_S.rf⟩ hl
