/-! what the walks by program use: calls by their answers, stores without names, returns -/
theorem q_lit {n : Int} (h : decide (-2147483648 ≤ n ∧ n < 2147483648) = true) : inR n := of_decide_eq_true (p := -2147483648 ≤ n ∧ n < 2147483648) h
def qI (Q : Int → QMem → Prop) : Option Value → QMem → Prop := fun v S => ∃ r : Int, v = some (vI r) ∧ Q r S
def qJ (Q : Int → QMem → Prop) : Option Value → QMem → Prop := fun v S => ∃ r : Int, v = some (vJ r) ∧ Q r S
def qV (Q : QMem → Prop) : Option Value → QMem → Prop := fun v S => v = none ∧ Q S
def qA (Λ : QLay) (k : Nat) (Q : Nat → QMem → Prop) : Option Value → QMem → Prop := fun v S => ∃ r : Nat, v = some (.ref r) ∧ qob Λ k r ∧ Q r S
def RtI (cc : ByteArray) (G : Nat → List (Nat × Value) → List Value → QMem → Prop) (Q : Int → QMem → Prop) : Prop := ∀ (pc : Nat) (lv : List (Nat × Value)) (x : Int) (S : QMem), decode cc pc = .ok (.ireturn, 1) → Q x S → G pc lv [vI x] S
def RtZ (cc : ByteArray) (G : Nat → List (Nat × Value) → List Value → QMem → Prop) (Q : Int → QMem → Prop) : Prop := ∀ (pc : Nat) (lv : List (Nat × Value)) (x : Int) (S : QMem), decode cc pc = .ok (.ireturn, 1) → bl x → Q x S → G pc lv [vI x] S
def RtJ (cc : ByteArray) (G : Nat → List (Nat × Value) → List Value → QMem → Prop) (Q : Int → QMem → Prop) : Prop := ∀ (pc : Nat) (lv : List (Nat × Value)) (x : Int) (S : QMem), decode cc pc = .ok (.lreturn, 1) → Q x S → G pc lv [vJ x] S
def RtV (cc : ByteArray) (G : Nat → List (Nat × Value) → List Value → QMem → Prop) (Q : QMem → Prop) : Prop := ∀ (pc : Nat) (lv : List (Nat × Value)) (S : QMem), decode cc pc = .ok (.return_, 1) → Q S → G pc lv [] S
def RtA (cc : ByteArray) (Λ : QLay) (k : Nat) (G : Nat → List (Nat × Value) → List Value → QMem → Prop) (Q : Nat → QMem → Prop) : Prop := ∀ (pc : Nat) (lv : List (Nat × Value)) (x : Nat) (S : QMem), decode cc pc = .ok (.areturn, 1) → qob Λ k x → Q x S → G pc lv [.ref x] S
def QVf (y : MethodName) (bytes : ByteArray) (maxL : Nat) (rt : Option FieldType) (C : String) (n : Nat) : Prop := Cond.instanceMethod y ∈ lw_g ∧ Cond.selects C y y ∈ lw_g ∧ Cond.initialized C ∈ lw_g ∧ Cond.code y bytes maxL rt ∈ lw_g ∧ (y.cls = C ∧ y.cls ≠ "java/lang/invoke/MethodHandle" ∧ y.cls ≠ "java/lang/invoke/VarHandle" ∧ (parseMethodDescriptor y.desc).map (fun d => d.parameters.length) = some n)
def QSf (y : MethodName) (bytes : ByteArray) (maxL : Nat) (rt : Option FieldType) (C : String) (n : Nat) : Prop := Cond.static y ∈ lw_g ∧ Cond.initialized C ∈ lw_g ∧ Cond.code y bytes maxL rt ∈ lw_g ∧ (y.cls = C ∧ y.cls ≠ "java/lang/invoke/MethodHandle" ∧ y.cls ≠ "java/lang/invoke/VarHandle" ∧ (parseMethodDescriptor y.desc).map (fun d => d.parameters.length) = some n)
theorem q_fs {Δ : QDl} {Λ : QLay} {S : QMem} {b : Nat} : ∀ k : Nat, k ≤ 10 → ∃ fs, wE k Δ Λ S b = .inr (k, fs)
  | 0, _ => ⟨_, rfl⟩ | 1, _ => ⟨_, rfl⟩ | 2, _ => ⟨_, rfl⟩ | 3, _ => ⟨_, rfl⟩ | 4, _ => ⟨_, rfl⟩ | 5, _ => ⟨_, rfl⟩ | 6, _ => ⟨_, rfl⟩ | 7, _ => ⟨_, rfl⟩ | 8, _ => ⟨_, rfl⟩ | 9, _ => ⟨_, rfl⟩ | 10, _ => ⟨_, rfl⟩
  | n + 11, h => absurd h (by omega)
section QW
variable {cc : ByteArray} {own : String} {nL : Nat} {R : Room} {Λ : QLay} {G : Nat → List (Nat × Value) → List Value → QMem → Prop} {pc : Nat} {lv lv' : List (Nat × Value)} {st st0 : List Value} {S : QMem}
variable {y : MethodName} {bytes : ByteArray} {maxL : Nat} {rt : Option FieldType} {fr lo idx n : Nat} {As : List Value}
theorem pw_ist (hG : QAct cc own nL R Λ G) {i : Nat} {x : Int} (hd : decode cc pc = .ok (.istore i, 2)) (hi : i < nL) (h : lvSt lv i (vI x) = some lv') (k : G (pc + 2) lv' st S) : G pc lv (vI x :: st) S := pw_istore hG hd hi (fun y e => ⟨lv', by rw [e]; exact h, k⟩)
theorem pw_ist_n (hG : QAct cc own nL R Λ G) {j : Fin 4} {x : Int} (hd : decode cc pc = .ok (.istore_n j, 1)) (hi : j.val < nL) (h : lvSt lv j.val (vI x) = some lv') (k : G (pc + 1) lv' st S) : G pc lv (vI x :: st) S := pw_istore_n hG hd hi (fun y e => ⟨lv', by rw [e]; exact h, k⟩)
theorem pw_iinc0 (hG : QAct cc own nL R Λ G) {i : Nat} {n x : Int} (hd : decode cc pc = .ok (.iinc i n, 3)) (h0 : lvAt lv i = some (vI x)) (hi : i < nL) (h : lvSt lv i (vI (x + n)) = some lv') (k : G (pc + 3) lv' st S) : G pc lv st S := pw_iinc hG hd h0 hi (fun y e => ⟨lv', by rw [e]; exact h, k⟩)
theorem pw_calli (hG : QAct cc own nL R Λ G) {b k : Nat} {C : String} {T : u_T} {N : Nat} {Q : Int → QMem → Prop} (hM : ∀ (l : Launch) (Δ : QDl), QCt l y bytes maxL rt fr lo Δ Λ (.ref b :: As) S (qI Q)) (ho : qob Λ k b) (hc : classes[k]? = some (C, T, N)) (hk : k ≤ 10) (hw : Cond.methodLink own idx y ∈ lw_g) (hf : QVf y bytes maxL rt C n) (hn : As.length = n) (hR : fr + 1 ≤ R.frames ∧ 8 + (maxL + 11) + lo ≤ R.locals) (hst : (st.map fun v => v.category).sum ≤ 8) (hd : decode cc pc = .ok (.invokevirtual idx, 3)) (hs0 : st0 = As.reverse ++ .ref b :: st)
    (kk : ∀ (r : Int) (S' : QMem), Q r S' → G (pc + 3) lv (vI r :: st) S') : G pc lv st0 S :=
  pw_callV hG hM ho hc hw hf.1 hf.2.1 hf.2.2.1 hf.2.2.2.1 (fun _ => q_fs k hk) hf.2.2.2.2 hn hR hst hd hs0 (fun v S' hq => by
    obtain ⟨r, rfl, h⟩ := hq
    exact kk r S' h)
theorem pw_callj (hG : QAct cc own nL R Λ G) {b k : Nat} {C : String} {T : u_T} {N : Nat} {Q : Int → QMem → Prop} (hM : ∀ (l : Launch) (Δ : QDl), QCt l y bytes maxL rt fr lo Δ Λ (.ref b :: As) S (qJ Q)) (ho : qob Λ k b) (hc : classes[k]? = some (C, T, N)) (hk : k ≤ 10) (hw : Cond.methodLink own idx y ∈ lw_g) (hf : QVf y bytes maxL rt C n) (hn : As.length = n) (hR : fr + 1 ≤ R.frames ∧ 8 + (maxL + 11) + lo ≤ R.locals) (hst : (st.map fun v => v.category).sum ≤ 8) (hd : decode cc pc = .ok (.invokevirtual idx, 3)) (hs0 : st0 = As.reverse ++ .ref b :: st)
    (kk : ∀ (r : Int) (S' : QMem), Q r S' → G (pc + 3) lv (vJ r :: st) S') : G pc lv st0 S :=
  pw_callV hG hM ho hc hw hf.1 hf.2.1 hf.2.2.1 hf.2.2.2.1 (fun _ => q_fs k hk) hf.2.2.2.2 hn hR hst hd hs0 (fun v S' hq => by
    obtain ⟨r, rfl, h⟩ := hq
    exact kk r S' h)
theorem pw_callv (hG : QAct cc own nL R Λ G) {b k : Nat} {C : String} {T : u_T} {N : Nat} {Q : QMem → Prop} (hM : ∀ (l : Launch) (Δ : QDl), QCt l y bytes maxL rt fr lo Δ Λ (.ref b :: As) S (qV Q)) (ho : qob Λ k b) (hc : classes[k]? = some (C, T, N)) (hk : k ≤ 10) (hw : Cond.methodLink own idx y ∈ lw_g) (hf : QVf y bytes maxL rt C n) (hn : As.length = n) (hR : fr + 1 ≤ R.frames ∧ 8 + (maxL + 11) + lo ≤ R.locals) (hst : (st.map fun v => v.category).sum ≤ 8) (hd : decode cc pc = .ok (.invokevirtual idx, 3)) (hs0 : st0 = As.reverse ++ .ref b :: st)
    (kk : ∀ (S' : QMem), Q S' → G (pc + 3) lv st S') : G pc lv st0 S :=
  pw_callV hG hM ho hc hw hf.1 hf.2.1 hf.2.2.1 hf.2.2.2.1 (fun _ => q_fs k hk) hf.2.2.2.2 hn hR hst hd hs0 (fun v S' hq => by
    obtain ⟨rfl, h⟩ := hq
    exact kk S' h)
theorem pw_callr (hG : QAct cc own nL R Λ G) {b k k2 : Nat} {C : String} {T : u_T} {N : Nat} {Q : Nat → QMem → Prop} (hM : ∀ (l : Launch) (Δ : QDl), QCt l y bytes maxL rt fr lo Δ Λ (.ref b :: As) S (qA Λ k2 Q)) (ho : qob Λ k b) (hc : classes[k]? = some (C, T, N)) (hk : k ≤ 10) (hw : Cond.methodLink own idx y ∈ lw_g) (hf : QVf y bytes maxL rt C n) (hn : As.length = n) (hR : fr + 1 ≤ R.frames ∧ 8 + (maxL + 11) + lo ≤ R.locals) (hst : (st.map fun v => v.category).sum ≤ 8) (hd : decode cc pc = .ok (.invokevirtual idx, 3)) (hs0 : st0 = As.reverse ++ .ref b :: st)
    (kk : ∀ (r : Nat), qob Λ k2 r → ∀ (S' : QMem), Q r S' → G (pc + 3) lv (.ref r :: st) S') : G pc lv st0 S :=
  pw_callV hG hM ho hc hw hf.1 hf.2.1 hf.2.2.1 hf.2.2.2.1 (fun _ => q_fs k hk) hf.2.2.2.2 hn hR hst hd hs0 (fun v S' hq => by
    obtain ⟨r, rfl, hr, h⟩ := hq
    exact kk r hr S' h)
theorem pw_scalli (hG : QAct cc own nL R Λ G) {Q : Int → QMem → Prop} (hM : ∀ (l : Launch) (Δ : QDl), QCt l y bytes maxL rt fr lo Δ Λ As S (qI Q)) (hw : Cond.methodLink own idx y ∈ lw_g) (hf : QSf y bytes maxL rt own n) (hn : As.length = n) (hR : fr + 1 ≤ R.frames ∧ 8 + (maxL + 11) + lo ≤ R.locals) (hst : (st.map fun v => v.category).sum ≤ 8) (hd : decode cc pc = .ok (.invokestatic idx, 3)) (hs0 : st0 = As.reverse ++ st)
    (kk : ∀ (r : Int) (S' : QMem), Q r S' → G (pc + 3) lv (vI r :: st) S') : G pc lv st0 S :=
  pw_callS hG hM hw hf.1 hf.2.1 hf.2.2.1 hf.2.2.2 hn hR hst hd hs0 (fun v S' hq => by
    obtain ⟨r, rfl, h⟩ := hq
    exact kk r S' h)
theorem pw_scallj (hG : QAct cc own nL R Λ G) {Q : Int → QMem → Prop} (hM : ∀ (l : Launch) (Δ : QDl), QCt l y bytes maxL rt fr lo Δ Λ As S (qJ Q)) (hw : Cond.methodLink own idx y ∈ lw_g) (hf : QSf y bytes maxL rt own n) (hn : As.length = n) (hR : fr + 1 ≤ R.frames ∧ 8 + (maxL + 11) + lo ≤ R.locals) (hst : (st.map fun v => v.category).sum ≤ 8) (hd : decode cc pc = .ok (.invokestatic idx, 3)) (hs0 : st0 = As.reverse ++ st)
    (kk : ∀ (r : Int) (S' : QMem), Q r S' → G (pc + 3) lv (vJ r :: st) S') : G pc lv st0 S :=
  pw_callS hG hM hw hf.1 hf.2.1 hf.2.2.1 hf.2.2.2 hn hR hst hd hs0 (fun v S' hq => by
    obtain ⟨r, rfl, h⟩ := hq
    exact kk r S' h)
theorem pw_scallin (hG : QAct cc own nL R Λ G) {C : String} {Q : Int → QMem → Prop} (hM : ∀ (l : Launch) (Δ : QDl), QCt l y bytes maxL rt fr lo Δ Λ As S (qI Q)) (hw : ∀ s : State, q_nest s → va_Nw (.methodLinkNest own idx y "TreeDiffer") s) (hf : QSf y bytes maxL rt C n) (hn : As.length = n) (hR : fr + 1 ≤ R.frames ∧ 8 + (maxL + 11) + lo ≤ R.locals) (hst : (st.map fun v => v.category).sum ≤ 8) (hd : decode cc pc = .ok (.invokestatic idx, 3)) (hs0 : st0 = As.reverse ++ st)
    (kk : ∀ (r : Int) (S' : QMem), Q r S' → G (pc + 3) lv (vI r :: st) S') : G pc lv st0 S :=
  pw_callSN hG hM hw hf.1 (by rw [hf.2.2.2.1]; exact hf.2.1) hf.2.2.1 hf.2.2.2.2 hn hR hst hd hs0 (fun v S' hq => by
    obtain ⟨r, rfl, h⟩ := hq
    exact kk r S' h)
end QW
