/-! the law's loop -/
theorem la_loop {b L T m : Nat} {X : Int → Int} {Λ : QLay} {ix : Nat → Nat} {G : Nat → List (Nat × Value) → List Value → QMem → Prop} (hL : L ≤ 2048) (g : LwG b L X Λ G) (sp : SP Λ T m ix) (hT : qob Λ 9 T) (hm : qob Λ 10 m) : ∀ (n : Nat) (i : Int) (S : QMem), 0 ≤ i → i ≤ L → (L : Int) - i ≤ n → Nxt Λ T m ix S → G 18 [(0, .ref b), (1, .ref T), (2, .ref m), (3, vI i)] [] S := by
  intro n
  induction n with
  | zero =>
    intro i S i0 i1 i2 hn
    have hG := g.1
    refine pw_iload_n (pc := 18) hG d_La_18 rfl ?_
    refine pw_aload_n (pc := 19) hG d_La_19 rfl ?_
    refine g.2.2.1 20 _ _ _ d_La_20 ?_
    refine pw_iconst (pc := 21) hG d_La_21 ?_
    refine pw_isub (pc := 22) hG d_La_22 ?_
    refine pw_icmp_gt (pc := 23) (tgt := 838) hG d_La_23 (by decide) (by unfold inR; omega) (by unfold inR; omega) (fun _ => ?_) (fun z => absurd (by omega) z)
    refine pw_iconst (pc := 838) hG d_La_838 ?_
    exact g.2.2.2.1 839 _ _ d_La_839
  | succ n ih =>
    intro i S i0 i1 i2 hn
    have hG := g.1
    refine pw_iload_n (pc := 18) hG d_La_18 rfl ?_
    refine pw_aload_n (pc := 19) hG d_La_19 rfl ?_
    refine g.2.2.1 20 _ _ _ d_La_20 ?_
    refine pw_iconst (pc := 21) hG d_La_21 ?_
    refine pw_isub (pc := 22) hG d_La_22 ?_
    refine pw_icmp_gt (pc := 23) (tgt := 838) hG d_La_23 (by decide) (by unfold inR; omega) (by unfold inR; omega) (fun _ => ?_) (fun z => ?_)
    · refine pw_iconst (pc := 838) hG d_La_838 ?_
      exact g.2.2.2.1 839 _ _ d_La_839
    · refine pw_aload_n (pc := 26) hG d_La_26 rfl ?_
      refine pw_iload_n (pc := 27) hG d_La_27 rfl ?_
      refine g.2.1 28 _ _ _ d_La_28 i0 (by omega) ?_
      refine pw_bipush (pc := 29) hG d_La_29 (by decide) ?_
      refine pw_and31 (pc := 31) hG d_La_31 (fun y y0 y1 => ?_)
      refine la_switch g sp hT hm i0 (by omega) (fun S' hn' => ?_) y0 y1 hn
      refine pw_iinc0 (pc := 832) (lv' := [(0, .ref b), (1, .ref T), (2, .ref m), (3, vI (i + 4))]) hG d_La_832 rfl (by decide) rfl ?_
      refine pw_goto (pc := 835) (tgt := 18) hG d_La_835 (by decide) ?_
      exact ih (i + 4) S' (by omega) (by omega) (by omega) hn'
