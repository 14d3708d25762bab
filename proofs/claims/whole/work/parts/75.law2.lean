/-! the invariant at the start: both constructors have ended -/
theorem start_IV {L1 L2 Λ : QLay} {M1 M2 S : QMem} {T m : Nat} (s1 : Sub L1 M1 Λ S) (s2 : Sub L2 M2 Λ S) (dj : ∀ a, a ∈ yL L1 → a ∈ yL L2 → False) (hA : LyA L1) (h1 : FTD T L1 M1) (h2 : FMo m L2 M2) : ∃ ix : Nat → Nat, SP Λ T m ix ∧ Nxt Λ T m ix S := by
  obtain ⟨n1, ⟨jx, ⟨a0, a2, a3, a4, a5, a6, a7, a8, a9, a10, a11, a12, a13, a14, a15⟩, tr⟩, ⟨v1, v2, v3, v4, v5, v6⟩, hC⟩ := h1
  obtain ⟨n2, hW, hR, ⟨w4, w5⟩, ⟨w80, w81⟩, ⟨w10, w12⟩, w6, w20⟩ := h2
  have hLy := LyOk hA n1.1
  have oT := n1.2.2
  have mm : m ∈ yL L2 := n2.2.2.1
  have r : ∀ {f : Nat} {i : Int} {k' : Nat} {n : Int}, tR 9 f = (k' + 1, n) → 0 ≤ i ∧ i < n → qob L1 k' (yR L1 T f i) := fun h hi => q_rf hLy oT h hi
  have q0 : qob L1 6 (yR L1 T 0 0) := r rfl ⟨by decide, by decide⟩
  have q1 : qob L1 4 (yR L1 T 1 0) := r rfl ⟨by decide, by decide⟩
  have q20 : qob L1 4 (yR L1 T 2 0) := r rfl ⟨by decide, by decide⟩
  have q21 : qob L1 4 (yR L1 T 2 1) := r rfl ⟨by decide, by decide⟩
  have q4 : qob L1 1 (yR L1 T 4 0) := r rfl ⟨by decide, by decide⟩
  have q5 : qob L1 3 (yR L1 T 5 0) := r rfl ⟨by decide, by decide⟩
  have q6 : qob L1 0 (yR L1 T 6 0) := r rfl ⟨by decide, by decide⟩
  have q7 : qob L1 8 (yR L1 T 7 0) := r rfl ⟨by decide, by decide⟩
  have q8 : qob L1 8 (yR L1 T 8 0) := r rfl ⟨by decide, by decide⟩
  have q9 : qob L1 2 (yR L1 T 9 0) := r rfl ⟨by decide, by decide⟩
  have q10 : qob L1 2 (yR L1 T 10 0) := r rfl ⟨by decide, by decide⟩
  have p52 : qob L1 8 (yR L1 (yR L1 T 5 0) 2 0) := q_rf hLy q5 rfl ⟨by decide, by decide⟩
  have p02 : qob L1 7 (yR L1 (yR L1 T 0 0) 2 0) := q_rf hLy q0 rfl ⟨by decide, by decide⟩
  have p5 : ∀ i : Int, 0 ≤ i → i < 96 → qob L1 5 (yR L1 (yR L1 T 5 0) 0 i) := fun i i0 i1 => q_rf hLy q5 rfl ⟨i0, i1⟩
  have e : ∀ f i, yR Λ T f i = yR L1 T f i := (s1 T oT.1).2.2.2.2
  have hix : ∀ a, a ∈ yL L1 → (fun a => if a ∈ yL L1 then jx a else 1) a = jx a := fun a h => if_pos h
  have him : (fun a => if a ∈ yL L1 then jx a else 1) m = 1 := if_neg (fun z => dj m z mm)
  generalize (fun a => if a ∈ yL L1 then jx a else 1) = ix at hix him
  have sT := (s1 T oT.1).2.2.1
  have sm := (s2 m mm).2.2.1
  have b1 := n1.2.1 _ q1
  have b20 := n1.2.1 _ q20
  have b21 := n1.2.1 _ q21
  have t1 := (s1 _ q1.1).2.2.2.1
  have t20 := (s1 _ q20.1).2.2.2.1
  have t21 := (s1 _ q21.1).2.2.2.1
  refine ⟨ix, ⟨?_, him, ?_, ?_, ?_, ?_, ?_, ?_, ?_, ?_, ?_, ?_, ?_, ?_, ?_, fun i i0 i1 => ?_⟩, t00, t00, 2, 50, 0, (fun _ => 0, 0), ?_, ?_, ?_, ?_, ?_, ⟨?_, ?_⟩, ?_, ?_, ?_, ?_, ?_, ?_⟩
  · rw [hix _ oT.1]; exact a0
  · rw [e, hix _ q0.1]; exact a2
  · rw [e, hix _ q1.1]; exact a3
  · rw [e, hix _ q20.1]; exact a4
  · rw [e, hix _ q21.1]; exact a5
  · rw [e, hix _ q4.1]; exact a6
  · rw [e, hix _ q5.1]; exact a7
  · rw [e, hix _ q6.1]; exact a8
  · rw [e, hix _ q7.1]; exact a9
  · rw [e, hix _ q8.1]; exact a10
  · rw [e, (s1 _ q5.1).2.2.2.2, hix _ p52.1]; exact a11
  · rw [e, hix _ q9.1]; exact a12
  · rw [e, hix _ q10.1]; exact a13
  · rw [e, (s1 _ q0.1).2.2.2.2, hix _ p02.1]; exact a14
  · rw [e, (s1 _ q5.1).2.2.2.2, hix _ (p5 i i0 i1).1]; exact a15 i i0 i1
  · refine ⟨0, ?_, ?_, ⟨Int.le_refl 0, by decide⟩, fun k k0 k1 => absurd k1 (by omega)⟩
    · rw [e, (s1 _ q0.1).2.2.1]; exact v1
    · rw [sm]; exact w10
  · unfold iTR
    rw [e, e, e, t1, t1, t20, t20, t21, t21, hix _ b1.1.1, hix _ b1.2.1, hix _ b20.1.1, hix _ b20.2.1, hix _ b21.1.1, hix _ b21.2.1]
    exact tr
  · unfold WC
    rw [e, t1, t1]
    exact ⟨Sub_cT s1 b1.1.1 v2.1, Sub_cT s1 b1.2.1 v2.2, wf00, wf00⟩
  · unfold WM mT MT MS at hW ⊢
    simp only [sm]
    exact hW
  · unfold iLP
    rw [e, (s1 _ q1.1).2.2.1, (s1 _ q1.1).2.2.1, sm, sm]
    exact ⟨⟨v3.1, w4, by decide, by decide⟩, v3.2, w5, by decide, by decide⟩
  · refine Or.inl ⟨?_, ?_⟩
    · rw [sT]; exact v4.1
    · rw [sm]; exact w80
  · refine Or.inl ⟨?_, ?_⟩
    · rw [sT]; exact v4.2
    · rw [sm]; exact w81
  · unfold iRG
    simp only [sm]
    exact hR
  · refine Or.inl ?_
    rw [sT]; exact v5.1
  · refine Or.inl ?_
    rw [sm]; exact w20
  · have hC' : CW S (yR Λ T 7 0) (W0 t00) := by
      unfold CW at hC ⊢
      rw [e]
      simp only [(s1 _ q7.1).2.2.1]
      exact hC
    refine ⟨?_, ?_, Nat.zero_le _, hC', CL_W0 hC' wf00, fun _ => rfl⟩
    · rw [sT]; exact v5.2.2
    · rw [sm]; exact w6
  · refine Or.inl ?_
    rw [sT]; exact v5.2.1
  · refine ⟨⟨?_, fun i i0 i1 => absurd i1 (by show ¬ i < 0; omega)⟩, ⟨?_, fun i i0 i1 => absurd i1 (by show ¬ i < 0; omega)⟩, Int.le_refl 0, by decide⟩
    · rw [e, (s1 _ q9.1).2.2.1]; exact v6
    · rw [sm]; exact w12
