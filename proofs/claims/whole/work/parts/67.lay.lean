/-! layouts beside each other, and the layout of one object with its arrays -/
def Dj (Λ Λ' : QLay) : Prop := ∀ a, a ∈ yL Λ → a ∈ yL Λ' → False
def lyE : QLay := ([], fun _ => 0, fun _ => 0, fun _ => 0, fun _ => 0, fun _ _ => 0, fun _ _ _ => 0)
def meE : QMem := (fun _ _ _ => 0, fun _ _ => 0)
def lyM (Λ Λ' : QLay) : QLay := (yL Λ ++ yL Λ', fun a => if a ∈ yL Λ then yK Λ a else yK Λ' a, fun a => if a ∈ yL Λ then yO Λ a else yO Λ' a, fun a => if a ∈ yL Λ then yF Λ a else yF Λ' a, fun a => if a ∈ yL Λ then yN Λ a else yN Λ' a, fun o f => if o ∈ yL Λ then yA Λ o f else yA Λ' o f, fun o f i => if o ∈ yL Λ then yR Λ o f i else yR Λ' o f i)
def meM (Λ : QLay) (S S' : QMem) : QMem := (fun o f i => if o ∈ yL Λ then S.1 o f i else S'.1 o f i, fun o f => if o ∈ yL Λ then S.2 o f else S'.2 o f)
/-- what a pool's arrays ask of its layout -/
def LyA (Λ : QLay) : Prop :=
  (∀ o f : Nat, o ∈ yL Λ → (tA (yK Λ o) f).1 ≠ 0 → qAr Λ (yA Λ o f) (tA (yK Λ o) f).1 o f (tA (yK Λ o) f).2) ∧
  (∀ (o f : Nat) (i : Int), o ∈ yL Λ → (tA (yK Λ o) f).1 = 15 → 0 ≤ i → i < (tA (yK Λ o) f).2 → qAr Λ (yA Λ o (rw_ f i)) 11 o (rw_ f i) (tA (yK Λ o) f).2) ∧
  (∀ a : Nat, a ∈ yL Λ → (yK Λ a = 11 ∨ yK Λ a = 12) → a = yA Λ (yO Λ a) (yF Λ a) ∧ tI (yK Λ (yO Λ a)) (yF Λ a) = false) ∧
  (∀ a : Nat, a ∈ yL Λ → 11 ≤ yK Λ a → yO Λ a ∈ yL Λ)
def LyR (Λ Λ' : QLay) : Prop := ∀ (o f : Nat) (i : Int), o ∈ yL Λ → (tR (yK Λ o) f).1 ≠ 0 → 0 ≤ i → i < (tR (yK Λ o) f).2 → qob Λ' ((tR (yK Λ o) f).1 - 1) (yR Λ o f i)
def okQ (Λ Λ' : QLay) (S : QMem) : Prop := ∀ s : Nat, qob Λ 4 s → qob Λ' 7 (S.2 s 0) ∧ qob Λ' 7 (S.2 s 1)
theorem LyOk {Λ : QLay} (hA : LyA Λ) (hR : LyR Λ Λ) : LayOk Λ := ⟨hA.1, hA.2.1, hR, hA.2.2.1⟩
theorem LyA_E : LyA lyE := ⟨fun o f h => absurd h (List.not_mem_nil), fun o f i h => absurd h (List.not_mem_nil), fun a h => absurd h (List.not_mem_nil), fun a h => absurd h (List.not_mem_nil)⟩
theorem LyR_E {X : QLay} : LyR lyE X := fun o f i h => absurd h (List.not_mem_nil)
theorem okQ_E {X : QLay} {S : QMem} : okQ lyE X S := fun s h => absurd h.1 (List.not_mem_nil)
section
variable {Λ Λ' X : QLay} {S S' : QMem} {a : Nat}
theorem lm1 (h : a ∈ yL Λ) : yK (lyM Λ Λ') a = yK Λ a ∧ yO (lyM Λ Λ') a = yO Λ a ∧ yF (lyM Λ Λ') a = yF Λ a ∧ yN (lyM Λ Λ') a = yN Λ a ∧ (∀ f, yA (lyM Λ Λ') a f = yA Λ a f) ∧ (∀ f i, yR (lyM Λ Λ') a f i = yR Λ a f i) ∧ (∀ f i, (meM Λ S S').1 a f i = S.1 a f i) ∧ (∀ f, (meM Λ S S').2 a f = S.2 a f) :=
  ⟨if_pos h, if_pos h, if_pos h, if_pos h, fun _ => if_pos h, fun _ _ => if_pos h, fun _ _ => if_pos h, fun _ => if_pos h⟩
theorem lm2 (h : ¬ a ∈ yL Λ) : yK (lyM Λ Λ') a = yK Λ' a ∧ yO (lyM Λ Λ') a = yO Λ' a ∧ yF (lyM Λ Λ') a = yF Λ' a ∧ yN (lyM Λ Λ') a = yN Λ' a ∧ (∀ f, yA (lyM Λ Λ') a f = yA Λ' a f) ∧ (∀ f i, yR (lyM Λ Λ') a f i = yR Λ' a f i) ∧ (∀ f i, (meM Λ S S').1 a f i = S'.1 a f i) ∧ (∀ f, (meM Λ S S').2 a f = S'.2 a f) :=
  ⟨if_neg h, if_neg h, if_neg h, if_neg h, fun _ => if_neg h, fun _ _ => if_neg h, fun _ _ => if_neg h, fun _ => if_neg h⟩
theorem memM : a ∈ yL (lyM Λ Λ') ↔ a ∈ yL Λ ∨ a ∈ yL Λ' := List.mem_append
theorem qob_1 {k : Nat} (h : qob Λ k a) : qob (lyM Λ Λ') k a := ⟨memM.mpr (Or.inl h.1), by rw [(lm1 (S := meE) (S' := meE) h.1).1]; exact h.2⟩
theorem qob_2 {k : Nat} (hd : Dj Λ Λ') (h : qob Λ' k a) : qob (lyM Λ Λ') k a := ⟨memM.mpr (Or.inr h.1), by rw [(lm2 (S := meE) (S' := meE) (fun z => hd a z h.1)).1]; exact h.2⟩
theorem qAr_1 {k o f : Nat} {n : Int} (h : qAr Λ a k o f n) : qAr (lyM Λ Λ') a k o f n := by
  obtain ⟨e1, e2, e3, e4, _⟩ := lm1 (Λ' := Λ') (S := meE) (S' := meE) h.1
  unfold qAr
  rw [e1, e2, e3, e4]
  exact ⟨memM.mpr (Or.inl h.1), h.2⟩
theorem qAr_2 {k o f : Nat} {n : Int} (hd : Dj Λ Λ') (h : qAr Λ' a k o f n) : qAr (lyM Λ Λ') a k o f n := by
  obtain ⟨e1, e2, e3, e4, _⟩ := lm2 (Λ := Λ) (Λ' := Λ') (S := meE) (S' := meE) (fun z => hd a z h.1)
  unfold qAr
  rw [e1, e2, e3, e4]
  exact ⟨memM.mpr (Or.inr h.1), h.2⟩
theorem LyA_M (hd : Dj Λ Λ') (h : LyA Λ) (h' : LyA Λ') : LyA (lyM Λ Λ') := by
  refine ⟨fun o f ho ht => ?_, fun o f i ho ht i0 i1 => ?_, fun a ha hk => ?_, fun a ha hk => ?_⟩
  · by_cases q : o ∈ yL Λ
    · obtain ⟨e1, e2, e3, e4, e5, _⟩ := lm1 (Λ' := Λ') (S := meE) (S' := meE) q
      rw [e1] at ht
      rw [e1, e5]
      exact qAr_1 (h.1 o f q ht)
    · obtain ⟨e1, e2, e3, e4, e5, _⟩ := lm2 (Λ' := Λ') (S := meE) (S' := meE) q
      rw [e1] at ht
      rw [e1, e5]
      exact qAr_2 hd (h'.1 o f ((memM.mp ho).resolve_left q) ht)
  · by_cases q : o ∈ yL Λ
    · obtain ⟨e1, e2, e3, e4, e5, _⟩ := lm1 (Λ' := Λ') (S := meE) (S' := meE) q
      rw [e1] at ht i1
      rw [e1, e5]
      exact qAr_1 (h.2.1 o f i q ht i0 i1)
    · obtain ⟨e1, e2, e3, e4, e5, _⟩ := lm2 (Λ' := Λ') (S := meE) (S' := meE) q
      rw [e1] at ht i1
      rw [e1, e5]
      exact qAr_2 hd (h'.2.1 o f i ((memM.mp ho).resolve_left q) ht i0 i1)
  · by_cases q : a ∈ yL Λ
    · obtain ⟨e1, e2, e3, e4, e5, _⟩ := lm1 (Λ' := Λ') (S := meE) (S' := meE) q
      rw [e1] at hk
      have ho := h.2.2.2 a q (by omega)
      obtain ⟨g1, g2, g3, g4, g5, _⟩ := lm1 (Λ' := Λ') (S := meE) (S' := meE) ho
      rw [e2, e3, g1, g5]
      exact h.2.2.1 a q hk
    · have q' := (memM.mp ha).resolve_left q
      obtain ⟨e1, e2, e3, e4, e5, _⟩ := lm2 (Λ' := Λ') (S := meE) (S' := meE) q
      rw [e1] at hk
      have ho := h'.2.2.2 a q' (by omega)
      obtain ⟨g1, g2, g3, g4, g5, _⟩ := lm2 (Λ := Λ) (Λ' := Λ') (S := meE) (S' := meE) (fun z => hd _ z ho)
      rw [e2, e3, g1, g5]
      exact h'.2.2.1 a q' hk
  · by_cases q : a ∈ yL Λ
    · obtain ⟨e1, e2, e3, e4, e5, _⟩ := lm1 (Λ' := Λ') (S := meE) (S' := meE) q
      rw [e1] at hk
      rw [e2]
      exact memM.mpr (Or.inl (h.2.2.2 a q hk))
    · obtain ⟨e1, e2, e3, e4, e5, _⟩ := lm2 (Λ' := Λ') (S := meE) (S' := meE) q
      rw [e1] at hk
      rw [e2]
      exact memM.mpr (Or.inr (h'.2.2.2 a ((memM.mp ha).resolve_left q) hk))
theorem LyR_M (h : LyR Λ X) (h' : LyR Λ' X) : LyR (lyM Λ Λ') X := fun o f i ho ht i0 i1 => by
  by_cases q : o ∈ yL Λ
  · obtain ⟨e1, e2, e3, e4, e5, e6, _⟩ := lm1 (Λ' := Λ') (S := meE) (S' := meE) q
    rw [e1] at ht i1
    rw [e1, e6]
    exact h o f i q ht i0 i1
  · obtain ⟨e1, e2, e3, e4, e5, e6, _⟩ := lm2 (Λ' := Λ') (S := meE) (S' := meE) q
    rw [e1] at ht i1
    rw [e1, e6]
    exact h' o f i ((memM.mp ho).resolve_left q) ht i0 i1
theorem LyR.up (h : LyR Λ Λ') (hx : ∀ k a, qob Λ' k a → qob X k a) : LyR Λ X := fun o f i ho ht i0 i1 => hx _ _ (h o f i ho ht i0 i1)
theorem okQ_M (h : okQ Λ X S) (h' : okQ Λ' X S') : okQ (lyM Λ Λ') X (meM Λ S S') := fun s hs => by
  by_cases q : s ∈ yL Λ
  · obtain ⟨e1, e2, e3, e4, e5, e6, e7, e8⟩ := lm1 (Λ' := Λ') (S := S) (S' := S') q
    rw [e8, e8]
    exact h s ⟨q, by rw [← e1]; exact hs.2⟩
  · obtain ⟨e1, e2, e3, e4, e5, e6, e7, e8⟩ := lm2 (Λ' := Λ') (S := S) (S' := S') q
    rw [e8, e8]
    exact h' s ⟨(memM.mp hs.1).resolve_left q, by rw [← e1]; exact hs.2⟩
theorem okQ.up (h : okQ Λ Λ' S) (hx : ∀ k a, qob Λ' k a → qob X k a) : okQ Λ X S := fun s hs => ⟨hx _ _ (h s hs).1, hx _ _ (h s hs).2⟩
/-- the same cell in two layouts -/
theorem wE_cg {Δ : QDl} : ∀ k : Nat, (k < 11 → (∀ f, yA Λ a f = yA Λ' a f) ∧ (∀ f i, yR Λ a f i = yR Λ' a f i) ∧ (∀ f i, S.1 a f i = S'.1 a f i) ∧ (∀ f, S.2 a f = S'.2 a f)) → (11 ≤ k → yN Λ a = yN Λ' a ∧ yO Λ a = yO Λ' a ∧ yF Λ a = yF Λ' a ∧ (∀ f i, S.1 (yO Λ' a) f i = S'.1 (yO Λ' a) f i) ∧ (∀ f, yA Λ (yO Λ' a) f = yA Λ' (yO Λ' a) f) ∧ (∀ f i, yR Λ (yO Λ' a) f i = yR Λ' (yO Λ' a) f i)) → wE k Δ Λ S a = wE k Δ Λ' S' a
  | 0, h, _ => by obtain ⟨h1, h2, h3, h4⟩ := h (by decide); simp only [wE, h1, h2, h3, h4]
  | 1, h, _ => by obtain ⟨h1, h2, h3, h4⟩ := h (by decide); simp only [wE, h1, h2, h3, h4]
  | 2, h, _ => by obtain ⟨h1, h2, h3, h4⟩ := h (by decide); simp only [wE, h1, h2, h3, h4]
  | 3, h, _ => by obtain ⟨h1, h2, h3, h4⟩ := h (by decide); simp only [wE, h1, h2, h3, h4]
  | 4, h, _ => by obtain ⟨h1, h2, h3, h4⟩ := h (by decide); simp only [wE, h1, h2, h3, h4]
  | 5, h, _ => by obtain ⟨h1, h2, h3, h4⟩ := h (by decide); simp only [wE, h1, h2, h3, h4]
  | 6, h, _ => by obtain ⟨h1, h2, h3, h4⟩ := h (by decide); simp only [wE, h1, h2, h3, h4]
  | 7, h, _ => by obtain ⟨h1, h2, h3, h4⟩ := h (by decide); simp only [wE, h1, h2, h3, h4]
  | 8, h, _ => by obtain ⟨h1, h2, h3, h4⟩ := h (by decide); simp only [wE, h1, h2, h3, h4]
  | 9, h, _ => by obtain ⟨h1, h2, h3, h4⟩ := h (by decide); simp only [wE, h1, h2, h3, h4]
  | 10, h, _ => by obtain ⟨h1, h2, h3, h4⟩ := h (by decide); simp only [wE, h1, h2, h3, h4]
  | 11, _, h => by obtain ⟨h1, h2, h3, h4, h5, h6⟩ := h (by decide); simp only [wE, h1, h2, h3, h4]
  | 12, _, h => by obtain ⟨h1, h2, h3, h4, h5, h6⟩ := h (by decide); simp only [wE, h1, h2, h3, h4]
  | 13, _, h => by obtain ⟨h1, h2, h3, h4, h5, h6⟩ := h (by decide); simp only [wE, h1, h2, h3, h6]
  | 14, _, h => by obtain ⟨h1, h2, h3, h4, h5, h6⟩ := h (by decide); simp only [wE, h1, h2, h3, h6]
  | 15, _, h => by obtain ⟨h1, h2, h3, h4, h5, h6⟩ := h (by decide); simp only [wE, h1, h2, h3, h5]
  | _ + 16, _, _ => rfl
theorem pl_M {Δ : QDl} (hd : Dj Λ Λ') (h : LyA Λ) (h' : LyA Λ') : va_pl (yL (lyM Λ Λ')) (wF Δ (lyM Λ Λ') (meM Λ S S')) = va_pl (yL Λ) (wF Δ Λ S) ++ va_pl (yL Λ') (wF Δ Λ' S') := by
  have e : yL (lyM Λ Λ') = yL Λ ++ yL Λ' := rfl
  unfold va_pl
  rw [e, List.map_append]
  congr 1
  · refine List.map_congr_left (fun a ha => ?_)
    obtain ⟨e1, e2, e3, e4, e5, e6, e7, e8⟩ := lm1 (Λ' := Λ') (S := S) (S' := S') ha
    unfold wF
    rw [e1]
    refine congrArg (Prod.mk a) (wE_cg _ (fun _ => ⟨e5, e6, e7, e8⟩) (fun hk => ?_))
    have ho := h.2.2.2 a ha hk
    obtain ⟨g1, g2, g3, g4, g5, g6, g7, g8⟩ := lm1 (Λ' := Λ') (S := S) (S' := S') ho
    exact ⟨e4, e2, e3, g7, g5, g6⟩
  · refine List.map_congr_left (fun a ha => ?_)
    obtain ⟨e1, e2, e3, e4, e5, e6, e7, e8⟩ := lm2 (Λ := Λ) (Λ' := Λ') (S := S) (S' := S') (fun z => hd a z ha)
    unfold wF
    rw [e1]
    refine congrArg (Prod.mk a) (wE_cg _ (fun _ => ⟨e5, e6, e7, e8⟩) (fun hk => ?_))
    have ho := h'.2.2.2 a ha hk
    obtain ⟨g1, g2, g3, g4, g5, g6, g7, g8⟩ := lm2 (Λ := Λ) (Λ' := Λ') (S := S) (S' := S') (fun z => hd _ z ho)
    exact ⟨e4, e2, e3, g7, g5, g6⟩
end
/-- a pool inside another -/
def Sub (Λ : QLay) (S : QMem) (Λ' : QLay) (S' : QMem) : Prop := ∀ a, a ∈ yL Λ → a ∈ yL Λ' ∧ yK Λ' a = yK Λ a ∧ (∀ f i, S'.1 a f i = S.1 a f i) ∧ (∀ f, S'.2 a f = S.2 a f) ∧ (∀ f i, yR Λ' a f i = yR Λ a f i)
theorem Sub.rf {Λ : QLay} {S : QMem} : Sub Λ S Λ S := fun a h => ⟨h, rfl, fun _ _ => rfl, fun _ => rfl, fun _ _ => rfl⟩
theorem Sub.tr {Λ Λ' X : QLay} {S S' T : QMem} (h : Sub Λ S Λ' S') (h2 : Sub Λ' S' X T) : Sub Λ S X T := fun a ha => by
  obtain ⟨a1, a2, a3, a4, a5⟩ := h a ha
  obtain ⟨b1, b2, b3, b4, b5⟩ := h2 a a1
  exact ⟨b1, b2.trans a2, fun f i => (b3 f i).trans (a3 f i), fun f => (b4 f).trans (a4 f), fun f i => (b5 f i).trans (a5 f i)⟩
theorem Sub_1 {Λ Λ' : QLay} {S S' : QMem} : Sub Λ S (lyM Λ Λ') (meM Λ S S') := fun a ha => by
  obtain ⟨e1, e2, e3, e4, e5, e6, e7, e8⟩ := lm1 (Λ' := Λ') (S := S) (S' := S') ha
  exact ⟨memM.mpr (Or.inl ha), e1, e7, e8, e6⟩
theorem Sub_2 {Λ Λ' : QLay} {S S' : QMem} (hd : Dj Λ Λ') : Sub Λ' S' (lyM Λ Λ') (meM Λ S S') := fun a ha => by
  obtain ⟨e1, e2, e3, e4, e5, e6, e7, e8⟩ := lm2 (Λ := Λ) (Λ' := Λ') (S := S) (S' := S') (fun z => hd a z ha)
  exact ⟨memM.mpr (Or.inr ha), e1, e7, e8, e6⟩
theorem Sub.qob {Λ Λ' : QLay} {S S' : QMem} (h : Sub Λ S Λ' S') {k a : Nat} (ho : qob Λ k a) : qob Λ' k a := ⟨(h a ho.1).1, (h a ho.1).2.1.trans ho.2⟩
theorem Sub_cT {Λ Λ' : QLay} {S S' : QMem} (h : Sub Λ S Λ' S') {a : Nat} {t : TT} (ha : a ∈ yL Λ) (hc : cT S a t) : cT S' a t := by
  unfold cT CT at hc ⊢
  simp only [(h a ha).2.2.1]
  exact hc
/-! one object and its arrays: field, address, kind, length -/
abbrev QAs : Type := List (Nat × Nat × Nat × Nat)
def obL (k h0 : Nat) (as : QAs) (rf : Nat → Int → Nat) : QLay := (h0 :: as.map (fun t => t.2.1), fun a => if a = h0 then k else match as.find? (fun t => t.2.1 == a) with | some t => t.2.2.1 | none => 0, fun _ => h0, fun a => match as.find? (fun t => t.2.1 == a) with | some t => t.1 | none => 0, fun a => match as.find? (fun t => t.2.1 == a) with | some t => t.2.2.2 | none => 0, fun _ f => match as.find? (fun t => t.1 == f) with | some t => t.2.1 | none => 0, fun _ f i => rf f i)
theorem find_nd {α : Type} (g : α → Nat) : ∀ (l : List α) (t : α), (l.map g).Nodup → t ∈ l → l.find? (fun x => g x == g t) = some t
  | [], _, _, h => absurd h List.not_mem_nil
  | x :: l, t, hn, h => by
    rw [List.map_cons, List.nodup_cons] at hn
    rw [List.find?_cons]
    rcases List.mem_cons.mp h with e | e
    · rw [e]; simp
    · have ne : g x ≠ g t := fun z => hn.1 (by rw [z]; exact List.mem_map.mpr ⟨t, e, rfl⟩)
      rw [show (g x == g t) = false by simpa using ne]
      exact find_nd g l t hn.2 e
def arE (Δ : QDl) (as : QAs) (S : QMem) (rf : Nat → Int → Nat) (h0 : Nat) (t : Nat × Nat × Nat × Nat) : va_E := match t.2.2.1 with
  | 11 => .inl (Δ.2 0, t.2.2.2, .inl (fun j => Int32.ofInt (S.1 h0 t.1 (j : Int))))
  | 12 => .inl (Δ.2 1, t.2.2.2, .inl (fun j => Int32.ofInt (S.1 h0 t.1 (j : Int))))
  | 13 => .inl (Δ.2 2, t.2.2.2, .inr (.inr (.inr (.inr (fun j => some (rf t.1 (j : Int)))))))
  | 14 => .inl (Δ.2 3, t.2.2.2, .inr (.inr (.inr (.inr (fun j => some (rf t.1 (j : Int)))))))
  | 15 => .inl (Δ.2 4, t.2.2.2, .inr (.inr (.inr (.inr (fun j => some (match as.find? (fun q => q.1 == rw_ t.1 (j : Int)) with | some q => q.2.1 | none => 0))))))
  | _ => .inr (0, [])
section
variable {k h0 : Nat} {as : QAs} {rf : Nat → Int → Nat} {t : Nat × Nat × Nat × Nat}
theorem ob_at (hn : (h0 :: as.map (fun t => t.2.1)).Nodup) (ht : t ∈ as) : t.2.1 ≠ h0 ∧ yK (obL k h0 as rf) t.2.1 = t.2.2.1 ∧ yF (obL k h0 as rf) t.2.1 = t.1 ∧ yN (obL k h0 as rf) t.2.1 = t.2.2.2 ∧ t.2.1 ∈ yL (obL k h0 as rf) := by
  have hn' := List.nodup_cons.mp hn
  have ne : t.2.1 ≠ h0 := fun z => hn'.1 (by rw [← z]; exact List.mem_map.mpr ⟨t, ht, rfl⟩)
  have hf := find_nd (fun t : Nat × Nat × Nat × Nat => t.2.1) as t hn'.2 ht
  refine ⟨ne, ?_, ?_, ?_, List.mem_cons_of_mem _ (List.mem_map.mpr ⟨t, ht, rfl⟩)⟩
  · show (if t.2.1 = h0 then k else match as.find? (fun x => x.2.1 == t.2.1) with | some t => t.2.2.1 | none => 0) = _
    rw [if_neg ne, hf]
  · show (match as.find? (fun x => x.2.1 == t.2.1) with | some t => t.1 | none => 0) = _
    rw [hf]
  · show (match as.find? (fun x => x.2.1 == t.2.1) with | some t => t.2.2.2 | none => 0) = _
    rw [hf]
theorem ob_A (hf : (as.map (fun t => t.1)).Nodup) (ht : t ∈ as) (o : Nat) : yA (obL k h0 as rf) o t.1 = t.2.1 := by
  have h := find_nd (fun t : Nat × Nat × Nat × Nat => t.1) as t hf ht
  show (match as.find? (fun x => x.1 == t.1) with | some t => t.2.1 | none => 0) = _
  rw [h]
theorem ob_K : yK (obL k h0 as rf) h0 = k := if_pos rfl
theorem ob_qob : qob (obL k h0 as rf) k h0 := ⟨List.mem_cons_self, ob_K⟩
theorem ob_pl {Δ : QDl} {S : QMem} (hn : (h0 :: as.map (fun t => t.2.1)).Nodup) (hk : ∀ t ∈ as, 11 ≤ t.2.2.1 ∧ t.2.2.1 ≤ 15) : va_pl (yL (obL k h0 as rf)) (wF Δ (obL k h0 as rf) S) = (h0, wE k Δ (obL k h0 as rf) S h0) :: as.map (fun t => (t.2.1, arE Δ as S rf h0 t)) := by
  show (h0, wF Δ (obL k h0 as rf) S h0) :: (as.map (fun t => t.2.1)).map (fun a => (a, wF Δ (obL k h0 as rf) S a)) = _
  rw [List.map_map]
  congr 1
  · unfold wF
    rw [ob_K]
  · refine List.map_congr_left (fun t ht => ?_)
    obtain ⟨b1, b2, b3, b4, b5⟩ := ob_at (k := k) (rf := rf) hn ht
    have hk' := hk t ht
    show (t.2.1, wF Δ (obL k h0 as rf) S t.2.1) = (t.2.1, arE Δ as S rf h0 t)
    refine congrArg (Prod.mk t.2.1) ?_
    unfold wF arE
    rw [b2]
    have hc : t.2.2.1 = 11 ∨ t.2.2.1 = 12 ∨ t.2.2.1 = 13 ∨ t.2.2.1 = 14 ∨ t.2.2.1 = 15 := by omega
    rcases hc with e | e | e | e | e <;> rw [e] <;> simp only [wE, b3, b4] <;> rfl
theorem tA_hi {k f : Nat} (h : 11 ≤ k) : (tA k f).1 = 0 := by
  obtain ⟨j, rfl⟩ : ∃ j, k = j + 11 := ⟨k - 11, by omega⟩
  rfl
theorem tR_hi {k f : Nat} (h : 11 ≤ k) : (tR k f).1 = 0 := by
  obtain ⟨j, rfl⟩ : ∃ j, k = j + 11 := ⟨k - 11, by omega⟩
  rfl
theorem ob_mem {a : Nat} (h : a ∈ yL (obL k h0 as rf)) : a = h0 ∨ ∃ t ∈ as, t.2.1 = a := by
  rcases List.mem_cons.mp h with e | e
  · exact Or.inl e
  · obtain ⟨t, ht, he⟩ := List.mem_map.mp e
    exact Or.inr ⟨t, ht, he⟩
theorem ob_LyA (hn : (h0 :: as.map (fun t => t.2.1)).Nodup) (hf : (as.map (fun t => t.1)).Nodup) (hk : k < 11) (hk2 : ∀ t ∈ as, 11 ≤ t.2.2.1 ∧ t.2.2.1 ≤ 15 ∧ tI k t.1 = false) (hc1 : ∀ f, (tA k f).1 ≠ 0 → ∃ a n : Nat, (f, a, (tA k f).1, n) ∈ as ∧ (n : Int) = (tA k f).2 ∧ n ≤ 65536) (hc2 : ∀ (f : Nat) (i : Int), (tA k f).1 = 15 → 0 ≤ i → i < (tA k f).2 → ∃ a n : Nat, (rw_ f i, a, 11, n) ∈ as ∧ (n : Int) = (tA k f).2 ∧ n ≤ 65536) : LyA (obL k h0 as rf) := by
  have hK : ∀ t ∈ as, 11 ≤ yK (obL k h0 as rf) t.2.1 := fun t ht => by rw [(ob_at (k := k) (rf := rf) hn ht).2.1]; exact (hk2 t ht).1
  refine ⟨fun o f ho ht => ?_, fun o f i ho ht i0 i1 => ?_, fun a ha hkk => ?_, fun a _ _ => List.mem_cons_self⟩
  · rcases ob_mem ho with e | ⟨t, h1, e⟩
    · rw [e, ob_K] at ht ⊢
      obtain ⟨a, n, h1, h2, h3⟩ := hc1 f ht
      obtain ⟨b1, b2, b3, b4, b5⟩ := ob_at (k := k) (rf := rf) hn h1
      rw [ob_A (k := k) (h0 := h0) (rf := rf) hf h1 h0]
      exact ⟨b5, b2, rfl, b3, by rw [b4]; exact h2, by rw [b4]; exact h3⟩
    · rw [← e] at ht
      exact absurd (tA_hi (hK t h1)) ht
  · rcases ob_mem ho with e | ⟨t, h1, e⟩
    · rw [e, ob_K] at ht i1 ⊢
      obtain ⟨a, n, h1, h2, h3⟩ := hc2 f i ht i0 i1
      obtain ⟨b1, b2, b3, b4, b5⟩ := ob_at (k := k) (rf := rf) hn h1
      rw [ob_A (k := k) (h0 := h0) (rf := rf) hf h1 h0]
      exact ⟨b5, b2, rfl, b3, by rw [b4]; exact h2, by rw [b4]; exact h3⟩
    · rw [← e, tA_hi (hK t h1)] at ht
      exact absurd ht (by decide)
  · rcases ob_mem ha with e | ⟨t, h1, e⟩
    · rw [e, ob_K] at hkk
      omega
    · obtain ⟨b1, b2, b3, b4, b5⟩ := ob_at (k := k) (rf := rf) hn h1
      rw [← e, b3]
      refine ⟨(ob_A (k := k) (h0 := h0) (rf := rf) hf h1 _).symm, ?_⟩
      show tI (yK (obL k h0 as rf) h0) t.1 = false
      rw [ob_K]
      exact (hk2 t h1).2.2
theorem ob_LyR {X : QLay} (hn : (h0 :: as.map (fun t => t.2.1)).Nodup) (hk2 : ∀ t ∈ as, 11 ≤ t.2.2.1 ∧ t.2.2.1 ≤ 15 ∧ tI k t.1 = false) (hr : ∀ (f : Nat) (i : Int), (tR k f).1 ≠ 0 → 0 ≤ i → i < (tR k f).2 → qob X ((tR k f).1 - 1) (rf f i)) : LyR (obL k h0 as rf) X := fun o f i ho ht i0 i1 => by
  rcases ob_mem ho with e | ⟨t, h1, e⟩
  · rw [e, ob_K] at ht i1 ⊢
    exact hr f i ht i0 i1
  · obtain ⟨b1, b2, b3, b4, b5⟩ := ob_at (k := k) (rf := rf) hn h1
    rw [← e] at ht
    exact absurd (tR_hi (by rw [b2]; exact (hk2 t h1).1)) ht
theorem ob_okQ {X : QLay} {S : QMem} (hn : (h0 :: as.map (fun t => t.2.1)).Nodup) (hk2 : ∀ t ∈ as, 11 ≤ t.2.2.1 ∧ t.2.2.1 ≤ 15 ∧ tI k t.1 = false) (hr : k = 4 → qob X 7 (S.2 h0 0) ∧ qob X 7 (S.2 h0 1)) : okQ (obL k h0 as rf) X S := fun s hs => by
  rcases ob_mem hs.1 with e | ⟨t, h1, e⟩
  · have := hs.2
    rw [e, ob_K] at this
    rw [e]
    exact hr this
  · obtain ⟨b1, b2, b3, b4, b5⟩ := ob_at (k := k) (rf := rf) hn h1
    have := hs.2
    rw [← e, b2] at this
    have := (hk2 t h1).1
    omega
end
