/-! the class and the reference in one store -/
def kN (K : g_Q9) (q : Nat) : Prop := g_not K.1 q ∧ (∀ p, p < 17 → K.2.1 p ≠ q) ∧ ∀ i, i < 9 → K.2.2.1 i ≠ q
def kQ (Q : Nat → Nat) (q : Nat) : Prop := ∀ i, i < 6 → Q i ≠ q
theorem ix_no {f : Nat → Nat} {q : Nat} : ∀ {n : Nat}, ix f q n = none → ∀ i, i < n → f i ≠ q
  | 0, _ => fun i hi => absurd hi (Nat.not_lt_zero _)
  | n + 1, h => fun i hi => by
    unfold ix at h
    split at h
    · cases h
    · rename_i hn
      rcases Nat.lt_or_ge i n with w | w
      · exact ix_no h i w
      · rw [show i = n by omega]; exact hn
def CDE (K : g_Q9) (a b c d : Int) : g_E := .inr (0, [.ref (K.2.2.1 3), .ref (K.1.1 37), .ref (K.1.1 38), .long (lZ a), .long (lZ b), .long (lZ c), .long (lZ d)])
theorem dk_or (K : g_Q9) (y : g_Y) (a b c d : Int) (s : Nat → Nat) (lf : Nat → Nat → Nat) (q : Nat) : (¬ kN K q ∧ ∃ e, ∀ σ : g_S, (dk K σ y a b c d s lf).1 q = e) ∨ (kN K q ∧ ∀ σ : g_S, (dk K σ y a b c d s lf).1 q = σ.1 q) := by
  unfold dk mkN
  simp only
  cases h1 : ix K.1.1 q 45 with
  | some i =>
    obtain ⟨u1, u2⟩ := ix_eq h1
    exact Or.inl ⟨fun w => (w.1 i u1).1 u2, _, fun σ => rfl⟩
  | none =>
    cases h2 : ix K.1.2.1 q 45 with
    | some i =>
      obtain ⟨u1, u2⟩ := ix_eq h2
      exact Or.inl ⟨fun w => (w.1 i u1).2 u2, _, fun σ => rfl⟩
    | none =>
      unfold cdS
      by_cases h3 : q = K.2.2.1 2
      · refine Or.inl ⟨fun w => w.2.2 2 (by decide) h3.symm, some (CDE K a b c d), fun σ => ?_⟩
        rw [h3]
        exact g_up_s _ _ _
      · cases h4 : ix K.2.1 q 17 with
        | some p =>
          obtain ⟨u1, u2⟩ := ix_eq h4
          refine Or.inl ⟨fun w => w.2.1 p u1 u2, some (.inr (2, [.ref (K.1.1 (2 * p)), .ref (K.1.1 (2 * p + 1)), .int (nI (y.1 p))])), fun σ => ?_⟩
          simp only
          rw [g_up_n _ _ h3]
          unfold mkF
          simp only [h4]
        | none =>
          cases h5 : ix K.2.2.1 q 9 with
          | some i =>
            obtain ⟨u1, u2⟩ := ix_eq h5
            refine Or.inl ⟨fun w => w.2.2 i u1 u2, some (oE K y.2.1 y.2.2 i), fun σ => ?_⟩
            simp only
            rw [g_up_n _ _ h3]
            unfold mkF
            simp only [h4]
            unfold mkO
            simp only [h5]
          | none =>
            refine Or.inr ⟨⟨fun i hi => ⟨ix_no h1 i hi, ix_no h2 i hi⟩, ix_no h4, ix_no h5⟩, fun σ => ?_⟩
            simp only
            rw [g_up_n _ _ h3]
            unfold mkF
            simp only [h4]
            unfold mkO
            simp only [h5]
theorem St_frame {K : g_Q9} {σb σ : g_S} {y : g_Y} {v : Nat → Nat} (S : St K σb σ y v) : σ.2 = σb.2 ∧ ∀ q, kN K q → σ.1 q = σb.1 q := by
  obtain ⟨a, b, c, d, s, lf, rfl, -⟩ := S
  refine ⟨rfl, fun q hq => ?_⟩
  rcases dk_or K y a b c d s lf q with ⟨h, -⟩ | ⟨-, h⟩
  · exact absurd hq h
  · exact h σb
theorem St_move {K : g_Q9} {σb σ σ' : g_S} {y : g_Y} {v : Nat → Nat} (S : St K σb σ y v) (h : ∀ q, ¬ kN K q → σ'.1 q = σ.1 q) : St K σ' σ' y v := by
  obtain ⟨a, b, c, d, s, lf, rfl, g⟩ := S
  refine ⟨a, b, c, d, s, lf, ?_, g⟩
  apply Prod.ext
  · funext q
    rcases dk_or K y a b c d s lf q with ⟨h1, e, h2⟩ | ⟨h1, h2⟩
    · rw [h q h1, h2, h2]
    · rw [h2]
  · rfl
theorem CS_frame {K : g_Q9} {σb σ : g_S} {m : g_M} (C : CS K σb σ m) : σ.2 = σb.2 ∧ ∀ q, kN K q → σ.1 q = σb.1 q := by
  obtain ⟨y, v, S, -⟩ := C
  exact St_frame S
theorem CS_move {K : g_Q9} {σb σ σ' : g_S} {m : g_M} (C : CS K σb σ m) (h : ∀ q, ¬ kN K q → σ'.1 q = σ.1 q) : CS K σ' σ' m := by
  obtain ⟨y, v, S, V⟩ := C
  exact ⟨y, v, St_move S h, V⟩
theorem MS_frame {Q : Nat → Nat} {σ0 σ : g_S} {m : g_M} (C : MS Q σ0 σ m) : σ.2 = σ0.2 ∧ ∀ q, kQ Q q → σ.1 q = σ0.1 q := by
  obtain ⟨z, v, ⟨s, lf, rfl, -⟩, -⟩ := C
  exact ⟨rfl, fun q hq => md_x hq⟩
theorem MS_move {Q : Nat → Nat} {σ0 σ σ' : g_S} {m : g_M} (C : MS Q σ0 σ m) (h : ∀ q, ¬ kQ Q q → σ'.1 q = σ.1 q) : MS Q σ' σ' m := by
  obtain ⟨z, v, ⟨s, lf, rfl, g⟩, V⟩ := C
  refine ⟨z, v, ⟨s, lf, ?_, g⟩, V⟩
  apply Prod.ext
  · funext q
    unfold md
    simp only
    cases hx : ix Q q 6 with
    | some i =>
      obtain ⟨u1, u2⟩ := ix_eq hx
      rw [h q (fun w => w i u1 u2)]
      unfold md
      simp only [hx]
    | none => simp only
  · rfl
/-- the layouts are apart, and the law's long lies beside them -/
def kA (K : g_Q9) (Q : Nat → Nat) (o : Nat) : Prop := kOK K ∧ kM Q ∧ (∀ i, i < 6 → kN K (Q i)) ∧ kN K o ∧ kQ Q o
def g_BS (K : g_Q9) (Q : Nat → Nat) (o : Nat) (σ : g_S) (m m' : g_M) : Prop := CS K σ σ m ∧ MS Q σ σ m' ∧ ∃ f, σ.1 o = some (.inl (3, 1, .inr (.inl f)))
section LSS
variable {K : g_Q9} {Q : Nat → Nat} {o : Nat} {σ σ' : g_S} {m m' n : g_M}
theorem kA_Q (h : kA K Q o) {q : Nat} (hq : ¬ kQ Q q) : kN K q := by
  by_cases w : ∃ i, i < 6 ∧ Q i = q
  · obtain ⟨i, h1, h2⟩ := w
    rw [← h2]
    exact h.2.2.1 i h1
  · exact absurd (fun i hi e => w ⟨i, hi, e⟩) hq
theorem g_BS.cls (h : kA K Q o) (S : g_BS K Q o σ m m') (C : CS K σ σ' n) : g_BS K Q o σ' n m' ∧ σ'.2 = σ.2 := by
  obtain ⟨s1, s2, f, s3⟩ := S
  obtain ⟨e1, e2⟩ := CS_frame C
  exact ⟨⟨CS_move C (fun _ _ => rfl), MS_move s2 (fun q hq => e2 q (kA_Q h hq)), f, by rw [e2 o h.2.2.2.1]; exact s3⟩, e1⟩
theorem g_BS.ref (h : kA K Q o) (S : g_BS K Q o σ m m') (C : MS Q σ σ' n) : g_BS K Q o σ' m n ∧ σ'.2 = σ.2 := by
  obtain ⟨s1, s2, f, s3⟩ := S
  obtain ⟨e1, e2⟩ := MS_frame C
  refine ⟨⟨CS_move s1 (fun q hq => e2 q (fun i hi e => hq (by rw [← e]; exact h.2.2.1 i hi))), MS_move C (fun _ _ => rfl), f, by rw [e2 o h.2.2.2.2]; exact s3⟩, e1⟩
theorem g_BS.out (h : kA K Q o) (S : g_BS K Q o σ m m') {f : Nat → Int64} (h1 : σ'.1 o = some (.inl (3, 1, .inr (.inl f)))) (h2 : ∀ q, q ≠ o → σ'.1 q = σ.1 q) : g_BS K Q o σ' m m' := by
  obtain ⟨s1, s2, -⟩ := S
  exact ⟨CS_move s1 (fun q hq => h2 q (fun e => hq (by rw [e]; exact h.2.2.2.1))), MS_move s2 (fun q hq => h2 q (fun e => hq (by rw [e]; exact h.2.2.2.2))), f, h1⟩
end LSS
