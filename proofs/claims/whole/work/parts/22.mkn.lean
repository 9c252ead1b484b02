/-! THE DESK'S NATURALS laid over a store: object i at L.1 i, its row at L.2.1 i, of L.2.2 i places; size s i, limbs lf i. -/
abbrev g_L : Type := (Nat → Nat) × (Nat → Nat) × (Nat → Nat)
def ix (f : Nat → Nat) (q : Nat) : Nat → Option Nat
  | 0 => none
  | n + 1 => if f n = q then some n else ix f q n
theorem ix_some {f : Nat → Nat} {i : Nat} : ∀ {n : Nat}, (∀ a b, a < n → b < n → f a = f b → a = b) → i < n → ix f (f i) n = some i
  | 0, _, h => by omega
  | n + 1, hf, h => by
    unfold ix
    by_cases he : f n = f i
    · rw [if_pos he, hf n i (by omega) h he]
    · rw [if_neg he]
      exact ix_some (fun a b ha hb => hf a b (by omega) (by omega)) (by
        rcases Nat.lt_or_ge i n with q | q
        · exact q
        · exact absurd (by rw [show n = i by omega]) he)
theorem ix_none {f : Nat → Nat} {q : Nat} : ∀ {n : Nat}, (∀ i, i < n → f i ≠ q) → ix f q n = none
  | 0, _ => rfl
  | n + 1, h => by
    unfold ix
    rw [if_neg (h n (by omega))]
    exact ix_none (fun i hi => h i (by omega))
theorem ix_eq {f : Nat → Nat} {q i : Nat} : ∀ {n : Nat}, ix f q n = some i → i < n ∧ f i = q
  | 0, h => by cases h
  | n + 1, h => by
    unfold ix at h
    split at h
    · cases h; rename_i hq; exact ⟨by omega, hq⟩
    · have := ix_eq h; exact ⟨by omega, this.2⟩
def g_ok (L : g_L) : Prop := (∀ i j, i < 45 → j < 45 → L.1 i = L.1 j → i = j) ∧ (∀ i j, i < 45 → j < 45 → L.2.1 i = L.2.1 j → i = j) ∧ (∀ i j, i < 45 → j < 45 → L.1 i ≠ L.2.1 j) ∧ ∀ i, i < 45 → 67 ≤ L.2.2 i ∧ L.2.2 i < 1000
def g_not (L : g_L) (q : Nat) : Prop := ∀ i, i < 45 → L.1 i ≠ q ∧ L.2.1 i ≠ q
def mkN (L : g_L) (σ0 : g_S) (s : Nat → Nat) (lf : Nat → Nat → Nat) : g_S := (fun q => match ix L.1 q 45 with
  | some i => some (.inr (3, [.ref (L.2.1 i), .int (nI (s i))]))
  | none => match ix L.2.1 q 45 with
    | some i => some (.inl (0, L.2.2 i, .inl (fun k => nI (lf i k))))
    | none => σ0.1 q, σ0.2)
section MK
variable {L : g_L} {σ0 : g_S} {s : Nat → Nat} {lf : Nat → Nat → Nat}
theorem mkN_o (hL : g_ok L) {i : Nat} (hi : i < 45) : (mkN L σ0 s lf).1 (L.1 i) = some (.inr (3, [.ref (L.2.1 i), .int (nI (s i))])) := by
  unfold mkN
  simp only [ix_some hL.1 hi]
theorem mkN_a (hL : g_ok L) {i : Nat} (hi : i < 45) : (mkN L σ0 s lf).1 (L.2.1 i) = some (.inl (0, L.2.2 i, .inl (fun k => nI (lf i k)))) := by
  unfold mkN
  simp only [ix_none (fun j hj => hL.2.2.1 j i hj hi), ix_some hL.2.1 hi]
theorem mkN_x {q : Nat} (hq : g_not L q) : (mkN L σ0 s lf).1 q = σ0.1 q := by
  unfold mkN
  simp only [ix_none (fun j hj => (hq j hj).1), ix_none (fun j hj => (hq j hj).2)]
theorem mkN_ps (hL : g_ok L) {i : Nat} (hi : i < 45) (v : Nat) : g_up (mkN L σ0 s lf) (L.1 i) (.inr (3, [.ref (L.2.1 i), .int (nI v)])) = mkN L σ0 (va_up s i v) lf := by
  apply Prod.ext
  · funext q
    show (if q = L.1 i then _ else _) = _
    by_cases h : q = L.1 i
    · rw [if_pos h, h, mkN_o hL hi, va_up_self]
    · rw [if_neg h]
      simp only [mkN]
      cases hx : ix L.1 q 45 with
      | none => simp only
      | some j =>
        obtain ⟨h1, h2⟩ := ix_eq hx
        have hne : j ≠ i := fun e => h (by rw [← h2, e])
        simp only [va_up_ne s v hne]
  · rfl
theorem mkN_pa (hL : g_ok L) {i : Nat} (hi : i < 45) {h : Nat → Int32} {g : Nat → Nat} (hg : ∀ k, h k = nI (g k)) : g_up (mkN L σ0 s lf) (L.2.1 i) (.inl (0, L.2.2 i, .inl h)) = mkN L σ0 s (va_up lf i g) := by
  apply Prod.ext
  · funext q
    show (if q = L.2.1 i then _ else _) = _
    by_cases he : q = L.2.1 i
    · rw [if_pos he, he, mkN_a hL hi, va_up_self]
      congr 4
      exact congrArg Sum.inl (funext hg)
    · rw [if_neg he]
      simp only [mkN]
      cases hx : ix L.1 q 45 with
      | some j => simp only
      | none =>
        cases hy : ix L.2.1 q 45 with
        | none => simp only
        | some j =>
          obtain ⟨h1, h2⟩ := ix_eq hy
          have hne : j ≠ i := fun e => he (by rw [← h2, e])
          simp only [va_up_ne lf g hne]
  · rfl
theorem mkN_px {q : Nat} (hq : g_not L q) (e : g_E) : g_up (mkN L σ0 s lf) q e = mkN L (g_up σ0 q e) s lf := by
  apply Prod.ext
  · funext z
    show (if z = q then _ else _) = _
    by_cases h : z = q
    · rw [if_pos h, h, mkN_x hq]
      exact (if_pos rfl).symm
    · rw [if_neg h]
      unfold mkN
      simp only [g_up, if_neg h]
  · rfl
-- the store's steps on naturals
theorem n_o (hL : g_ok L) {i : Nat} (hi : i < 45) : g_o (mkN L σ0 s lf) 3 (L.1 i) = some [.ref (L.2.1 i), .int (nI (s i))] := g_o_of (mkN_o hL hi)
theorem n_size (hL : g_ok L) {i : Nat} (hi : i < 45) : g_fi (mkN L σ0 s lf) 3 (L.1 i) 1 = some (nI (s i)) := by
  unfold g_fi; rw [n_o hL hi]; rfl
theorem n_row (hL : g_ok L) {i : Nat} (hi : i < 45) : g_fr (mkN L σ0 s lf) 3 (L.1 i) 0 = some (L.2.1 i) := by
  unfold g_fr; rw [n_o hL hi]; rfl
theorem n_put (hL : g_ok L) {i : Nat} (hi : i < 45) (v : Nat) : g_p (mkN L σ0 s lf) 3 (L.1 i) 1 (.int (nI v)) = some (mkN L σ0 (va_up s i v) lf) := by
  unfold g_p; rw [n_o hL hi, ← mkN_ps hL hi v]; rfl
theorem n_ai (hL : g_ok L) {i : Nat} (hi : i < 45) : g_ai (mkN L σ0 s lf) 0 (L.2.1 i) = some (L.2.2 i, fun k => nI (lf i k)) := g_ai_of (mkN_a hL hi)
theorem n_get (hL : g_ok L) {i : Nat} (hi : i < 45) {k : Nat} (hk : k < L.2.2 i) : g_li (mkN L σ0 s lf) 0 (L.2.1 i) (nI k) = some (nI (lf i k)) := by
  have hr := (hL.2.2.2 i hi).2
  unfold g_li
  rw [n_ai hL hi]
  show (if g_in (nI k) (L.2.2 i) then _ else _) = _
  rw [if_pos (g_in_of hk (by omega)), nI_clamp (by omega)]
theorem n_set (hL : g_ok L) {i : Nat} (hi : i < 45) {k : Nat} (hk : k < L.2.2 i) (x : Nat) : g_si (mkN L σ0 s lf) 0 (L.2.1 i) (nI k) (nI x) = some (mkN L σ0 s (va_up lf i (va_up (lf i) k x))) := by
  have hr := (hL.2.2.2 i hi).2
  unfold g_si
  rw [n_ai hL hi]
  show (if g_in (nI k) (L.2.2 i) then _ else _) = _
  rw [if_pos (g_in_of hk (by omega)), nI_clamp (by omega)]
  congr 1
  exact mkN_pa hL hi (fun j => by
    show (if j = k then _ else _) = nI (if j = k then _ else _)
    by_cases h : j = k
    · rw [if_pos h, if_pos h]
    · rw [if_neg h, if_neg h])
theorem n_copy (hL : g_ok L) {i j : Nat} (hi : i < 45) (hj : j < 45) {n : Nat} (h1 : n ≤ L.2.2 i) (h2 : n ≤ L.2.2 j) : g_cp (mkN L σ0 s lf) 0 (L.2.1 j) 0 (L.2.1 i) 0 (nI n) = some (mkN L σ0 s (va_up lf i (va_cpy (lf j) (lf i) 0 0 n))) := by
  have hr := (hL.2.2.2 i hi).2
  unfold g_cp
  rw [n_ai hL hi, n_ai hL hj]
  show (if _ then _ else _) = _
  have e0 : (0 : Int32).toInt = 0 := rfl
  have e1 : (0 : Int32).toNatClampNeg = 0 := rfl
  rw [if_pos (by rw [e0, nI_toInt (by omega)]; omega), e1, nI_clamp (by omega)]
  congr 1
  exact mkN_pa hL hi (fun k => by
    show (if _ then _ else _) = nI (if _ then _ else _)
    by_cases h : 0 ≤ k ∧ k < 0 + n
    · rw [if_pos h, if_pos h]
    · rw [if_neg h, if_neg h])
end MK
