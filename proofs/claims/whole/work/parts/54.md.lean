/-! THE REFERENCE laid over a store: its object and five rows; the numbers' rows are 264 digits each, base 65536. -/
abbrev g_Z : Type := Nat × (Nat → Nat) × (Nat → Nat) × Nat × (Nat → Nat) × Nat
def mE (Q : Nat → Nat) (z : g_Z) (s : Nat → Nat) (lf : Nat → Nat → Nat) : Nat → g_E
  | 0 => .inr (8, [.int (nI z.1), .ref (Q 1), .ref (Q 2), .ref (Q 3), .ref (Q 4), .int (nI z.2.2.2.1), .ref (Q 5), .int (nI z.2.2.2.2.2)])
  | 1 => .inl (0, 11616, .inl (fun q => nI (lf (q / 264) (q % 264))))
  | 2 => .inl (0, 44, .inl (fun x => nI (s x)))
  | 3 => .inl (5, 16, .inl (fun p => nI (z.2.1 p)))
  | 4 => .inl (0, 1400, .inl (fun k => nI (z.2.2.1 k)))
  | 5 => .inl (0, 4200, .inl (fun k => nI (z.2.2.2.2.1 k)))
  | _ => .inr (8, [])
def md (Q : Nat → Nat) (σ0 : g_S) (z : g_Z) (s : Nat → Nat) (lf : Nat → Nat → Nat) : g_S := (fun q => match ix Q q 6 with
  | some i => some (mE Q z s lf i)
  | none => σ0.1 q, σ0.2)
def kM (Q : Nat → Nat) : Prop := ∀ i j, i < 6 → j < 6 → Q i = Q j → i = j
section MD
variable {Q : Nat → Nat} {σ0 : g_S} {z : g_Z} {s : Nat → Nat} {lf : Nat → Nat → Nat} {v : Nat → Nat}
theorem md_at (hQ : kM Q) {i : Nat} (hi : i < 6) : (md Q σ0 z s lf).1 (Q i) = some (mE Q z s lf i) := by
  unfold md
  simp only [ix_some hQ hi]
theorem md_x {q : Nat} (hq : ∀ i, i < 6 → Q i ≠ q) : (md Q σ0 z s lf).1 q = σ0.1 q := by
  unfold md
  simp only [ix_none hq]
theorem md_up (hQ : kM Q) {i : Nat} (hi : i < 6) {z' : g_Z} {s' : Nat → Nat} {lf' : Nat → Nat → Nat} {e : g_E} (he : mE Q z' s' lf' i = e) (hr : ∀ j, j ≠ i → mE Q z' s' lf' j = mE Q z s lf j) : g_up (md Q σ0 z s lf) (Q i) e = md Q σ0 z' s' lf' := by
  apply Prod.ext
  · funext q
    show (if q = Q i then _ else _) = _
    by_cases h : q = Q i
    · rw [if_pos h, h, md_at hQ hi, he]
    · rw [if_neg h]
      simp only [md]
      cases hx : ix Q q 6 with
      | none => simp only
      | some j =>
        obtain ⟨h1, h2⟩ := ix_eq hx
        have hne : j ≠ i := fun w => h (by rw [← h2, w])
        simp only [hr j hne]
  · rfl
theorem m_o (hQ : kM Q) : g_o (md Q σ0 z s lf) 8 (Q 0) = some [.int (nI z.1), .ref (Q 1), .ref (Q 2), .ref (Q 3), .ref (Q 4), .int (nI z.2.2.2.1), .ref (Q 5), .int (nI z.2.2.2.2.2)] := g_o_of (md_at hQ (i := 0) (by decide))
theorem rM (hQ : kM Q) : g_fi (md Q σ0 z s lf) 8 (Q 0) 0 = some (nI z.1) ∧ g_fr (md Q σ0 z s lf) 8 (Q 0) 1 = some (Q 1) ∧ g_fr (md Q σ0 z s lf) 8 (Q 0) 2 = some (Q 2) ∧ g_fr (md Q σ0 z s lf) 8 (Q 0) 3 = some (Q 3) ∧ g_fr (md Q σ0 z s lf) 8 (Q 0) 4 = some (Q 4) ∧ g_fi (md Q σ0 z s lf) 8 (Q 0) 5 = some (nI z.2.2.2.1) ∧ g_fr (md Q σ0 z s lf) 8 (Q 0) 6 = some (Q 5) ∧ g_fi (md Q σ0 z s lf) 8 (Q 0) 7 = some (nI z.2.2.2.2.2) ∧ (∀ {β : Type} (X : Option β), ((g_o (md Q σ0 z s lf) 8 (Q 0)).bind fun _ => X) = X) := by
  unfold g_fr g_fi
  rw [m_o hQ]
  exact ⟨rfl, rfl, rfl, rfl, rfl, rfl, rfl, rfl, fun X => rfl⟩
theorem m_p0 (hQ : kM Q) (n : Nat) : g_p (md Q σ0 z s lf) 8 (Q 0) 0 (.int (nI n)) = some (md Q σ0 (n, z.2) s lf) := by
  unfold g_p
  rw [m_o hQ, ← md_up (z := z) (s := s) (lf := lf) hQ (i := 0) (z' := (n, z.2)) (s' := s) (lf' := lf) (by decide) rfl (fun j hj => by unfold mE; split <;> first | rfl | exact absurd rfl hj)]
  rfl
theorem m_p5 (hQ : kM Q) (n : Nat) : g_p (md Q σ0 z s lf) 8 (Q 0) 5 (.int (nI n)) = some (md Q σ0 (z.1, z.2.1, z.2.2.1, n, z.2.2.2.2) s lf) := by
  unfold g_p
  rw [m_o hQ, ← md_up (z := z) (s := s) (lf := lf) hQ (i := 0) (z' := (z.1, z.2.1, z.2.2.1, n, z.2.2.2.2)) (s' := s) (lf' := lf) (by decide) rfl (fun j hj => by unfold mE; split <;> first | rfl | exact absurd rfl hj)]
  rfl
theorem m_p7 (hQ : kM Q) (n : Nat) : g_p (md Q σ0 z s lf) 8 (Q 0) 7 (.int (nI n)) = some (md Q σ0 (z.1, z.2.1, z.2.2.1, z.2.2.2.1, z.2.2.2.2.1, n) s lf) := by
  unfold g_p
  rw [m_o hQ, ← md_up (z := z) (s := s) (lf := lf) hQ (i := 0) (z' := (z.1, z.2.1, z.2.2.1, z.2.2.2.1, z.2.2.2.2.1, n)) (s' := s) (lf' := lf) (by decide) rfl (fun j hj => by unfold mE; split <;> first | rfl | exact absurd rfl hj)]
  rfl
theorem m_len (hQ : kM Q) {x : Nat} (hx : x < 44) : g_li (md Q σ0 z s lf) 0 (Q 2) (nI x) = some (nI (s x)) := by
  have e : g_ai (md Q σ0 z s lf) 0 (Q 2) = _ := g_ai_of (md_at hQ (i := 2) (by decide))
  unfold g_li
  rw [e]
  show (if g_in (nI x) 44 then _ else _) = _
  rw [if_pos (g_in_of hx (by decide)), nI_clamp (by omega)]
theorem m_get (hQ : kM Q) {x k : Nat} (hx : x < 44) (hk : k < 264) : g_li (md Q σ0 z s lf) 0 (Q 1) (nI (264 * x + k)) = some (nI (lf x k)) := by
  have e : g_ai (md Q σ0 z s lf) 0 (Q 1) = _ := g_ai_of (md_at hQ (i := 1) (by decide))
  unfold g_li
  rw [e]
  show (if g_in (nI (264 * x + k)) 11616 then some (nI (lf ((nI (264 * x + k)).toNatClampNeg / 264) ((nI (264 * x + k)).toNatClampNeg % 264))) else _) = _
  rw [if_pos (g_in_of (by omega) (by decide)), nI_clamp (by omega), show (264 * x + k) / 264 = x by omega, show (264 * x + k) % 264 = k by omega]
theorem upd_nI {f : Nat → Nat} {k x : Nat} : upd (fun j => nI (f j)) k (nI x) = fun j => nI (va_up f k x j) := by
  funext j
  show (if j = k then nI x else nI (f j)) = nI (if j = k then x else f j)
  split <;> rfl
theorem m_put (hQ : kM Q) {x k : Nat} (hx : x < 44) (hk : k < 264) (n : Nat) : g_si (md Q σ0 z s lf) 0 (Q 1) (nI (264 * x + k)) (nI n) = some (md Q σ0 z s (va_up lf x (va_up (lf x) k n))) := by
  have e : g_ai (md Q σ0 z s lf) 0 (Q 1) = _ := g_ai_of (md_at hQ (i := 1) (by decide))
  unfold g_si
  rw [e]
  show (if g_in (nI (264 * x + k)) 11616 then _ else _) = _
  rw [if_pos (g_in_of (by omega) (by decide)), nI_clamp (by omega)]
  congr 1
  refine md_up hQ (i := 1) (by decide) ?_ (fun j hj => by unfold mE; split <;> first | rfl | exact absurd rfl hj)
  show (Sum.inl (0, 11616, Sum.inl (fun q => nI (va_up lf x (va_up (lf x) k n) (q / 264) (q % 264)))) : g_E) = Sum.inl (0, 11616, Sum.inl (upd (fun q => nI (lf (q / 264) (q % 264))) (264 * x + k) (nI n)))
  congr 4
  funext q
  show _ = if q = 264 * x + k then nI n else nI (lf (q / 264) (q % 264))
  by_cases h1 : q / 264 = x
  · rw [h1, va_up_self]
    by_cases h2 : q % 264 = k
    · rw [h2, va_up_self, if_pos (by omega)]
    · rw [va_up_ne _ _ h2, if_neg (by omega)]
  · rw [va_up_ne _ _ h1, if_neg (by omega)]
theorem m_setl (hQ : kM Q) {x : Nat} (hx : x < 44) (n : Nat) : g_si (md Q σ0 z s lf) 0 (Q 2) (nI x) (nI n) = some (md Q σ0 z (va_up s x n) lf) := by
  have e : g_ai (md Q σ0 z s lf) 0 (Q 2) = _ := g_ai_of (md_at hQ (i := 2) (by decide))
  unfold g_si
  rw [e]
  show (if g_in (nI x) 44 then some (g_up _ _ (.inl (0, 44, .inl (upd (fun x => nI (s x)) (nI x).toNatClampNeg (nI n))))) else _) = _
  rw [if_pos (g_in_of hx (by decide)), nI_clamp (by omega), upd_nI]
  congr 1
  exact md_up hQ (i := 2) (by decide) rfl (fun j hj => by unfold mE; split <;> first | rfl | exact absurd rfl hj)
theorem m_bel (hQ : kM Q) {p : Nat} (hp : p < 16) : g_li (md Q σ0 z s lf) 5 (Q 3) (nI p) = some (nI (z.2.1 p)) := by
  have e : g_ai (md Q σ0 z s lf) 5 (Q 3) = _ := g_ai_of (md_at hQ (i := 3) (by decide))
  unfold g_li
  rw [e]
  show (if g_in (nI p) 16 then _ else _) = _
  rw [if_pos (g_in_of hp (by decide)), nI_clamp (by omega)]
theorem m_setb (hQ : kM Q) {p : Nat} (hp : p < 16) (n : Nat) : g_si (md Q σ0 z s lf) 5 (Q 3) (nI p) (nI n) = some (md Q σ0 (z.1, va_up z.2.1 p n, z.2.2) s lf) := by
  have e : g_ai (md Q σ0 z s lf) 5 (Q 3) = _ := g_ai_of (md_at hQ (i := 3) (by decide))
  unfold g_si
  rw [e]
  show (if g_in (nI p) 16 then some (g_up _ _ (.inl (5, 16, .inl (upd (fun x => nI (z.2.1 x)) (nI p).toNatClampNeg (nI n))))) else _) = _
  rw [if_pos (g_in_of hp (by decide)), nI_clamp (by omega), upd_nI]
  congr 1
  exact md_up hQ (i := 3) (by decide) rfl (fun j hj => by unfold mE; split <;> first | rfl | exact absurd rfl hj)
theorem m_tap (hQ : kM Q) {k : Nat} (hk : k < 1400) : g_li (md Q σ0 z s lf) 0 (Q 4) (nI k) = some (nI (z.2.2.1 k)) := by
  have e : g_ai (md Q σ0 z s lf) 0 (Q 4) = _ := g_ai_of (md_at hQ (i := 4) (by decide))
  unfold g_li
  rw [e]
  show (if g_in (nI k) 1400 then _ else _) = _
  rw [if_pos (g_in_of hk (by decide)), nI_clamp (by omega)]
theorem m_sett (hQ : kM Q) {k : Nat} (hk : k < 1400) (n : Nat) : g_si (md Q σ0 z s lf) 0 (Q 4) (nI k) (nI n) = some (md Q σ0 (z.1, z.2.1, va_up z.2.2.1 k n, z.2.2.2) s lf) := by
  have e : g_ai (md Q σ0 z s lf) 0 (Q 4) = _ := g_ai_of (md_at hQ (i := 4) (by decide))
  unfold g_si
  rw [e]
  show (if g_in (nI k) 1400 then some (g_up _ _ (.inl (0, 1400, .inl (upd (fun x => nI (z.2.2.1 x)) (nI k).toNatClampNeg (nI n))))) else _) = _
  rw [if_pos (g_in_of hk (by decide)), nI_clamp (by omega), upd_nI]
  congr 1
  exact md_up hQ (i := 4) (by decide) rfl (fun j hj => by unfold mE; split <;> first | rfl | exact absurd rfl hj)
theorem m_txt (hQ : kM Q) {k : Nat} (hk : k < 4200) : g_li (md Q σ0 z s lf) 0 (Q 5) (nI k) = some (nI (z.2.2.2.2.1 k)) := by
  have e : g_ai (md Q σ0 z s lf) 0 (Q 5) = _ := g_ai_of (md_at hQ (i := 5) (by decide))
  unfold g_li
  rw [e]
  show (if g_in (nI k) 4200 then _ else _) = _
  rw [if_pos (g_in_of hk (by decide)), nI_clamp (by omega)]
theorem m_setx (hQ : kM Q) {k : Nat} (hk : k < 4200) (n : Nat) : g_si (md Q σ0 z s lf) 0 (Q 5) (nI k) (nI n) = some (md Q σ0 (z.1, z.2.1, z.2.2.1, z.2.2.2.1, va_up z.2.2.2.2.1 k n, z.2.2.2.2.2) s lf) := by
  have e : g_ai (md Q σ0 z s lf) 0 (Q 5) = _ := g_ai_of (md_at hQ (i := 5) (by decide))
  unfold g_si
  rw [e]
  show (if g_in (nI k) 4200 then some (g_up _ _ (.inl (0, 4200, .inl (upd (fun x => nI (z.2.2.2.2.1 x)) (nI k).toNatClampNeg (nI n))))) else _) = _
  rw [if_pos (g_in_of hk (by decide)), nI_clamp (by omega), upd_nI]
  congr 1
  exact md_up hQ (i := 5) (by decide) rfl (fun j hj => by unfold mE; split <;> first | rfl | exact absurd rfl hj)
theorem m_ix (x k : Nat) : 264 * nI x + nI k = nI (264 * x + k) := by
  rw [show (264 : Int32) = nI 264 from rfl, pk_mul, nI_add]
-- the small methods
theorem u_puts (hQ : kM Q) {x k : Nat} (hx : x < 44) (hk : k < 264) (n : Nat) : fX8_puts (md Q σ0 z s lf) (Q 0) (nI x) (nI k) (nI n) = some (md Q σ0 z s (va_up lf x (va_up (lf x) k n))) := by
  unfold fX8_puts
  rw [m_ix]
  simp only [rM hQ, Option.bind_some, m_put hQ hx hk]
theorem u_at (hQ : kM Q) {x k : Nat} (hx : x < 44) (hs : s x ≤ 264) (hk : k < 2147483648) : fX8_at (md Q σ0 z s lf) (Q 0) (nI x) (nI k) = some (nI (la s lf x k), md Q σ0 z s lf) := by
  unfold fX8_at BX8_at_26 la
  rw [m_ix]
  simp only [rM hQ, Option.bind_some, m_len hQ hx]
  by_cases h : k < s x
  · rw [if_neg (nI_ge h (by omega)), if_pos h, m_get hQ hx (by omega)]
    rfl
  · rw [if_pos (nI_le (by omega) hk), if_neg h]
    rfl
theorem u_trimL (hQ : kM Q) {x : Nat} (hx : x < 44) (hb : ∀ k, lf x k < 65536) : ∀ (n c : Nat), c < n → c ≤ 264 → LX8_trim_2 n (md Q σ0 z s lf) (Q 0) (nI x) (nI c) = some (md Q σ0 z (va_up s x (wt (lf x) c)) lf) := by
  intro n
  induction n with
  | zero => intro c h; omega
  | succ n ih =>
    intro c hn hc
    unfold LX8_trim_2 BX8_trim_29
    cases c with
    | zero =>
      rw [if_pos (by decide)]
      simp only [rM hQ, Option.bind_some, m_setl hQ hx]
      rfl
    | succ c =>
      rw [if_neg (nI_nle (by omega) (by omega)), m_ix, show 264 * x + (c + 1) = 264 * x + c + 1 by omega, nI_pred]
      simp only [rM hQ, Option.bind_some, m_get hQ hx (show c < 264 by omega)]
      have hlf := hb c
      unfold wt
      by_cases h0 : lf x c = 0
      · rw [if_pos (by rw [h0]; rfl), if_pos h0]
        simp only [g_let]
        rw [ja_m1, nI_pred]
        exact ih c (by omega) (by omega)
      · rw [if_neg (fun e => h0 ((ja_e0 (by omega)).mp e)), if_neg h0]
        simp only [m_setl hQ hx, Option.bind_some]
theorem u_trim (hQ : kM Q) {x c : Nat} (hx : x < 44) (hb : ∀ k, lf x k < 65536) (hc : c ≤ 264) : fX8_trim (md Q σ0 z s lf) (Q 0) (nI x) (nI c) = some (md Q σ0 z (va_up s x (wt (lf x) c)) lf) := u_trimL hQ hx hb g_fuel c (fuel_ge (by omega)) hc
end MD
