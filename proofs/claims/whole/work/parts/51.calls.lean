/-! the desk's calls: what each answers, and the class's side -/
abbrev g_M : Type := (Nat → g_Fr) × (Nat × (Nat → Nat)) × (Nat × (Nat → Nat))
abbrev isP (x : Int32) : Prop := ¬ x < 0 ∧ ¬ 16 ≤ x
def pOf (x : Int32) : Nat := x.toNatClampNeg
theorem isP_of {x : Int32} (h : isP x) : pOf x < 16 ∧ x = nI (pOf x) := by
  obtain ⟨j, h1, rfl⟩ := nI_of h.1
  have e : pOf (nI j) = j := nI_clamp h1
  rw [e]
  refine ⟨?_, rfl⟩
  rcases Nat.lt_or_ge j 16 with q | q
  · exact q
  · exact absurd (nI_le q h1) h.2
theorem isbl_ex (v : Nat) : ∃ k, isbl v k := by
  have key : ∀ m, (∃ k, isbl v k) ∨ ∀ j, j < m → 2 ^ j ≤ v := by
    intro m
    induction m with
    | zero => exact Or.inr (fun j hj => by omega)
    | succ m ih =>
      rcases ih with h | h
      · exact Or.inl h
      · by_cases q : 2 ^ m ≤ v
        · exact Or.inr (fun j hj => by
            rcases Nat.lt_or_ge j m with w | w
            · exact h j w
            · rw [show j = m by omega]; exact q)
        · refine Or.inl ⟨m, by omega, ?_⟩
          rcases Nat.eq_zero_or_pos m with w | w
          · exact Or.inl w
          · exact Or.inr (h (m - 1) (by omega))
  rcases key (v + 1) with h | h
  · exact h
  · have h1 := h v (by omega)
    have h2 : v < 2 ^ v := Nat.lt_two_pow_self
    omega
noncomputable def nbit (v : Nat) : Nat := Classical.choose (isbl_ex v)
theorem nbit_is (v : Nat) : isbl v (nbit v) := Classical.choose_spec (isbl_ex v)
def fRed (f : g_Fr) : g_Fr := (f.1 / Nat.gcd f.1 f.2.1, f.2.1 / Nat.gcd f.1 f.2.1, sz (f.1 / Nat.gcd f.1 f.2.1) f.2.2)
def fb5 (a b c d e : Int32) (k : Nat) : Nat := bn (if k < 4 then a else if k < 8 then b else if k < 12 then c else if k < 16 then d else e) (k % 4)
def mFeed (m : g_M) (a b c d e : Int32) : Int32 × g_M := if m.2.1.1 ≤ 1380 then (1, m.1, (m.2.1.1 + 20, fun k => if k < m.2.1.1 then m.2.1.2 k else fb5 a b c d e (k - m.2.1.1)), m.2.2) else (0, m)
def mEnd (m : g_M) (n : Int32) : Int32 × g_M := if ¬ n < 0 ∧ n ≤ nI m.2.1.1 then (1, m.1, (n.toNatClampNeg, m.2.1.2), m.2.2) else (0, m)
noncomputable def mRead (m : g_M) (x : Int32) : Int32 × g_M := match spT m.2.1.2 m.2.1.1 with
  | some f => if isP x then (0, va_up m.1 (pOf x) (fRed f), (0, m.2.1.2), m.2.2) else (-1, m.1, (0, m.2.1.2), m.2.2)
  | none => (-1, m.1, (0, m.2.1.2), m.2.2)
def mSet (m : g_M) (x : Int32) (z : Int) : Int32 × g_M := if isP x then (0, va_up m.1 (pOf x) (z.natAbs, 1, if z < 0 then 1 else 0), m.2) else (-1, m)
def mKeep (m : g_M) (x : Int32) (r : Int32 × g_Fr) : Int32 × g_M := (r.1, if r.1 = 0 then (va_up m.1 (pOf x) r.2, m.2) else m)
def mReckon (m : g_M) (x a b op : Int32) : Int32 × g_M := if isP x ∧ isP a ∧ isP b then mKeep m x (spC (m.1 (pOf a)) (m.1 (pOf b)) op) else (-1, m)
def mRound (m : g_M) (x a op : Int32) : Int32 × g_M := if isP x ∧ isP a then mKeep m x (spR (m.1 (pOf a)) op) else (-1, m)
def mCmp (m : g_M) (a b : Int32) : Int32 := if isP a ∧ isP b then cOrd (m.1 (pOf a)) (m.1 (pOf b)) else -2
noncomputable def mWrite (m : g_M) (x r : Int32) : Int32 × g_M := if isP x ∧ ¬ r < 2 ∧ r ≤ 36 then (nI (spW (m.1 (pOf x)) r.toNatClampNeg).1, m.1, m.2.1, spW (m.1 (pOf x)) r.toNatClampNeg) else (-1, m)
noncomputable def mBits (m : g_M) (x : Int32) : Int32 := if isP x then nI (nbit (m.1 (pOf x)).1) else -1
def mInt (m : g_M) (x : Int32) : Int32 := if isP x ∧ (m.1 (pOf x)).2.1 = 1 then 1 else 0
/-- the desk's state, as the class holds it -/
def VW (y : g_Y) (v : Nat → Nat) (m : g_M) : Prop := (∀ p, p < 16 → m.1 p = (v (2 * p), v (2 * p + 1), y.1 p) ∧ fOK (m.1 p)) ∧ (y.2.1.1 = m.2.1.1 ∧ TP y m.2.1.2) ∧ TXT y.2.2 m.2.2.1 m.2.2.2
def CS (K : g_Q9) (σb σ : g_S) (m : g_M) : Prop := ∃ y v, St K σb σ y v ∧ VW y v m
-- what is in least terms stays so
theorem fOK_res {N D b : Nat} (hD : 0 < D) (hb : b ≤ 1) (h : (cRes N D b).1 = 0) : fOK (cRes N D b).2 := by
  unfold cRes at h ⊢
  by_cases hc : N / Nat.gcd N D < TOP ∧ D / Nat.gcd N D < TOP
  · rw [if_pos hc]
    refine ⟨hc.1, ?_, hc.2, Nat.gcd_div_gcd_div_gcd_of_pos_right hD, ?_, ?_⟩
    · exact Nat.div_pos (Nat.gcd_le_right _ hD) (Nat.gcd_pos_of_pos_right _ hD)
    · show sz _ _ ≤ 1
      unfold sz; split <;> omega
    · intro w
      show sz _ _ = 0
      unfold sz; exact if_pos w
  · rw [if_neg hc] at h
    exact absurd h (by decide)
theorem fOK_one {n b : Nat} (hn : n < TOP) (hb : b ≤ 1) : fOK (n, 1, sz n b) := by
  refine ⟨hn, Nat.one_pos, TOP_1, Nat.gcd_one_right n, ?_, fun w => ?_⟩
  · show sz n b ≤ 1
    unfold sz; split <;> omega
  · show sz n b = 0
    unfold sz; exact if_pos w
theorem fOK_int {n : Nat} (hn : n < TOP) : fOK (n, 1, 0) := ⟨hn, Nat.one_pos, TOP_1, Nat.gcd_one_right n, by show 0 ≤ 1; omega, fun _ => rfl⟩
theorem bx_le (a b : Nat) : bx a b ≤ 1 := by unfold bx; split <;> omega
theorem sF_le {A B b1 b2 : Nat} (h1 : b1 ≤ 1) (h2 : b2 ≤ 1) : sF A B b1 b2 ≤ 1 := by
  unfold sF
  split
  · exact h1
  · split <;> omega
theorem cQuo_lt {n m a b : Nat} (hn : n < TOP) : cQuo n m a b < TOP := by
  unfold cQuo
  split
  · have := Nat.div_le_self n m; omega
  · rename_i h
    have := q_up (n := n) (m := m) (fun w => h (Or.inr w))
    omega
theorem cRem_lt {n m a b : Nat} (hm : m < TOP) (h0 : m ≠ 0) : cRem n m a b < TOP := by
  have := Nat.mod_lt n (show 0 < m by omega)
  unfold cRem
  split <;> omega
theorem spC_ok {x z : g_Fr} {op : Int32} (hx : fOK x) (hz : fOK z) (h : (spC x z op).1 = 0) : fOK (spC x z op).2 := by
  obtain ⟨x1, x2, x3, x4, x5, x6⟩ := id hx
  obtain ⟨z1, z2, z3, z4, z5, z6⟩ := id hz
  have hD := Nat.mul_pos x2 z2
  unfold spC at h ⊢
  by_cases h0 : op = 0
  · rw [if_pos h0] at h ⊢; exact fOK_res hD (sF_le x5 z5) h
  rw [if_neg h0] at h ⊢
  by_cases h1 : op = 1
  · rw [if_pos h1] at h ⊢; exact fOK_res hD (sF_le x5 (by omega)) h
  rw [if_neg h1] at h ⊢
  by_cases h2 : op = 2
  · rw [if_pos h2] at h ⊢; exact fOK_res hD (bx_le _ _) h
  rw [if_neg h2] at h ⊢
  by_cases h3 : op = 3
  · rw [if_pos h3] at h ⊢
    by_cases hn : z.1 = 0
    · rw [if_pos hn] at h; exact absurd h (by decide)
    · rw [if_neg hn] at h ⊢; exact fOK_res (Nat.mul_pos x2 (Nat.pos_of_ne_zero hn)) (bx_le _ _) h
  rw [if_neg h3] at h ⊢
  by_cases h4 : op = 4
  · rw [if_pos h4] at h ⊢
    by_cases hw : x.2.1 = 1 ∧ z.2.1 = 1
    · rw [if_pos hw] at h ⊢
      by_cases hn : z.1 = 0
      · rw [if_pos hn] at h; exact absurd h (by decide)
      · rw [if_neg hn] at h ⊢; exact fOK_one (cQuo_lt x1) (bx_le _ _)
    · rw [if_neg hw] at h; exact absurd h (by decide)
  rw [if_neg h4] at h ⊢
  by_cases h5 : op = 5
  · rw [if_pos h5] at h ⊢
    by_cases hw : x.2.1 = 1 ∧ z.2.1 = 1
    · rw [if_pos hw] at h ⊢
      by_cases hn : z.1 = 0
      · rw [if_pos hn] at h; exact absurd h (by decide)
      · rw [if_neg hn] at h ⊢; exact fOK_one (cRem_lt z1 hn) z5
    · rw [if_neg hw] at h; exact absurd h (by decide)
  rw [if_neg h5] at h ⊢
  by_cases h6 : op = 6
  · rw [if_pos h6] at h ⊢
    by_cases hw : x.2.1 = 1 ∧ z.2.1 = 1
    · rw [if_pos hw] at h ⊢
      refine fOK_int ?_
      rcases Nat.eq_zero_or_pos x.1 with r | r
      · rw [r, Nat.gcd_zero_left]; exact z1
      · have := Nat.gcd_le_left z.1 r; omega
    · rw [if_neg hw] at h; exact absurd h (by decide)
  rw [if_neg h6] at h ⊢
  by_cases h7 : op = 7
  · rw [if_pos h7] at h ⊢
    by_cases hw : z.2.1 = 1 ∧ z.2.2 = 0 ∧ z.1 ≤ 10000
    · rw [if_pos hw] at h ⊢
      unfold cPow at h ⊢
      by_cases hc : x.1 ^ z.1 < TOP ∧ x.2.1 ^ z.1 < TOP
      · rw [if_pos hc]
        refine ⟨hc.1, Nat.pow_pos x2, hc.2, Nat.Coprime.pow _ _ x4, ?_, ?_⟩
        · show (if _ then sz _ _ else 0) ≤ 1
          unfold sz; split <;> (try split) <;> omega
        · intro w
          show (if _ then sz _ _ else 0) = 0
          split
          · unfold sz
            rw [if_pos]
            rcases Nat.eq_zero_or_pos x.1 with q | q
            · exact q
            · exact absurd w (Nat.ne_of_gt (Nat.pow_pos q))
          · rfl
      · rw [if_neg hc] at h; exact absurd h (by decide)
    · rw [if_neg hw] at h; exact absurd h (by decide)
  rw [if_neg h7] at h ⊢
  by_cases h8 : op = 8
  · rw [if_pos h8] at h ⊢
    split
    · exact hz
    · exact hx
  rw [if_neg h8] at h ⊢
  by_cases h9 : op = 9
  · rw [if_pos h9] at h ⊢
    split
    · exact hz
    · exact hx
  rw [if_neg h9] at h
  exact absurd h (by decide)
theorem spR_ok {x : g_Fr} {op : Int32} (hx : fOK x) (h : (spR x op).1 = 0) : fOK (spR x op).2 := by
  obtain ⟨x1, x2, x3, x4, x5, x6⟩ := id hx
  obtain ⟨c1, c2⟩ := cAw_le x op x5
  unfold spR at h ⊢
  by_cases h0 : op = 0
  · rw [if_pos h0] at h ⊢; exact fOK_one x1 x5
  rw [if_neg h0] at h ⊢
  by_cases h1 : op = 1
  · rw [if_pos h1] at h ⊢; exact fOK_int x3
  rw [if_neg h1] at h ⊢
  by_cases h2 : op = 2
  · rw [if_pos h2] at h ⊢; exact ⟨x1, x2, x3, x4, by show 0 ≤ 1; omega, fun _ => rfl⟩
  rw [if_neg h2] at h ⊢
  by_cases h7 : op = 7
  · rw [if_pos h7] at h ⊢
    refine ⟨x1, x2, x3, x4, ?_, fun w => ?_⟩
    · show sz _ _ ≤ 1
      unfold sz; split <;> omega
    · show sz _ _ = 0
      unfold sz; exact if_pos w
  rw [if_neg h7] at h ⊢
  by_cases h3 : op = 3 ∨ op = 4 ∨ op = 5 ∨ op = 6
  · rw [if_pos h3] at h ⊢
    refine fOK_one ?_ x5
    by_cases hr : x.1 % x.2.1 = 0
    · have := c2 hr
      have := Nat.div_le_self x.1 x.2.1
      omega
    · have := q_up hr
      omega
  · rw [if_neg h3] at h; exact absurd h (by decide)
theorem spT_ok {tn : Nat → Nat} {tl : Nat} {f : g_Fr} (h : spT tn tl = some f) : f.1 < TOP ∧ 0 < f.2.1 ∧ f.2.1 < TOP ∧ f.2.2 ≤ 1 := by
  have nle : tNeg tn tl ≤ 1 := by unfold tNeg; split <;> omega
  have h1 := TOP_1
  unfold spT at h
  split at h
  · rename_i hA
    split at h
    · split at h
      · rename_i hC
        cases h
        exact ⟨hA.2, Nat.pos_of_ne_zero hC.2.2.1, hC.2.1, nle⟩
      · cases h
    · split at h
      · cases h
        exact ⟨hA.2, Nat.one_pos, h1, nle⟩
      · cases h
  · cases h
theorem fRed_ok {f : g_Fr} (h1 : f.1 < TOP) (h2 : 0 < f.2.1) (h3 : f.2.1 < TOP) (h4 : f.2.2 ≤ 1) : fOK (fRed f) := by
  have q1 := Nat.div_le_self f.1 (Nat.gcd f.1 f.2.1)
  have q2 := Nat.div_le_self f.2.1 (Nat.gcd f.1 f.2.1)
  refine ⟨by show f.1 / _ < TOP; omega, Nat.div_pos (Nat.gcd_le_right _ h2) (Nat.gcd_pos_of_pos_right _ h2), by show f.2.1 / _ < TOP; omega, Nat.gcd_div_gcd_div_gcd_of_pos_right h2, ?_, fun w => ?_⟩
  · show sz _ _ ≤ 1
    unfold sz; split <;> omega
  · show sz _ _ = 0
    unfold sz; exact if_pos w
