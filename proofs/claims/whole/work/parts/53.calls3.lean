/-! the class's calls on the tape -/
section CD
variable {K : g_Q9} {σb σ : g_S} {m : g_M}
theorem c_feed (hK : kOK K) (C : CS K σb σ m) (a b c d e : Int32) : ∃ σ', fX7_feed σ (K.2.2.1 0) a b c d e = some ((mFeed m a b c d e).1, σ') ∧ CS K σb σ' (mFeed m a b c d e).2 := by
  obtain ⟨y, v, S, V⟩ := id C
  obtain ⟨a1, ⟨a2, a3, a4⟩, a5⟩ := V
  unfold fX7_feed mFeed
  simp only [rdD hK S, rdT hK S, Option.bind_some]
  rw [show (1380 : Int32) = nI 1380 from rfl, a2]
  by_cases h : m.2.1.1 ≤ 1380
  · rw [if_pos ((nI_leI (by omega) (by omega)).mpr h), if_pos h]
    obtain ⟨σ1, t1, e1, S1, f1, g1⟩ := t_append hK S (by omega) a
    obtain ⟨σ2, t2, e2, S2, f2, g2⟩ := t_append hK S1 (by show y.2.1.1 + 4 + 4 ≤ 1400; omega) b
    obtain ⟨σ3, t3, e3, S3, f3, g3⟩ := t_append hK S2 (by show y.2.1.1 + 4 + 4 + 4 ≤ 1400; omega) c
    obtain ⟨σ4, t4, e4, S4, f4, g4⟩ := t_append hK S3 (by show y.2.1.1 + 4 + 4 + 4 + 4 ≤ 1400; omega) d
    obtain ⟨σ5, t5, e5, S5, f5, g5⟩ := t_append hK S4 (by show y.2.1.1 + 4 + 4 + 4 + 4 + 4 ≤ 1400; omega) e
    simp only at f1 g1 f2 g2 f3 g3 f4 g4 f5 g5 S1 S2 S3 S4 S5
    refine ⟨σ5, ?_, _, v, S5, ?_⟩
    · simp only [rdD hK S, rdT hK S, Option.bind_some, e1, rdD hK S1, rdT hK S1, e2, rdD hK S2, rdT hK S2, e3, rdD hK S3, rdT hK S3, e4, rdD hK S4, rdT hK S4, e5]
    · refine ⟨a1, ⟨?_, ?_, ?_⟩, a5⟩
      · show y.2.1.1 + 4 + 4 + 4 + 4 + 4 = m.2.1.1 + 20
        omega
      · show y.2.1.1 + 4 + 4 + 4 + 4 + 4 ≤ 1400
        omega
      · intro k hk
        have hk : k < y.2.1.1 + 4 + 4 + 4 + 4 + 4 := hk
        show (if k < m.2.1.1 then m.2.1.2 k else fb5 a b c d e (k - m.2.1.1)) < 256 ∧ t5 k = sb (if k < m.2.1.1 then m.2.1.2 k else fb5 a b c d e (k - m.2.1.1))
        by_cases w : k < m.2.1.1
        · rw [if_pos w, f5 k (by omega), f4 k (by omega), f3 k (by omega), f2 k (by omega), f1 k (by omega)]
          exact a4 k (by omega)
        · rw [if_neg w]
          refine ⟨bn_lt _ _, ?_⟩
          obtain ⟨j, rfl⟩ : ∃ j, k = y.2.1.1 + j := ⟨k - y.2.1.1, by omega⟩
          rw [show y.2.1.1 + j - m.2.1.1 = j by omega]
          unfold fb5
          by_cases w1 : j < 4
          · rw [if_pos w1, f5 _ (by omega), f4 _ (by omega), f3 _ (by omega), f2 _ (by omega), g1 j w1, Nat.mod_eq_of_lt w1]
          · rw [if_neg w1]
            by_cases w2 : j < 8
            · rw [if_pos w2, f5 _ (by omega), f4 _ (by omega), f3 _ (by omega), show y.2.1.1 + j = y.2.1.1 + 4 + (j - 4) by omega, g2 _ (by omega), show j % 4 = j - 4 by omega]
            · rw [if_neg w2]
              by_cases w3 : j < 12
              · rw [if_pos w3, f5 _ (by omega), f4 _ (by omega), show y.2.1.1 + j = y.2.1.1 + 4 + 4 + (j - 8) by omega, g3 _ (by omega), show j % 4 = j - 8 by omega]
              · rw [if_neg w3]
                by_cases w4 : j < 16
                · rw [if_pos w4, f5 _ (by omega), show y.2.1.1 + j = y.2.1.1 + 4 + 4 + 4 + (j - 12) by omega, g4 _ (by omega), show j % 4 = j - 12 by omega]
                · rw [if_neg w4, show y.2.1.1 + j = y.2.1.1 + 4 + 4 + 4 + 4 + (j - 16) by omega, g5 _ (by omega), show j % 4 = j - 16 by omega]
  · rw [if_neg (fun w => h ((nI_leI (by omega) (by omega)).mp w)), if_neg h]
    exact ⟨σ, rfl, C⟩
theorem c_end (hK : kOK K) (C : CS K σb σ m) (n : Int32) : ∃ σ', fX7_end σ (K.2.2.1 0) n = some ((mEnd m n).1, σ') ∧ CS K σb σ' (mEnd m n).2 := by
  obtain ⟨y, v, S, V⟩ := id C
  obtain ⟨a1, ⟨a2, a3, a4⟩, a5⟩ := V
  unfold fX7_end BX7_end_15 mEnd
  by_cases h1 : n < 0
  · rw [if_pos h1, if_neg (fun w => w.1 h1)]
    exact ⟨σ, rfl, C⟩
  · rw [if_neg h1]
    simp only [rdD hK S, rdT hK S, Option.bind_some]
    rw [a2]
    by_cases h2 : n ≤ nI m.2.1.1
    · rw [if_pos h2, if_pos ⟨h1, h2⟩]
      obtain ⟨k, k1, rfl⟩ := nI_of h1
      have k2 : k ≤ m.2.1.1 := (nI_leI k1 (by omega)).mp h2
      rw [nI_clamp k1]
      obtain ⟨σ1, e1, S1⟩ := t_putT1 hK S k
      refine ⟨σ1, ?_, _, v, S1, a1, ⟨rfl, ?_, ?_⟩, a5⟩
      · rw [e1]; rfl
      · show k ≤ 1400
        omega
      · intro j hj
        have hj : j < k := hj
        exact a4 j (by omega)
    · rw [if_neg h2, if_neg (fun w => h2 w.2)]
      exact ⟨σ, rfl, C⟩
theorem c_read (hK : kOK K) (C : CS K σb σ m) (x : Int32) : ∃ σ', fX7_read σ (K.2.2.1 0) x = some ((mRead m x).1, σ') ∧ CS K σb σ' (mRead m x).2 := by
  obtain ⟨y, v, S, V⟩ := id C
  obtain ⟨a1, ⟨a2, a3, a4⟩, a5⟩ := id V
  obtain ⟨bl, ⟨tl, ta, tb⟩, xx⟩ := y
  simp only at a2 a3 a4 a5
  obtain ⟨σ1, bl1, ta1, v1, e1, S1, f1, f2, f3⟩ := t_frac hK (tn := m.2.1.2) (fun bl a => ⟨a3, a4⟩) S
  obtain ⟨σ2, e2, S2⟩ := t_putT1 hK S1 0
  rw [nI_0] at e2
  have V2 : VW (bl1, (0, ta1, tb), xx) v1 (m.1, (0, m.2.1.2), m.2.2) := by
    refine ⟨fun p hp => ?_, ⟨rfl, by show 0 ≤ 1400; omega, fun k hk => by have hk : k < 0 := hk; omega⟩, a5⟩
    have := a1 p hp
    simp only at this ⊢
    rw [f1 _ (by omega), f1 _ (by omega), f2 p hp]
    exact this
  have S2' : St K σb σ2 (bl1, (0, ta1, tb), xx) v1 := S2
  unfold fX7_read BX7_read_34 mRead
  rw [← a2]
  simp only [rdD hK S, rdR hK S, rdT hK S, Option.bind_some, e1, rdD hK S1, e2]
  cases hsp : spT m.2.1.2 tl with
  | none =>
    rw [if_pos (by rw [if_neg (by decide)])]
    exact ⟨σ2, rfl, _, _, S2', V2⟩
  | some f =>
    rw [if_neg (by rw [if_pos (by rfl)]; decide), c_isP]
    simp only [Option.bind_some]
    by_cases hx : isP x
    · rw [if_neg (by rw [if_pos hx]; decide), if_pos hx]
      obtain ⟨g1, g2, g3⟩ := f3 f hsp
      obtain ⟨h1, h2, h3, h4⟩ := spT_ok hsp
      obtain ⟨σ3, v3, e3, S3, k1, k2, k3⟩ := t_reduce hK S2' (by rw [g1]; exact h1) (by rw [g2]; exact h3) (by rw [g2]; exact h2)
      rw [g1, g2] at k1 k2
      have hf := fRed_ok h1 h2 h3 h4
      obtain ⟨pa, ea⟩ := isP_of hx
      have efl : sz f.1 f.2.2 = sz (f.1 / Nat.gcd f.1 f.2.1) f.2.2 := (sz_div (Nat.gcd_pos_of_pos_right _ h2) (Nat.gcd_dvd_left _ _)).symm
      have b16 : bl1 16 = (fRed f).2.2 := by rw [g3]; exact efl
      obtain ⟨σ4, e4, S4⟩ := t_becomeF hK S3 (p := pOf x) (r := 16) (by omega) (by decide) (by omega) (by show v3 32 < TOP; rw [k1]; exact hf.1) (by show v3 33 < TOP; rw [k2]; exact hf.2.2.1) (by show bl1 16 ≤ 1; rw [b16]; exact hf.2.2.2.2.1)
      have V3 := V2.kept (v' := v3) (y' := (bl1, (0, ta1, tb), xx)) ⟨k3, fun _ _ => rfl, rfl⟩
      refine ⟨σ4, ?_, _, _, S4, VW.put (m := (m.1, (0, m.2.1.2), m.2.2)) V3 pa hf ?_ ?_ ?_ (fun p hp' hne => ⟨?_, ?_, ?_⟩) rfl⟩
      · generalize hpa : pOf x = qa at *
        rw [ea]
        simp only [rdD hK S2', rdR hK S2', Option.bind_some, e3, rdD hK S3, rdP hK S3 pa, rdR hK S3, rdF hK S3 (show qa < 17 by omega), e4]
      · rw [va_up_ne _ _ (by omega), va_up_self]; exact k1
      · rw [va_up_self]; exact k2
      · simp only [va_up_self]; exact b16
      · rw [va_up_ne _ _ (by omega), va_up_ne _ _ (by omega)]
      · rw [va_up_ne _ _ (by omega), va_up_ne _ _ (by omega)]
      · simp only [va_up_ne _ _ hne]
    · rw [if_pos (by rw [if_neg hx]), if_neg hx]
      exact ⟨σ2, rfl, _, _, S2', V2⟩
end CD
