/-! the class's calls -/
section CC
variable {K : g_Q9} {σb σ : g_S} {m : g_M}
theorem c_isP (x : Int32) : fX7_isPlace σ x = some (if isP x then 1 else 0, σ) := by
  unfold fX7_isPlace BX7_isPlace_14 BX7_isPlace_15
  by_cases h1 : x < 0
  · rw [if_pos h1, if_neg (fun w => w.1 h1)]; exact g_if_pos (by simp)
  · rw [if_neg h1]
    by_cases h2 : 16 ≤ x
    · rw [if_pos h2, if_neg (fun w => w.2 h2)]; exact g_if_pos (by simp)
    · rw [if_neg h2, if_pos ⟨h1, h2⟩]; exact g_if_pos (by simp)
theorem VW.put {y y' : g_Y} {v v' : Nat → Nat} {q : Nat} {f : g_Fr} (h : VW y v m) (hq : q < 16) (hf : fOK f) (h1 : v' (2 * q) = f.1) (h2 : v' (2 * q + 1) = f.2.1) (h3 : y'.1 q = f.2.2) (h4 : ∀ p, p < 16 → p ≠ q → v' (2 * p) = v (2 * p) ∧ v' (2 * p + 1) = v (2 * p + 1) ∧ y'.1 p = y.1 p) (h5 : y'.2 = y.2) : VW y' v' (va_up m.1 q f, m.2) := by
  obtain ⟨a1, a2, a3⟩ := h
  refine ⟨fun p hp => ?_, ?_, ?_⟩
  · by_cases e : p = q
    · subst e
      simp only [va_up_self]
      refine ⟨?_, hf⟩
      rw [h1, h2, h3]
    · simp only [va_up_ne _ _ e]
      obtain ⟨b1, b2⟩ := a1 p hp
      obtain ⟨c1, c2, c3⟩ := h4 p hp e
      rw [c1, c2, c3]
      exact ⟨b1, b2⟩
  · unfold TP at a2 ⊢
    rw [h5]
    exact a2
  · rw [h5]
    exact a3
theorem VW.fr {y : g_Y} {v : Nat → Nat} (h : VW y v m) {p : Nat} (hp : p < 16) : fOK (v (2 * p), v (2 * p + 1), y.1 p) ∧ (v (2 * p), v (2 * p + 1), y.1 p) = m.1 p := by
  obtain ⟨h1, h2⟩ := h.1 p hp
  rw [h1] at h2
  exact ⟨h2, h1.symm⟩
theorem VW.kept {y y' : g_Y} {v v' : Nat → Nat} (h : VW y v m) (k : Kept v v' y y') : VW y' v' m := by
  obtain ⟨a1, a2, a3⟩ := h
  obtain ⟨k1, k2, k3⟩ := k
  refine ⟨fun p hp => ?_, ?_, ?_⟩
  · rw [k1 _ (by omega), k1 _ (by omega), k2 p hp]
    exact a1 p hp
  · unfold TP at a2 ⊢
    rw [k3]
    exact a2
  · rw [k3]
    exact a3
theorem c_keep (hK : kOK K) {y : g_Y} {v : Nat → Nat} {x : Int32} {o : Option (Int32 × g_S)} {r : Int32 × g_Fr} (hV : VW y v m) (hx : isP x) (hr : RR K σb y v o r) (hok : r.1 = 0 → fOK r.2) : ∃ σ', (o.bind fun r13 => (g_o r13.2 7 (K.2.2.1 0)).bind fun o14 => (fX7_keep r13.2 (K.2.2.1 0) x r13.1).bind fun r15 => some (r15.1, r15.2)) = some ((mKeep m x r).1, σ') ∧ CS K σb σ' (mKeep m x r).2 := by
  obtain ⟨hp, hxe⟩ := isP_of hx
  obtain ⟨σ1, y1, v1, e1, S1, k1, k2⟩ := hr
  have V1 := hV.kept k1
  rw [e1]
  simp only [Option.bind_some, rdD hK S1]
  unfold fX7_keep BX7_keep_20 mKeep
  by_cases h0 : r.1 = 0
  · rw [if_pos h0, if_pos h0]
    obtain ⟨f1, f2, f3⟩ := k2 h0
    have hf := hok h0
    obtain ⟨σ2, e2, S2⟩ := t_becomeF hK S1 (p := pOf x) (r := 16) (by omega) (by decide) (by omega) (by show v1 32 < TOP; rw [f1]; exact hf.1) (by show v1 33 < TOP; rw [f2]; exact hf.2.2.1) (by rw [f3]; exact hf.2.2.2.2.1)
    refine ⟨σ2, ?_, _, _, S2, ?_⟩
    · rw [hxe]
      simp only [rdD hK S1, Option.bind_some, rdP hK S1 hp, rdR hK S1, rdF hK S1 (show pOf x < 17 by omega), e2]
    · refine VW.put V1 hp hf ?_ ?_ ?_ (fun p hp' hne => ⟨?_, ?_, ?_⟩) rfl
      · rw [va_up_ne _ _ (by omega), va_up_self]; exact f1
      · rw [va_up_self]; exact f2
      · simp only [va_up_self]; exact f3
      · rw [va_up_ne _ _ (by omega), va_up_ne _ _ (by omega)]
      · rw [va_up_ne _ _ (by omega), va_up_ne _ _ (by omega)]
      · simp only [va_up_ne _ _ hne]
  · rw [if_neg h0, if_neg h0]
    exact ⟨σ1, rfl, y1, v1, S1, V1⟩
theorem c_reckon (hK : kOK K) (C : CS K σb σ m) (x a b op : Int32) : ∃ σ', fX7_reckon σ (K.2.2.1 0) x a b op = some ((mReckon m x a b op).1, σ') ∧ CS K σb σ' (mReckon m x a b op).2 := by
  obtain ⟨y, v, S, V⟩ := id C
  unfold fX7_reckon BX7_reckon_21 mReckon
  simp only [c_isP, Option.bind_some]
  by_cases hx : isP x
  · rw [if_neg (by rw [if_pos hx]; decide)]
    by_cases ha : isP a
    · rw [if_neg (by rw [if_pos ha]; decide)]
      by_cases hb : isP b
      · rw [if_neg (by rw [if_pos hb]; decide), if_pos ⟨hx, ha, hb⟩]
        obtain ⟨pa, ea⟩ := isP_of ha
        obtain ⟨pb, eb⟩ := isP_of hb
        obtain ⟨fa, ga⟩ := V.fr pa
        obtain ⟨fb, gb⟩ := V.fr pb
        have hr := t_combine hK S (op := op) pa pb fa fb
        rw [ga, gb] at hr
        rw [ga] at fa
        rw [gb] at fb
        obtain ⟨σ', e1, C1⟩ := c_keep hK V hx hr (spC_ok fa fb)
        refine ⟨σ', ?_, C1⟩
        rw [← e1]
        generalize hpa : pOf a = qa at *
        generalize hpb : pOf b = qb at *
        rw [ea, eb]
        simp only [rdD hK S, rdP hK S pa, rdP hK S pb, rdR hK S, Option.bind_some]
      · rw [if_pos (by rw [if_neg hb]), if_neg (fun w => hb w.2.2)]
        exact ⟨σ, rfl, C⟩
    · rw [if_pos (by rw [if_neg ha]), if_neg (fun w => ha w.2.1)]
      exact ⟨σ, rfl, C⟩
  · rw [if_pos (by rw [if_neg hx]), if_neg (fun w => hx w.1)]
    exact ⟨σ, rfl, C⟩
theorem c_round (hK : kOK K) (C : CS K σb σ m) (x a op : Int32) : ∃ σ', fX7_round σ (K.2.2.1 0) x a op = some ((mRound m x a op).1, σ') ∧ CS K σb σ' (mRound m x a op).2 := by
  obtain ⟨y, v, S, V⟩ := id C
  unfold fX7_round BX7_round_14 mRound
  simp only [c_isP, Option.bind_some]
  by_cases hx : isP x
  · rw [if_neg (by rw [if_pos hx]; decide)]
    by_cases ha : isP a
    · rw [if_neg (by rw [if_pos ha]; decide), if_pos ⟨hx, ha⟩]
      obtain ⟨pa, ea⟩ := isP_of ha
      obtain ⟨fa, ga⟩ := V.fr pa
      have hr := t_change hK S (op := op) pa fa
      rw [ga] at hr fa
      obtain ⟨σ', e1, C1⟩ := c_keep hK V hx hr (spR_ok fa)
      refine ⟨σ', ?_, C1⟩
      rw [← e1]
      generalize hpa : pOf a = qa at *
      rw [ea]
      simp only [rdD hK S, rdP hK S pa, rdR hK S, Option.bind_some]
    · rw [if_pos (by rw [if_neg ha]), if_neg (fun w => ha w.2)]
      exact ⟨σ, rfl, C⟩
  · rw [if_pos (by rw [if_neg hx]), if_neg (fun w => hx w.1)]
    exact ⟨σ, rfl, C⟩
theorem c_compare (hK : kOK K) (C : CS K σb σ m) (a b : Int32) : ∃ σ', fX7_compare σ (K.2.2.1 0) a b = some (mCmp m a b, σ') ∧ CS K σb σ' m := by
  obtain ⟨y, v, S, V⟩ := id C
  unfold fX7_compare BX7_compare_14 mCmp
  simp only [c_isP, Option.bind_some]
  by_cases ha : isP a
  · rw [if_neg (by rw [if_pos ha]; decide)]
    by_cases hb : isP b
    · rw [if_neg (by rw [if_pos hb]; decide), if_pos ⟨ha, hb⟩]
      obtain ⟨pa, ea⟩ := isP_of ha
      obtain ⟨pb, eb⟩ := isP_of hb
      obtain ⟨fa, ga⟩ := V.fr pa
      obtain ⟨fb, gb⟩ := V.fr pb
      obtain ⟨σ1, v1, e1, S1, f1⟩ := t_orderF hK S pa pb fa fb
      rw [ga, gb] at e1
      refine ⟨σ1, ?_, y, v1, S1, V.kept ⟨fun i hi => f1 i (by omega), fun _ _ => rfl, rfl⟩⟩
      generalize hpa : pOf a = qa at *
      generalize hpb : pOf b = qb at *
      rw [ea, eb]
      simp only [rdD hK S, rdP hK S pa, rdP hK S pb, rdR hK S, Option.bind_some, e1]
    · rw [if_pos (by rw [if_neg hb]), if_neg (fun w => hb w.2)]
      exact ⟨σ, rfl, C⟩
  · rw [if_pos (by rw [if_neg ha]), if_neg (fun w => ha w.1)]
    exact ⟨σ, rfl, C⟩
theorem c_set (hK : kOK K) (C : CS K σb σ m) (x : Int32) {z : Int} (z1 : -9223372036854775808 ≤ z) (z2 : z < 9223372036854775808) : ∃ σ', fX7_set σ (K.2.2.1 0) x (lZ z) = some ((mSet m x z).1, σ') ∧ CS K σb σ' (mSet m x z).2 := by
  obtain ⟨y, v, S, V⟩ := id C
  unfold fX7_set mSet
  simp only [c_isP, Option.bind_some]
  by_cases hx : isP x
  · rw [if_neg (by rw [if_pos hx]; decide), if_pos hx]
    obtain ⟨pa, ea⟩ := isP_of hx
    obtain ⟨σ1, e1, S1⟩ := t_long hK S (p := pOf x) (by omega) z1 z2
    refine ⟨σ1, ?_, _, _, S1, VW.put V pa ?_ ?_ ?_ ?_ (fun p hp' hne => ⟨?_, ?_, ?_⟩) rfl⟩
    · generalize hpa : pOf x = qa at *
      rw [ea]
      simp only [rdD hK S, rdP hK S pa, Option.bind_some, rdF hK S (show qa < 17 by omega), e1]
    · refine ⟨?_, Nat.one_pos, TOP_1, Nat.gcd_one_right _, ?_, fun w => ?_⟩
      · show z.natAbs < TOP
        have := TOP_64
        omega
      · show (if z < 0 then 1 else 0) ≤ 1
        split <;> omega
      · have w : z.natAbs = 0 := w
        show (if z < 0 then 1 else 0) = 0
        rw [if_neg (by omega)]
    · rw [va_up_ne _ _ (by omega), va_up_self]
    · rw [va_up_self]
    · simp only [va_up_self]
    · rw [va_up_ne _ _ (by omega), va_up_ne _ _ (by omega)]
    · rw [va_up_ne _ _ (by omega), va_up_ne _ _ (by omega)]
    · simp only [va_up_ne _ _ hne]
  · rw [if_pos (by rw [if_neg hx]), if_neg hx]
    exact ⟨σ, rfl, C⟩
theorem c_bits (hK : kOK K) (C : CS K σb σ m) (x : Int32) : fX7_bits σ (K.2.2.1 0) x = some (mBits m x, σ) := by
  obtain ⟨y, v, S, V⟩ := id C
  unfold fX7_bits BX7_bits_23 mBits
  simp only [c_isP, Option.bind_some]
  by_cases hx : isP x
  · rw [if_neg (by rw [if_pos hx]; decide), if_pos hx]
    obtain ⟨pa, ea⟩ := isP_of hx
    obtain ⟨fa, ga⟩ := V.fr pa
    obtain ⟨k, k1, k2⟩ := t_bits hK S (i := 2 * pOf x) (by omega)
    rw [← ga]
    have ek : nbit (v (2 * pOf x)) = k := isbl_uniq (nbit_is _) k1
    show _ = some (nI (nbit (v (2 * pOf x))), σ)
    rw [ek]
    generalize hpa : pOf x = qa at *
    rw [ea]
    simp only [rdD hK S, rdP hK S pa, Option.bind_some, rdF hK S (show qa < 17 by omega), S.n hK (show 2 * qa < 45 by omega), k2]
  · rw [if_pos (by rw [if_neg hx]), if_neg hx]
theorem c_int (hK : kOK K) (C : CS K σb σ m) (x : Int32) : fX7_isInteger σ (K.2.2.1 0) x = some (mInt m x, σ) := by
  obtain ⟨y, v, S, V⟩ := id C
  unfold fX7_isInteger BX7_isInteger_23 BX7_isInteger_24 mInt
  simp only [c_isP, Option.bind_some]
  by_cases hx : isP x
  · rw [if_neg (by rw [if_pos hx]; decide)]
    obtain ⟨pa, ea⟩ := isP_of hx
    obtain ⟨fa, ga⟩ := V.fr pa
    have e1 := t_isWhole hK S (p := pOf x) (by omega)
    rw [← ga]
    generalize hpa : pOf x = qa at *
    rw [ea]
    simp only [rdD hK S, rdP hK S pa, Option.bind_some, rdF hK S (show qa < 17 by omega), e1]
    by_cases h1 : v (2 * qa + 1) = 1
    · rw [if_neg (by rw [if_pos h1]; decide), if_pos ⟨by rw [← ea]; exact hx, h1⟩]; exact g_if_pos (by simp)
    · rw [if_pos (by rw [if_neg h1]), if_neg (fun w => h1 w.2)]; exact g_if_pos (by simp)
  · rw [if_pos (by rw [if_neg hx]), if_neg (fun w => hx w.1)]; exact g_if_pos (by simp)
theorem c_write (hK : kOK K) (C : CS K σb σ m) (x r : Int32) : ∃ σ', fX7_write σ (K.2.2.1 0) x r = some ((mWrite m x r).1, σ') ∧ CS K σb σ' (mWrite m x r).2 := by
  obtain ⟨y, v, S, V⟩ := id C
  unfold fX7_write BX7_write_18 mWrite
  simp only [c_isP, Option.bind_some]
  by_cases hx : isP x
  · rw [if_neg (by rw [if_pos hx]; decide)]
    by_cases h2 : r < 2
    · rw [if_pos h2, if_neg (fun w => w.2.1 h2)]
      exact ⟨σ, rfl, C⟩
    · rw [if_neg h2]
      by_cases h3 : r ≤ 36
      · rw [if_pos h3, if_pos ⟨hx, h2, h3⟩]
        obtain ⟨pa, ea⟩ := isP_of hx
        obtain ⟨fa, ga⟩ := V.fr pa
        have hr0 : ¬ r < 0 := fun w => h2 (Int32.lt_trans w (by decide))
        obtain ⟨k, k1, k2⟩ := nI_of2 (x := r) (M := 36) (n := 36) rfl hr0 h3
        subst k2
        have k3 : 2 ≤ k := by
          rcases Nat.lt_or_ge k 2 with q | q
          · exact absurd (nI_lt q (by omega)) h2
          · exact q
        rw [nI_clamp (by omega)]
        obtain ⟨σ1, x1, v1, e1, S1, f1, X1⟩ := t_text hK pa k3 k1 S fa
        rw [ga] at X1
        refine ⟨σ1, ?_, _, v1, S1, ?_⟩
        · have hl : x1.1 = (spW (m.1 (pOf x)) k).1 := X1.1
          rw [← hl]
          generalize hpa : pOf x = qa at *
          rw [ea]
          simp only [rdD hK S, rdP hK S pa, Option.bind_some, rdX hK S, e1, rdD hK S1, rdX hK S1]
        · obtain ⟨a1, a2, a3⟩ := V
          refine ⟨fun p hp => ?_, ?_, X1⟩
          · rw [f1 _ (by omega), f1 _ (by omega)]
            exact a1 p hp
          · exact a2
      · rw [if_neg h3, if_neg (fun w => h3 w.2.2)]
        exact ⟨σ, rfl, C⟩
  · rw [if_pos (by rw [if_neg hx]), if_neg (fun w => hx w.1)]
    exact ⟨σ, rfl, C⟩
end CC
