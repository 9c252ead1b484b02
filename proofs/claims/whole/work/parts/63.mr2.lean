/-! the reference: reckon, round, compare, bits, isInteger, end -/
section MT
variable {Q : Nat → Nat} {σ0 : g_S} {z : g_Z} {v : Nat → Nat} {m : g_M}
theorem v_takes (hQ : kM Q) {σ : g_S} (M : MSt Q σ0 σ z v) {p : Nat} (hp : p < 16) : ∃ σ', fX8_takesNumber σ (Q 0) (nI p) = some σ' ∧ MSt Q σ0 σ' z (va_up (va_up v 32 (v (2 * p))) 33 (v (2 * p + 1))) := by
  obtain ⟨σ1, e1, M1⟩ := v_copy hQ M (x := 2 * p) (w := 32) (by omega) (by decide) (by omega) (by omega)
  obtain ⟨σ2, e2, M2⟩ := v_copy hQ M1 (x := 2 * p + 1) (w := 33) (by omega) (by decide) (by omega) (by omega)
  rw [va_up_ne _ _ (show 2 * p + 1 ≠ 32 by omega)] at M2
  refine ⟨σ2, ?_, M2⟩
  unfold fX8_takesNumber
  rw [two_nI, nI_1, show (32 : Int32) = nI 32 from rfl, show (33 : Int32) = nI 33 from rfl]
  simp only [rS hQ M, e1, Option.bind_some, rS hQ M1, e2]
theorem r_chooses (hQ : kM Q) {σ : g_S} (M : MSt Q σ0 σ z v) (V : MV z v m) {p a b o : Nat} (hp : p < 16) (ha : a < 16) (hb : b < 16) (ho : o ≤ 1) : RM Q σ0 (fX8_chooses σ (Q 0) (nI p) (nI a) (nI b) (nI o)) (mKeep m (nI p) (if o = 0 then (if 0 < cOrd (m.1 a) (m.1 b) then (0, m.1 b) else (0, m.1 a)) else (if cOrd (m.1 a) (m.1 b) < 0 then (0, m.1 b) else (0, m.1 a)))) := by
  obtain ⟨σ1, v1, e1, M1, f1⟩ := v_orderF hQ M V ha hb
  have V1 : MV (0, z.2) v1 m := (V.thr 0).frame (fun i hi => f1 i (by omega) (by omega)) (f1 _ (by decide) (by decide))
  unfold fX8_chooses BX8_chooses_20
  simp only [rS hQ M, e1, Option.bind_some]
  have cho : ∀ q, q < 16 → RM Q σ0 (BX8_chooses_28 σ1 (Q 0) (nI p) (nI q)) (mKeep m (nI p) (0, m.1 q)) := by
    intro q hq
    obtain ⟨σ2, e2, M2⟩ := v_takes hQ M1 hq
    obtain ⟨fq, gq⟩ := V1.fr hq
    have V2 : MV (0, z.2) (va_up (va_up v1 32 (v1 (2 * q))) 33 (v1 (2 * q + 1))) m := V1.frame (fun i hi => by rw [va_up_ne _ _ (by omega), va_up_ne _ _ (by omega)]) (by rw [va_up_ne _ _ (by decide), va_up_ne _ _ (by decide)])
    have k32 : va_up (va_up v1 32 (v1 (2 * q))) 33 (v1 (2 * q + 1)) 32 = v1 (2 * q) := by rw [va_up_ne _ _ (by decide), va_up_self]
    have k33 : va_up (va_up v1 32 (v1 (2 * q))) 33 (v1 (2 * q + 1)) 33 = v1 (2 * q + 1) := va_up_self _ _ _
    have b1 := v_bel hQ M2 hq
    obtain ⟨y1, y2, y3, y4, y5, y6⟩ := id fq
    have hsz : sz (v1 (2 * q)) (z.2.1 q) = z.2.1 q := by
      unfold sz
      split
      · rename_i w; exact (y6 w).symm
      · rfl
    have h := r_holds hQ M2 V2 hp (nb := z.2.1 q) y5 (r := (0, m.1 q)) (by rw [k32, k33, hsz, if_pos (show v1 (2 * q) < TOP ∧ v1 (2 * q + 1) < TOP from ⟨y1, y3⟩), ← gq]) (fun _ => by show fOK (m.1 q); rw [← gq]; exact fq)
    unfold BX8_chooses_28
    simp only [rS hQ M1, e2, Option.bind_some, rS hQ M2, b1]
    exact h.id
  obtain ⟨fa, ga⟩ := V.fr ha
  obtain ⟨fb, gb⟩ := V.fr hb
  rw [ga] at fa
  rw [gb] at fb
  by_cases ho0 : o = 0
  · rw [if_pos ho0, ho0]
    by_cases hc : 0 < cOrd (m.1 a) (m.1 b)
    · rw [if_neg (Int32.not_le.mpr hc), if_neg (by decide), if_pos hc]
      exact cho b hb
    · rw [if_pos (Int32.not_lt.mp hc), if_pos (by rfl), if_neg hc]
      exact cho a ha
  · rw [if_neg ho0, show o = 1 by omega]
    by_cases hc : 0 < cOrd (m.1 a) (m.1 b)
    · rw [if_neg (Int32.not_le.mpr hc), if_pos (by rfl), if_neg (fun w => Int32.lt_irrefl (Int32.lt_trans w hc))]
      exact cho a ha
    · rw [if_pos (Int32.not_lt.mp hc), if_neg (by decide)]
      by_cases hl : cOrd (m.1 a) (m.1 b) < 0
      · rw [if_pos hl]
        exact cho b hb
      · rw [if_neg hl]
        have he : cOrd (m.1 a) (m.1 b) = 0 := Int32.le_antisymm (Int32.not_lt.mp hc) (Int32.not_lt.mp hl)
        rw [cOrd_eq fa fb he]
        exact cho b hb
theorem op_ten {op : Int32} (h0 : ¬ op < 0) (h9 : ¬ 9 < op) : op = 0 ∨ op = 1 ∨ op = 2 ∨ op = 3 ∨ op = 4 ∨ op = 5 ∨ op = 6 ∨ op = 7 ∨ op = 8 ∨ op = 9 := by
  obtain ⟨k, k1, rfl⟩ := nI_of2 (x := op) (M := 9) (n := 9) rfl h0 (Int32.not_lt.mp h9)
  have : k = 0 ∨ k = 1 ∨ k = 2 ∨ k = 3 ∨ k = 4 ∨ k = 5 ∨ k = 6 ∨ k = 7 ∨ k = 8 ∨ k = 9 := by omega
  rcases this with rfl | rfl | rfl | rfl | rfl | rfl | rfl | rfl | rfl | rfl
  · exact Or.inl rfl
  · exact Or.inr (Or.inl rfl)
  · exact Or.inr (Or.inr (Or.inl rfl))
  · exact Or.inr (Or.inr (Or.inr (Or.inl rfl)))
  · exact Or.inr (Or.inr (Or.inr (Or.inr (Or.inl rfl))))
  · exact Or.inr (Or.inr (Or.inr (Or.inr (Or.inr (Or.inl rfl)))))
  · exact Or.inr (Or.inr (Or.inr (Or.inr (Or.inr (Or.inr (Or.inl rfl))))))
  · exact Or.inr (Or.inr (Or.inr (Or.inr (Or.inr (Or.inr (Or.inr (Or.inl rfl)))))))
  · exact Or.inr (Or.inr (Or.inr (Or.inr (Or.inr (Or.inr (Or.inr (Or.inr (Or.inl rfl))))))))
  · exact Or.inr (Or.inr (Or.inr (Or.inr (Or.inr (Or.inr (Or.inr (Or.inr (Or.inr rfl))))))))
theorem spC_out {x w : g_Fr} {op : Int32} (h : op < 0 ∨ 9 < op) : spC x w op = (-1, 0, 1, 0) := by
  have ne : ∀ k : Int32, ¬ k < 0 → ¬ 9 < k → op ≠ k := fun k h1 h2 e => by
    rw [e] at h
    rcases h with q | q
    · exact h1 q
    · exact h2 q
  unfold spC
  rw [if_neg (ne 0 (by decide) (by decide)), if_neg (ne 1 (by decide) (by decide)), if_neg (ne 2 (by decide) (by decide)), if_neg (ne 3 (by decide) (by decide)), if_neg (ne 4 (by decide) (by decide)), if_neg (ne 5 (by decide) (by decide)), if_neg (ne 6 (by decide) (by decide)), if_neg (ne 7 (by decide) (by decide)), if_neg (ne 8 (by decide) (by decide)), if_neg (ne 9 (by decide) (by decide))]
/-- the cases of reckon, once its places are places -/
theorem r_106 (hQ : kM Q) {σ : g_S} (M : MSt Q σ0 σ z v) (V : MV z v m) {p a b : Nat} {op : Int32} (hp : p < 16) (ha : a < 16) (hb : b < 16) (hop : op = 0 ∨ op = 1 ∨ op = 2 ∨ op = 3 ∨ op = 4 ∨ op = 5 ∨ op = 6 ∨ op = 7 ∨ op = 8 ∨ op = 9) (hwh : op = 4 ∨ op = 5 ∨ op = 6 → (m.1 a).2.1 = 1 ∧ (m.1 b).2.1 = 1) (hnz : op = 3 ∨ op = 4 ∨ op = 5 → (m.1 b).1 ≠ 0) : RM Q σ0 (BX8_reckon_106 σ (Q 0) (nI p) (nI a) (nI b) op) (mKeep m (nI p) (spC (m.1 a) (m.1 b) op)) := by
  obtain ⟨fa, ga⟩ := V.fr ha
  obtain ⟨fb, gb⟩ := V.fr hb
  obtain ⟨x1, x2, x3, x4, x5, x6⟩ := id fa
  obtain ⟨z1, z2, z3, z4, z5, z6⟩ := id fb
  simp only at x1 x2 x3 x4 x5 x6 z1 z2 z3 z4 z5 z6
  rw [← ga, ← gb]
  rw [← ga, ← gb] at hwh
  rw [← gb] at hnz
  simp only at hwh hnz
  have b1 := v_bel hQ M ha
  have b2 := v_bel hQ M hb
  have V42 : v 42 = 1 := V.2.2.2
  have e0 : BX8_reckon_106 σ (Q 0) (nI p) (nI a) (nI b) op = BX8_reckon_126 σ (Q 0) (nI p) (nI a) (nI b) op (nI (bx (z.2.1 a) (z.2.1 b))) := by
    unfold BX8_reckon_106
    simp only [rS hQ M, b1, b2, Option.bind_some]
    unfold bx
    by_cases hbe : z.2.1 a = z.2.1 b
    · rw [if_pos (by rw [hbe]), if_pos hbe]; rfl
    · rw [if_neg (fun w => hbe ((nI_bx x5 z5).mp w)), if_neg hbe]; rfl
  rw [e0]
  have hbx := bx_le (z.2.1 a) (z.2.1 b)
  have sum : ∀ o, o ≤ 1 → RM Q σ0 (BX8_reckon_190 σ (Q 0) (nI p) (Q 0) (nI a) (nI b) (nI o)) (mKeep m (nI p) (cRes (sT (v (2 * a) * v (2 * b + 1)) (v (2 * b) * v (2 * a + 1)) (z.2.1 a) (bx (z.2.1 b) o)) (v (2 * a + 1) * v (2 * b + 1)) (sF (v (2 * a) * v (2 * b + 1)) (v (2 * b) * v (2 * a + 1)) (z.2.1 a) (bx (z.2.1 b) o)))) := by
    intro o ho
    obtain ⟨σ1, v1, e1, M1, k1, k2, k3⟩ := v_sums hQ M ha hb ho fa fb
    have V1 : MV z v1 m := V.frame (fun i hi => k3 i (Or.inl hi)) (k3 42 (Or.inr rfl))
    have lP : v (2 * a) * v (2 * b + 1) < 65536 ^ 261 := TOP_M262 x1 z3
    have lX : v (2 * b) * v (2 * a + 1) < 65536 ^ 261 := TOP_M262 z1 x3
    have lD : v (2 * a + 1) * v (2 * b + 1) < 65536 ^ 261 := TOP_M262 x3 z3
    have lT : v1 32 < 65536 ^ 262 := by
      rw [k1]
      exact Nat.lt_of_le_of_lt (sT_le _ _ _ _) (P262s lP lX)
    have h := r_341 hQ M1 V1 hp (nb := sF (v (2 * a) * v (2 * b + 1)) (v (2 * b) * v (2 * a + 1)) (z.2.1 a) (bx (z.2.1 b) o)) (sF_le x5 (bx_le _ _)) lT (by rw [k2]; exact P262 lD) (by rw [k2]; exact Nat.mul_pos x2 z2)
    rw [k1, k2] at h
    unfold BX8_reckon_190
    simp only [rS hQ M, e1, Option.bind_some]
    exact h
  have two : ∀ (i j k l : Nat), i < 32 → j < 32 → k < 32 → l < 32 → v i < TOP → v j < TOP → v k < TOP → v l < TOP → 0 < v k * v l → RM Q σ0 ((fX8_times σ (Q 0) (nI i) (nI j) (nI 32)).bind fun r27 => (g_o r27 8 (Q 0)).bind fun _ => (fX8_times r27 (Q 0) (nI k) (nI l) (nI 33)).bind fun r29 => BX8_reckon_341 r29 (Q 0) (nI p) (nI (bx (z.2.1 a) (z.2.1 b)))) (mKeep m (nI p) (cRes (v i * v j) (v k * v l) (bx (z.2.1 a) (z.2.1 b)))) := by
    intro i j k l hi hj hk hl li lj lk ll hpos
    obtain ⟨σ1, e1, M1⟩ := v_prod hQ M (i := 32) (a := i) (b := j) (by decide) (by omega) (by omega) (by omega) (by omega) (by omega) (by omega) li lj
    obtain ⟨σ2, e2, M2⟩ := v_prod hQ M1 (i := 33) (a := k) (b := l) (by decide) (by omega) (by omega) (by omega) (by omega) (by omega) (by omega) (by rw [va_up_ne _ _ (by omega)]; exact lk) (by rw [va_up_ne _ _ (by omega)]; exact ll)
    rw [va_up_ne _ _ (show k ≠ 32 by omega), va_up_ne _ _ (show l ≠ 32 by omega)] at M2
    have V2 : MV z (va_up (va_up v 32 (v i * v j)) 33 (v k * v l)) m := V.frame (fun q hq => by rw [va_up_ne _ _ (by omega), va_up_ne _ _ (by omega)]) (by rw [va_up_ne _ _ (by decide), va_up_ne _ _ (by decide)])
    have k32 : va_up (va_up v 32 (v i * v j)) 33 (v k * v l) 32 = v i * v j := by rw [va_up_ne _ _ (by decide), va_up_self]
    have k33 : va_up (va_up v 32 (v i * v j)) 33 (v k * v l) 33 = v k * v l := va_up_self _ _ _
    have h := r_341 hQ M2 V2 hp hbx (by rw [k32]; exact P262 (TOP_M262 li lj)) (by rw [k33]; exact P262 (TOP_M262 lk ll)) (by rw [k33]; exact hpos)
    rw [k32, k33] at h
    simp only [e1, Option.bind_some, rS hQ M1, e2]
    exact h
  have dwn : ∀ o, o ≤ 1 → v (2 * b) ≠ 0 → RM Q σ0 (BX8_reckon_274 σ (Q 0) (nI p) (Q 0) (nI a) (nI b) (nI o)) (mKeep m (nI p) (if o = 0 then (0, cQuo (v (2 * a)) (v (2 * b)) (z.2.1 a) (z.2.1 b), 1, sz (cQuo (v (2 * a)) (v (2 * b)) (z.2.1 a) (z.2.1 b)) (bx (z.2.1 a) (z.2.1 b))) else (0, cRem (v (2 * a)) (v (2 * b)) (z.2.1 a) (z.2.1 b), 1, sz (cRem (v (2 * a)) (v (2 * b)) (z.2.1 a) (z.2.1 b)) (z.2.1 b)))) := by
    intro o ho hn
    obtain ⟨σ1, v1, e1, M1, k1, k2, k3⟩ := v_down hQ M V42 ha hb ho fa fb hn
    have V1 : MV z v1 m := V.frame (fun i hi => k3 i (Or.inl hi)) (k3 42 (Or.inr rfl))
    have lN' : v1 32 < TOP := by
      rw [k1]
      split
      · exact cQuo_lt x1
      · exact cRem_lt z1 hn
    have hnb : (if o = 0 then bx (z.2.1 a) (z.2.1 b) else z.2.1 b) ≤ 1 := by split <;> omega
    have h := r_341 hQ M1 V1 hp hnb (TOP_262 lN') (by rw [k2]; exact TOP_262 TOP_1) (by rw [k2]; decide)
    rw [k2, cRes_one lN', k1] at h
    unfold BX8_reckon_274
    simp only [rS hQ M, e1, Option.bind_some]
    by_cases h0 : o = 0
    · rw [if_pos h0] at h ⊢
      rw [if_pos h0] at h ⊢
      exact h
    · rw [if_neg h0] at h ⊢
      rw [if_neg h0] at h ⊢
      exact h
  have s0 := sum 0 (by omega)
  have s1 := sum 1 (by omega)
  rw [bx_0 z5] at s0
  rw [bx_1 z5] at s1
  unfold BX8_reckon_126
  rw [two_nI, two_nI, nI_1, nI_1, show (32 : Int32) = nI 32 from rfl, show (33 : Int32) = nI 33 from rfl, show (39 : Int32) = nI 39 from rfl]
  rcases hop with rfl | rfl | rfl | rfl | rfl | rfl | rfl | rfl | rfl | rfl
  · unfold spC
    rw [if_pos rfl, if_neg (show ¬ (0 : Int32) = 1 by decide), if_pos rfl]
    exact s0
  · unfold spC
    rw [if_neg (show ¬ (1 : Int32) = 0 by decide), if_pos rfl, if_pos rfl, if_neg (show ¬ (1 : Int32) = 0 by decide), if_pos rfl]
    exact s1
  · have h := two (2 * a) (2 * b) (2 * a + 1) (2 * b + 1) (by omega) (by omega) (by omega) (by omega) x1 z1 x3 z3 (Nat.mul_pos x2 z2)
    unfold spC
    rw [if_neg (show ¬ (2 : Int32) = 0 by decide), if_neg (show ¬ (2 : Int32) = 1 by decide), if_pos rfl, if_neg (show ¬ (2 : Int32) = 0 by decide), if_neg (show ¬ (2 : Int32) = 1 by decide), if_pos rfl]
    simp only [rS hQ M]
    exact h
  · have hn := hnz (Or.inl rfl)
    have h := two (2 * a) (2 * b + 1) (2 * a + 1) (2 * b) (by omega) (by omega) (by omega) (by omega) x1 z3 x3 z1 (Nat.mul_pos x2 (Nat.pos_of_ne_zero hn))
    rw [if_neg (by decide), if_neg (by decide), if_neg (by decide), if_pos rfl]
    simp only [rS hQ M]
    unfold spC
    rw [if_neg (by decide), if_neg (by decide), if_neg (by decide), if_pos rfl, if_neg hn]
    exact h
  · have hn := hnz (Or.inr (Or.inl rfl))
    have h := dwn 0 (by omega) hn
    rw [if_pos rfl] at h
    unfold spC
    rw [if_neg (show ¬ (4 : Int32) = 0 by decide), if_neg (show ¬ (4 : Int32) = 1 by decide), if_neg (show ¬ (4 : Int32) = 2 by decide), if_neg (show ¬ (4 : Int32) = 3 by decide), if_pos rfl, if_neg (by decide), if_neg (show ¬ (4 : Int32) = 0 by decide), if_neg (show ¬ (4 : Int32) = 1 by decide), if_neg (show ¬ (4 : Int32) = 2 by decide), if_neg (show ¬ (4 : Int32) = 3 by decide), if_pos rfl, if_pos (show v (2 * a + 1) = 1 ∧ v (2 * b + 1) = 1 from hwh (Or.inl rfl)), if_neg hn]
    exact h
  · have hn := hnz (Or.inr (Or.inr rfl))
    have h := dwn 1 (by omega) hn
    rw [if_neg (by decide)] at h
    unfold spC
    rw [if_neg (show ¬ (5 : Int32) = 0 by decide), if_neg (show ¬ (5 : Int32) = 1 by decide), if_neg (show ¬ (5 : Int32) = 2 by decide), if_neg (show ¬ (5 : Int32) = 3 by decide), if_neg (show ¬ (5 : Int32) = 4 by decide), if_pos rfl, if_pos rfl, if_neg (show ¬ (5 : Int32) = 0 by decide), if_neg (show ¬ (5 : Int32) = 1 by decide), if_neg (show ¬ (5 : Int32) = 2 by decide), if_neg (show ¬ (5 : Int32) = 3 by decide), if_neg (show ¬ (5 : Int32) = 4 by decide), if_pos rfl, if_pos (show v (2 * a + 1) = 1 ∧ v (2 * b + 1) = 1 from hwh (Or.inr (Or.inl rfl))), if_neg hn]
    exact h
  · obtain ⟨σ1, v1, e1, M1, g1, f1⟩ := v_common hQ M (x := 2 * a) (y := 2 * b) (by omega) (by omega) (by omega) (by omega) (TOP_262 x1) (TOP_262 z1)
    obtain ⟨σ2, e2, M2⟩ := v_copy hQ M1 (x := 39) (w := 32) (by decide) (by decide) (by decide) (by decide)
    rw [g1] at M2
    obtain ⟨σ3, e3, M3⟩ := v_small hQ M2 (x := 33) (n := 1) (by decide) (by decide)
    have hgl : Nat.gcd (v (2 * a)) (v (2 * b)) < TOP := by
      rcases Nat.eq_zero_or_pos (v (2 * a)) with r | r
      · rw [r, Nat.gcd_zero_left]; exact z1
      · have := Nat.gcd_le_left (v (2 * b)) r; omega
    have V3 : MV z (va_up (va_up v1 32 (Nat.gcd (v (2 * a)) (v (2 * b)))) 33 1) m := V.frame (fun i hi => by rw [va_up_ne _ _ (by omega), va_up_ne _ _ (by omega), f1 _ (by omega)]) (by rw [va_up_ne _ _ (by decide), va_up_ne _ _ (by decide), f1 _ (by decide)])
    have k32 : va_up (va_up v1 32 (Nat.gcd (v (2 * a)) (v (2 * b)))) 33 1 32 = Nat.gcd (v (2 * a)) (v (2 * b)) := by rw [va_up_ne _ _ (by decide), va_up_self]
    have k33 : va_up (va_up v1 32 (Nat.gcd (v (2 * a)) (v (2 * b)))) 33 1 33 = 1 := va_up_self _ _ _
    have h := r_341 hQ M3 V3 hp (nb := 0) (by omega) (by rw [k32]; exact TOP_262 hgl) (by rw [k33]; exact TOP_262 TOP_1) (by rw [k33]; decide)
    rw [k32, k33, cRes_one hgl] at h
    unfold spC
    rw [if_neg (show ¬ (6 : Int32) = 0 by decide), if_neg (show ¬ (6 : Int32) = 1 by decide), if_neg (show ¬ (6 : Int32) = 2 by decide), if_neg (show ¬ (6 : Int32) = 3 by decide), if_neg (show ¬ (6 : Int32) = 4 by decide), if_neg (show ¬ (6 : Int32) = 5 by decide), if_pos rfl, if_neg (show ¬ (6 : Int32) = 0 by decide), if_neg (show ¬ (6 : Int32) = 1 by decide), if_neg (show ¬ (6 : Int32) = 2 by decide), if_neg (show ¬ (6 : Int32) = 3 by decide), if_neg (show ¬ (6 : Int32) = 4 by decide), if_neg (show ¬ (6 : Int32) = 5 by decide), if_pos rfl, if_pos (show v (2 * a + 1) = 1 ∧ v (2 * b + 1) = 1 from hwh (Or.inr (Or.inr rfl)))]
    rw [show (1 : Int32) = nI 1 from rfl]
    simp only [rS hQ M, e1, Option.bind_some, rS hQ M1, e2, rS hQ M2, e3]
    rw [show sz (Nat.gcd (v (2 * a)) (v (2 * b))) 0 = 0 by unfold sz; split <;> rfl, nI_0] at h
    exact h
  · have h := r_raises hQ M V hp ha hb
    rw [← ga, ← gb] at h
    simp only [rS hQ M]
    exact h.id
  · have h := r_chooses hQ M V hp ha hb (o := 0) (by omega)
    rw [if_pos rfl, ← ga, ← gb] at h
    exact (show RM Q σ0 (BX8_reckon_337 σ (Q 0) (nI p) (nI a) (nI b) 0) _ by
      unfold BX8_reckon_337
      simp only [rS hQ M]
      rw [nI_0] at h
      exact h.id)
  · have h := r_chooses hQ M V hp ha hb (o := 1) (by omega)
    rw [if_neg (by decide), ← ga, ← gb] at h
    exact (show RM Q σ0 (BX8_reckon_337 σ (Q 0) (nI p) (nI a) (nI b) 1) _ by
      unfold BX8_reckon_337
      simp only [rS hQ M]
      exact h.id)
end MT
