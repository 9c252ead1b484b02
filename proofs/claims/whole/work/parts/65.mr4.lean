/-! the reference: round, set, feed, textAt -/
def sg (b n : Nat) : Int := if b = 0 then (n : Int) else -(n : Int)
theorem sg_div {b n : Nat} (h1 : n ≤ 9223372036854775808) (h2 : b = 0 → n < 9223372036854775808) : lZ (sg b n) / 65536 = lZ (sg b (n / 65536)) := by
  rw [show (65536 : Int64) = lZ 65536 from rfl]
  unfold sg
  by_cases hb : b = 0
  · have := h2 hb
    rw [if_pos hb, if_pos hb, lZ_div (by omega) (by omega) (by omega) (by omega)]
    congr 1
  · rw [if_neg hb, if_neg hb]
    apply Int64.toInt_inj.mp
    rw [Int64.toInt_div_of_ne_right _ _ (by decide), lZ_toInt (by omega) (by omega), lZ_toInt (by omega) (by omega), lZ_toInt (by omega) (by omega), Int.neg_tdiv]
    rfl
theorem sg_rem {b n : Nat} (h1 : n ≤ 9223372036854775808) (h2 : b = 0 → n < 9223372036854775808) : g_lrem (lZ (sg b n)) 65536 = lZ (sg b (n % 65536)) := by
  unfold g_lrem
  rw [sg_div h1 h2, show (65536 : Int64) = lZ 65536 from rfl, lZ_mul, lZ_sub]
  congr 1
  unfold sg
  split <;> omega
theorem i_and255 (w : Int32) : w &&& 255 = nI (w.toBitVec.toNat % 256) := by
  apply Int32.toBitVec_inj.mp
  apply BitVec.eq_of_toNat_eq
  show (w.toBitVec &&& 255#32).toNat = (BitVec.ofNat 32 (w.toBitVec.toNat % 256)).toNat
  rw [BitVec.toNat_and, show (255#32).toNat = 2 ^ 8 - 1 from rfl, Nat.and_two_pow_sub_one_eq_mod, BitVec.toNat_ofNat]
  omega
theorem i_sh : ∀ j, j < 4 → (24 : Int32) - 8 * nI j = nI (24 - 8 * j) := by decide +kernel
theorem op_eight {op : Int32} (h0 : ¬ op < 0) (h7 : op ≤ 7) : op = 0 ∨ op = 1 ∨ op = 2 ∨ op = 7 ∨ op = 3 ∨ op = 4 ∨ op = 5 ∨ op = 6 := by
  obtain ⟨k, k1, rfl⟩ := nI_of2 (x := op) (M := 7) (n := 7) rfl h0 h7
  have : k = 0 ∨ k = 1 ∨ k = 2 ∨ k = 7 ∨ k = 3 ∨ k = 4 ∨ k = 5 ∨ k = 6 := by omega
  rcases this with rfl | rfl | rfl | rfl | rfl | rfl | rfl | rfl
  · exact Or.inl rfl
  · exact Or.inr (Or.inl rfl)
  · exact Or.inr (Or.inr (Or.inl rfl))
  · exact Or.inr (Or.inr (Or.inr (Or.inl rfl)))
  · exact Or.inr (Or.inr (Or.inr (Or.inr (Or.inl rfl))))
  · exact Or.inr (Or.inr (Or.inr (Or.inr (Or.inr (Or.inl rfl)))))
  · exact Or.inr (Or.inr (Or.inr (Or.inr (Or.inr (Or.inr (Or.inl rfl))))))
  · exact Or.inr (Or.inr (Or.inr (Or.inr (Or.inr (Or.inr (Or.inr rfl))))))
theorem spR_out {x : g_Fr} {op : Int32} (h : op < 0 ∨ ¬ op ≤ 7) : spR x op = (-1, 0, 1, 0) := by
  have ne : ∀ k : Int32, ¬ k < 0 → k ≤ 7 → op ≠ k := fun k h1 h2 e => by
    rw [e] at h
    rcases h with q | q
    · exact h1 q
    · exact q h2
  unfold spR
  rw [if_neg (ne 0 (by decide) (by decide)), if_neg (ne 1 (by decide) (by decide)), if_neg (ne 2 (by decide) (by decide)), if_neg (ne 7 (by decide) (by decide)), if_neg]
  intro w
  rcases w with w | w | w | w
  · exact ne 3 (by decide) (by decide) w
  · exact ne 4 (by decide) (by decide) w
  · exact ne 5 (by decide) (by decide) w
  · exact ne 6 (by decide) (by decide) w
theorem sz_0 (n : Nat) : sz n 0 = 0 := by unfold sz; split <;> rfl
section MW
variable {Q : Nat → Nat} {σ0 : g_S} {z : g_Z} {v : Nat → Nat} {m : g_M}
theorem r_round (hQ : kM Q) {σ : g_S} (C : MS Q σ0 σ m) (x a op : Int32) : RM Q σ0 (fX8_round σ (Q 0) x a op) (mRound m x a op) := by
  obtain ⟨z, v, M, V⟩ := C
  obtain ⟨σ1, e1, M1⟩ := v_p0 hQ M 0
  rw [nI_0] at e1
  have V1 := V.thr 0
  unfold fX8_round BX8_round_29 mRound
  simp only [e1, Option.bind_some, r_isP]
  by_cases hx : isP x
  · rw [if_neg (by rw [if_pos hx]; decide)]
    by_cases ha : isP a
    · rw [if_neg (by rw [if_pos ha]; decide), if_pos (show isP x ∧ isP a from ⟨hx, ha⟩)]
      have out : op < 0 ∨ ¬ op ≤ 7 → RM Q σ0 (some (-1, σ1)) (mKeep m x (spR (m.1 (pOf a)) op)) := fun h => by rw [spR_out h]; exact ⟨σ1, rfl, _, v, M1, V1⟩
      by_cases h0 : op < 0
      · rw [if_pos h0]; exact out (Or.inl h0)
      · rw [if_neg h0]
        by_cases h7 : op ≤ 7
        · rw [if_pos h7]
          clear out
          obtain ⟨p, hp, rfl⟩ : ∃ p, p < 16 ∧ x = nI p := ⟨_, isP_of hx⟩
          obtain ⟨q, hq, rfl⟩ : ∃ q, q < 16 ∧ a = nI q := ⟨_, isP_of ha⟩
          rw [(isP_nI hq).2]
          obtain ⟨fa, ga⟩ := V1.fr hq
          obtain ⟨x1, x2, x3, x4, x5, x6⟩ := id fa
          simp only at x1 x2 x3 x4 x5 x6
          have b1 := v_bel hQ M1 hq
          obtain ⟨σ2, e2, M2⟩ := v_takes hQ M1 hq
          simp only [rS hQ M1, b1, Option.bind_some, e2]
          have fin : ∀ (σ3 : g_S) (v3 : Nat → Nat) (nb : Nat), nb ≤ 1 → MSt Q σ0 σ3 (0, z.2) v3 → (∀ i, i < 32 ∨ i = 42 → v3 i = v i) → spR (m.1 q) op = (0, v3 32, v3 33, sz (v3 32) nb) → RM Q σ0 (BX8_round_125 σ3 (Q 0) (nI p) (nI nb)) (mKeep m (nI p) (spR (m.1 q) op)) := by
            intro σ3 v3 nb hnb M3 kf hs
            have V3 := V1.frame (fun i hi => kf i (Or.inl hi)) (kf 42 (Or.inr rfl))
            have hok : fOK (v3 32, v3 33, sz (v3 32) nb) := by
              have := spR_ok (x := m.1 q) (op := op) (by rw [← ga]; exact fa) (by rw [hs])
              rw [hs] at this; exact this
            unfold BX8_round_125
            simp only [rS hQ M3, Option.bind_some]
            exact (r_holds hQ M3 V3 hp hnb (by rw [hs, if_pos ⟨hok.1, hok.2.2.1⟩]) (fun _ => by rw [hs]; exact hok)).id
          rw [← ga] at fin
          rw [← ga]
          have k32 : va_up (va_up v 32 (v (2 * q))) 33 (v (2 * q + 1)) 32 = v (2 * q) := by rw [va_up_ne _ _ (by decide), va_up_self]
          have k33 : va_up (va_up v 32 (v (2 * q))) 33 (v (2 * q + 1)) 33 = v (2 * q + 1) := va_up_self _ _ _
          have kf : ∀ i, i < 32 ∨ i = 42 → va_up (va_up v 32 (v (2 * q))) 33 (v (2 * q + 1)) i = v i := fun i hi => by rw [va_up_ne _ _ (by omega), va_up_ne _ _ (by omega)]
          generalize va_up (va_up v 32 (v (2 * q))) 33 (v (2 * q + 1)) = v2 at *
          rcases op_eight h0 h7 with rfl | rfl | rfl | rfl | hop
          · rw [if_pos rfl, show (33 : Int32) = nI 33 from rfl, show (1 : Int32) = nI 1 from rfl]
            obtain ⟨σ3, e3, M3⟩ := v_small hQ M2 (x := 33) (n := 1) (by decide) (by decide)
            simp only [rS hQ M2, e3, Option.bind_some]
            refine fin σ3 _ _ x5 M3 (fun i hi => by rw [va_up_ne _ _ (by omega)]; exact kf i hi) ?_
            rw [va_up_ne _ _ (show (32 : Nat) ≠ 33 by decide), va_up_self, k32]
            unfold spR
            rw [if_pos rfl]
          · rw [if_neg (show ¬ (1 : Int32) = 0 by decide), if_pos rfl, two_nI, nI_1, show (33 : Int32) = nI 33 from rfl, show (32 : Int32) = nI 32 from rfl, show (1 : Int32) = nI 1 from rfl, ← nI_0]
            obtain ⟨σ3, e3, M3⟩ := v_copy hQ M2 (x := 2 * q + 1) (w := 32) (by omega) (by decide) (by omega) (by omega)
            obtain ⟨σ4, e4, M4⟩ := v_small hQ M3 (x := 33) (n := 1) (by decide) (by decide)
            simp only [rS hQ M2, e3, Option.bind_some, rS hQ M3, e4]
            refine fin σ4 _ 0 (by omega) M4 (fun i hi => by rw [va_up_ne _ _ (by omega), va_up_ne _ _ (by omega)]; exact kf i hi) ?_
            rw [va_up_ne _ _ (show (32 : Nat) ≠ 33 by decide), va_up_self, va_up_self, kf _ (by omega), sz_0]
            unfold spR
            rw [if_neg (by decide), if_pos rfl]
          · rw [if_neg (show ¬ (2 : Int32) = 0 by decide), if_neg (show ¬ (2 : Int32) = 1 by decide), if_pos rfl, ← nI_0]
            refine fin σ2 _ 0 (by omega) M2 kf ?_
            rw [k32, k33, sz_0]
            unfold spR
            rw [if_neg (by decide), if_neg (by decide), if_pos rfl]
          · rw [if_neg (show ¬ (7 : Int32) = 0 by decide), if_neg (show ¬ (7 : Int32) = 1 by decide), if_neg (show ¬ (7 : Int32) = 2 by decide), if_pos rfl]
            have sp : spR (v (2 * q), v (2 * q + 1), z.2.1 q) 7 = (0, v (2 * q), v (2 * q + 1), sz (v (2 * q)) (1 - z.2.1 q)) := by
              unfold spR
              rw [if_neg (by decide), if_neg (by decide), if_neg (by decide), if_pos rfl]
            unfold BX8_round_114
            by_cases hb : z.2.1 q = 0
            · rw [if_pos (by rw [hb]; rfl), show (1 : Int32) = nI 1 from rfl]
              refine fin σ2 _ 1 (by omega) M2 kf ?_
              rw [k32, k33]
              refine sp.trans ?_
              rw [hb]
            · rw [if_neg (fun w => hb ((ja_e0 (by omega)).mp w)), ← nI_0]
              refine fin σ2 _ 0 (by omega) M2 kf ?_
              rw [k32, k33]
              refine sp.trans ?_
              rw [show 1 - z.2.1 q = 0 by omega]
          · rw [if_neg (by rintro rfl; revert hop; decide), if_neg (by rintro rfl; revert hop; decide), if_neg (by rintro rfl; revert hop; decide), if_neg (by rintro rfl; revert hop; decide)]
            have kq : v2 (2 * q) = v (2 * q) := kf _ (by omega)
            have kq1 : v2 (2 * q + 1) = v (2 * q + 1) := kf _ (by omega)
            obtain ⟨σ3, v3, e3, M3, g1, g2, g3⟩ := v_whole hQ M2 (by rw [kf 42 (Or.inr rfl)]; exact V.2.2.2) hq (op := op) (by rw [kq, kq1]; exact fa) hop
            rw [kq, kq1] at g1
            simp only [rS hQ M2, e3, Option.bind_some]
            refine fin σ3 v3 _ x5 M3 (fun i hi => by rw [g3 i hi]; exact kf i hi) ?_
            rw [g1, g2]
            unfold spR
            rw [if_neg (by rintro rfl; revert hop; decide), if_neg (by rintro rfl; revert hop; decide), if_neg (by rintro rfl; revert hop; decide), if_neg (by rintro rfl; revert hop; decide), if_pos hop]
        · rw [if_neg h7]; exact out (Or.inr h7)
    · rw [if_pos (by rw [if_neg ha]), if_neg (fun w => ha w.2)]
      exact ⟨σ1, rfl, _, v, M1, V1⟩
  · rw [if_pos (by rw [if_neg hx]), if_neg (fun w => hx w.1)]
    exact ⟨σ1, rfl, _, v, M1, V1⟩
theorem r_set1 (hQ : kM Q) {s : Nat → Nat} {lf : Nat → Nat → Nat} {b n k f : Nat} (x1 : Int32) (x2 : Int64) (h1 : n ≤ 9223372036854775808) (h2 : b = 0 → n < 9223372036854775808) (hk : k < 4) : LX8_set_20 (f + 1) (md Q σ0 z s lf) (Q 0) x1 x2 (lZ (sg b n)) (nI k) = LX8_set_20 f (md Q σ0 z s (va_up lf 32 (va_up (lf 32) k (n % 65536)))) (Q 0) x1 x2 (lZ (sg b (n / 65536))) (nI (k + 1)) := by
  rw [LX8_set_20, show (4 : Int32) = nI 4 from rfl, if_neg (nI_ge hk (by omega))]
  simp only [g_let]
  rw [sg_rem h1 h2, show (0 : Int64) = lZ 0 from rfl, show (32 : Int32) = nI 32 from rfl]
  unfold BX8_set_54
  have hm : n % 65536 < 65536 := Nat.mod_lt _ (by decide)
  have ep : (lZ ((n % 65536 : Nat) : Int)).toInt32 = nI (n % 65536) := by rw [← lZ_N, jl_i]
  have key : (fun y : Int32 => (g_o (md Q σ0 z s lf) 8 (Q 0)).bind fun _ => (fX8_puts (md Q σ0 z s lf) (Q 0) (nI 32) (nI k) y).bind fun r15 => g_let (lZ (sg b n) / 65536) fun v16 => g_let (nI k + 1) fun v17 => LX8_set_20 f r15 (Q 0) x1 x2 v16 v17) (nI (n % 65536)) = LX8_set_20 f (md Q σ0 z s (va_up lf 32 (va_up (lf 32) k (n % 65536)))) (Q 0) x1 x2 (lZ (sg b (n / 65536))) (nI (k + 1)) := by
    simp only [rM hQ, u_puts hQ (show 32 < 44 by decide) (show k < 264 by omega), Option.bind_some, g_let]
    rw [sg_div h1 h2, nI_1]
  by_cases hs : 0 ≤ sg b (n % 65536)
  · rw [if_pos ((lZ_ge (by unfold sg; split <;> omega) (by unfold sg; split <;> omega) (by omega) (by omega)).mpr hs)]
    have e : sg b (n % 65536) = ((n % 65536 : Nat) : Int) := by
      unfold sg at hs ⊢
      split at hs <;> omega
    rw [e, ep]
    exact key
  · rw [if_neg (fun w => hs ((lZ_ge (by unfold sg; split <;> omega) (by unfold sg; split <;> omega) (by omega) (by omega)).mp w))]
    have e : -sg b (n % 65536) = ((n % 65536 : Nat) : Int) := by
      unfold sg at hs ⊢
      split at hs <;> omega
    rw [lZ_neg, e, ep]
    exact key
theorem r_set (hQ : kM Q) {σ : g_S} (C : MS Q σ0 σ m) (x : Int32) {w : Int} (w1 : -9223372036854775808 ≤ w) (w2 : w < 9223372036854775808) : RM Q σ0 (fX8_set σ (Q 0) x (lZ w)) (mSet m x w) := by
  obtain ⟨z, v, M, V⟩ := C
  obtain ⟨σ1, e1, M1⟩ := v_p0 hQ M 0
  rw [nI_0] at e1
  have V1 := V.thr 0
  unfold fX8_set mSet
  simp only [e1, Option.bind_some, r_isP]
  by_cases hx : isP x
  · rw [if_neg (by rw [if_pos hx]; decide), if_pos hx]
    obtain ⟨p, hp, rfl⟩ : ∃ p, p < 16 ∧ x = nI p := ⟨_, isP_of hx⟩
    rw [(isP_nI hp).2]
    obtain ⟨b, hb, hsb⟩ : ∃ b, b = (if w < 0 then 1 else 0) ∧ w = sg b w.natAbs := ⟨_, rfl, by unfold sg; split <;> split at * <;> omega⟩
    have hb1 : b ≤ 1 := by rw [hb]; split <;> omega
    rw [← hb]
    have hb0 : b = 0 → w.natAbs < 9223372036854775808 := fun q => by rw [q] at hsb; unfold sg at hsb; rw [if_pos rfl] at hsb; omega
    have hN : w.natAbs ≤ 9223372036854775808 := by omega
    have hz0 : 0 ≤ w ↔ b = 0 := by rw [hb]; split <;> omega
    generalize w.natAbs = n at *
    obtain ⟨s, lf, rfl, h⟩ := M1
    obtain ⟨f, hf⟩ : ∃ f, g_fuel = f + 1 + 1 + 1 + 1 + 1 := ⟨g_fuel - 5, by have := g_fuel_ge; omega⟩
    have q1 : n / 65536 ≤ 9223372036854775808 := by omega
    have q2 : n / 65536 / 65536 ≤ 9223372036854775808 := by omega
    have q3 : n / 65536 / 65536 / 65536 ≤ 9223372036854775808 := by omega
    have hl := (h 32 (by decide)).2.1
    have st : LX8_set_20 g_fuel (md Q σ0 (0, z.2) s lf) (Q 0) (nI p) (lZ w) (lZ w) 0 = LX8_set_20 (f + 1) (md Q σ0 (0, z.2) s (va_up lf 32 (va_up (va_up (va_up (va_up (lf 32) 0 (n % 65536)) 1 (n / 65536 % 65536)) 2 (n / 65536 / 65536 % 65536)) 3 (n / 65536 / 65536 / 65536 % 65536)))) (Q 0) (nI p) (lZ w) (lZ (sg b (n / 65536 / 65536 / 65536 / 65536))) (nI 4) := by
      rw [hf]
      conv => lhs; arg 6; rw [hsb]
      rw [← nI_0, r_set1 hQ _ _ hN hb0 (by decide), r_set1 hQ _ _ q1 (fun _ => by omega) (by decide), r_set1 hQ _ _ q2 (fun _ => by omega) (by decide), r_set1 hQ _ _ q3 (fun _ => by omega) (by decide)]
      simp only [up_up, va_up_self]
    rw [st, LX8_set_20, if_pos (by decide)]
    clear st
    generalize eg : va_up (va_up (va_up (va_up (lf 32) 0 (n % 65536)) 1 (n / 65536 % 65536)) 2 (n / 65536 / 65536 % 65536)) 3 (n / 65536 / 65536 / 65536 % 65536) = g at *
    have hgb : ∀ j, g j < 65536 := by
      rw [← eg]
      exact mup_lt (mup_lt (mup_lt (mup_lt hl (by omega)) (by omega)) (by omega)) (by omega)
    have hgv : wv 65536 g 4 = n := by
      have g0 : g 0 = n % 65536 := by rw [← eg, va_up_ne _ _ (by decide), va_up_ne _ _ (by decide), va_up_ne _ _ (by decide), va_up_self]
      have g1 : g 1 = n / 65536 % 65536 := by rw [← eg, va_up_ne _ _ (by decide), va_up_ne _ _ (by decide), va_up_self]
      have g2 : g 2 = n / 65536 / 65536 % 65536 := by rw [← eg, va_up_ne _ _ (by decide), va_up_self]
      have g3 : g 3 = n / 65536 / 65536 / 65536 % 65536 := by rw [← eg, va_up_self]
      rw [wv_s, wv_s, wv_s, wv_s, wv_0, g0, g1, g2, g3]
      omega
    have G := h.up (gm_trim (x := 32) (c := 4) (by omega) hgb)
    rw [hgv] at G
    have e2 := u_trim (σ0 := σ0) (z := (0, z.2)) (s := s) (lf := va_up lf 32 g) hQ (x := 32) (c := 4) (by decide) (by rw [va_up_self]; exact hgb) (by omega)
    rw [va_up_self] at e2
    have M2 : MSt Q σ0 (md Q σ0 (0, z.2) (va_up s 32 (wt g 4)) (va_up lf 32 g)) (0, z.2) (va_up v 32 n) := ⟨_, _, rfl, G⟩
    rw [show (32 : Int32) = nI 32 from rfl, show (4 : Int32) = nI 4 from rfl, show (33 : Int32) = nI 33 from rfl, show (1 : Int32) = nI 1 from rfl]
    obtain ⟨σ3, e3, M3⟩ := v_small hQ M2 (x := 33) (n := 1) (by decide) (by decide)
    simp only [rM hQ, e2, Option.bind_some, rS hQ M2, e3]
    have V3 : MV (0, z.2) (va_up (va_up v 32 n) 33 1) m := V1.frame (fun i hi => by rw [va_up_ne _ _ (by omega), va_up_ne _ _ (by omega)]) (by rw [va_up_ne _ _ (by decide), va_up_ne _ _ (by decide)])
    have k32 : va_up (va_up v 32 n) 33 1 32 = n := by rw [va_up_ne _ _ (by decide), va_up_self]
    have k33 : va_up (va_up v 32 n) 33 1 33 = 1 := va_up_self _ _ _
    have hnT : n < TOP := by
      have : (65536 : Nat) ^ 4 ≤ TOP := by rw [TOP_128]; exact Nat.pow_le_pow_right (by decide) (by decide)
      have e : (65536 : Nat) ^ 4 = 18446744073709551616 := by decide
      omega
    have hsz : sz n b = b := by
      unfold sz
      split
      · rename_i q
        rw [q] at hsb
        have : ¬ w < 0 := by rw [hsb]; unfold sg; split <;> omega
        rw [hb, if_neg this]
      · rfl
    have hK := r_holds hQ M3 V3 hp hb1 (r := (0, n, 1, b)) (by rw [k32, k33, if_pos ⟨hnT, TOP_1⟩, hsz]) (fun _ => by have := fOK_one (n := n) hnT hb1; rw [hsz] at this; exact this)
    have e9 : mKeep m (nI p) (0, n, 1, b) = (0, va_up m.1 p (n, 1, b), m.2) := by
      unfold mKeep
      rw [(isP_nI hp).2]
      rfl
    rw [e9] at hK
    rw [show (0 : Int64) = lZ 0 from rfl]
    unfold BX8_set_99
    by_cases hc : 0 ≤ w
    · rw [if_pos ((lZ_ge (by omega) (by omega) (by omega) (by omega)).mpr hc)]
      rw [hz0.mp hc, nI_0] at hK
      rw [hz0.mp hc]
      simp only [rS hQ M3, Option.bind_some]
      exact hK.id
    · rw [if_neg (fun q => hc ((lZ_ge (by omega) (by omega) (by omega) (by omega)).mp q))]
      have hb9 : b = 1 := by
        have : ¬ b = 0 := fun q => hc (hz0.mpr q)
        omega
      rw [hb9] at hK ⊢
      simp only [rS hQ M3, Option.bind_some]
      exact hK.id
  · rw [if_pos (by rw [if_neg hx]), if_neg hx]
    exact ⟨σ1, rfl, _, v, M1, V1⟩
end MW
