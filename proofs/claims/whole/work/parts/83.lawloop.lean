/-! the law: its loop, its walk -/
theorem law_gt {L i : Nat} (hL : L ≤ 3072) (hi : i ≤ 4000) (h : ¬ Int32.ofNat L - 6 < nI i) : i + 6 ≤ L := by
  rcases Nat.lt_or_ge L (i + 6) with q | q
  · exfalso
    apply h
    rw [show Int32.ofNat L = iZ L from iZ_N L, iZ_N i, show (6 : Int32) = iZ 6 from rfl, iZ_sub, Int32.lt_iff_toInt_lt, iZ_toInt (by omega) (by omega), iZ_toInt (by omega) (by omega)]
    omega
  · exact q
set_option maxHeartbeats 4000000 in
set_option maxRecDepth 100000 in
theorem law_loop {p : Program} {l : Launch} {e : Env} {s : State} {m : MethodId} {below : List Frame} {meth : Method} {c : Code} {b L : Nat} {xs : Nat → Int32} {D : g_D} {K : g_Q9} {Q : Nat → Nat} {o sa : Nat} (hl0 : l.stackTraces = false) (C : g_C RL cL_law 7 (some .boolean) True p s m #[Value.ref b] meth c) (hr0 : meth.sig.returnType = ret) (hK : g_K D s) (hKX : g_KX D sa s) (hX : va_X b L xs s s.heap) (hbl : b < s.heap.size) (hD : D.2.2.1 = s.heap.size) (hA : kA K Q o) (hL : L ≤ 3072) :
    ∀ (n j : Nat) (σ : g_S) (mm : g_M) (H : Heap) (locs : List Loc) (ls : Array Slot), 6 * j ≤ L → L < 6 * (j + n) → g_H D σ H → va_S (g_A D) s.heap H locs → g_BS K Q o σ mm mm → lv_has ls 7 [(0, .ref b), (1, .ref (K.2.2.1 0)), (2, .ref (Q 0)), (3, .ref o), (4, .int (nI (6 * j)))] → W p l e room_1 s m #[Value.ref b] below meth c H locs (200 + j) (30000 + 6 * j) (lw_Z below #[Value.ref b] s) (F0 m 23 ls []) := by
  obtain ⟨hx, hb, hml, hown, hts, hr, hlocks, hin⟩ := id C
  have hbA : ¬ g_A D b := by unfold g_A; omega
  intro n
  induction n with
  | zero => intro j σ mm H locs ls h1 h2; omega
  | succ n ih =>
    intro j σ mm H locs ls hj hn hG hS hB hl
    refine lv_iload hx hb dL_law_23 (lv_at hl 4 rfl) ?_
    refine lv_aload_n hx hb dL_law_25 rfl (lv_at hl 0 rfl) ?_
    refine va_slen hx hb hX hbl hbA hS dL_law_26 ?_
    refine lv_bipush (v := 6) hx hb dL_law_27 (by decide +kernel) ?_
    refine lv_isub hx hb dL_law_29 ?_
    refine lv_icmp_gt (tgt := 588) hx hb dL_law_30 (by decide) (fun c1 => ?_) (fun c1 => ?_)
    · refine lv_iconst (v := 1) hx hb dL_law_588 (by decide +kernel) ?_
      refine va_forget (fun q hq => by have := hS.2.2 q hq; unfold g_A at this; omega) ?_
      refine W.widen (k := 601024) (n := 7293034) (by omega) (by omega) ?_
      exact lw_ret hx hb hr0 hlocks dL_law_589
    · have hi := law_gt hL (by omega) c1
      -- the way back to the loop's head
      have nx : ∀ (σ' : g_S) (mm' : g_M) (H : Heap) (locs : List Loc) (ls : Array Slot), g_H D σ' H → va_S (g_A D) s.heap H locs → g_BS K Q o σ' mm' mm' → lv_has ls 7 [(0, .ref b), (1, .ref (K.2.2.1 0)), (2, .ref (Q 0)), (3, .ref o), (4, .int (nI (6 * j)))] → W p l e room_1 s m #[Value.ref b] below meth c H locs (200 + j + 1) (30000 + 6 * j + 6) (lw_Z below #[Value.ref b] s) (F0 m 582 ls []) := by
        intro σ' mm' H locs ls hG hS hB hl
        refine lv_iinc (v := nI (6 * (j + 1))) (lv' := [(4, .int (nI (6 * (j + 1)))), (0, .ref b), (1, .ref (K.2.2.1 0)), (2, .ref (Q 0)), (3, .ref o)]) hx hb dL_law_582 hl (k := 4) rfl (by show nI (6 * j) + 6 = nI (6 * (j + 1)); rw [show (6 : Int32) = nI 6 from rfl, nI_add]; rfl) (by decide) rfl (fun ls hl => ?_)
        refine lv_goto (tgt := 23) hx hb dL_law_585 (by decide) ?_
        exact ih (j + 1) σ' mm' H locs ls (by omega) (by omega) hG hS hB (lv_sub hl [1, 2, 3, 4, 0] rfl)
      have n1 : ∀ (σ' : g_S) (mm' : g_M) (H : Heap) (locs : List Loc), g_H D σ' H → va_S (g_A D) s.heap H locs → g_BS K Q o σ' mm' mm' → W p l e room_1 s m #[Value.ref b] below meth c H locs (200 + j) (30000 + 6 * j) (lw_Z below #[Value.ref b] s) (F0 m 582 ls []) := fun σ' mm' H locs hG hS hB => W.widen (k := 200 + j + 1) (n := 30000 + 6 * j + 6) (by omega) (by omega) (nx σ' mm' H locs ls hG hS hB hl)
      have hc : 200 + j + 1 ≤ 601024 := by omega
      have hs : 30000 + 6 * j + 6 ≤ 7293034 := by omega
      refine lv_aload_n hx hb dL_law_33 rfl (lv_at hl 0 rfl) ?_
      refine lv_iload hx hb dL_law_34 (lv_at hl 4 rfl) ?_
      refine va_sld hx hb hX hbl hbA hS (vp_in_nI (by omega) (by omega)) dL_law_36 ?_
      refine lv_bipush (v := 15) hx hb dL_law_37 (by decide +kernel) ?_
      refine lv_iand hx hb dL_law_39 ?_
      generalize xs (nI (6 * j)).toNatClampNeg &&& 15 = x
      by_cases h0 : x = 0
      · refine lv_tableIn (tgt := 100) hx hb dL_law_40 (by rw [h0]; decide) (by rw [h0]; decide) (by rw [h0]; rfl) (by decide) ?_
        exact law_feed C hK hX hbl hbA hA hL hi hc hs hG hS hB hl n1
      by_cases h1 : x = 1
      · refine lv_tableIn (tgt := 173) hx hb dL_law_40 (by rw [h1]; decide) (by rw [h1]; decide) (by rw [h1]; rfl) (by decide) ?_
        exact law_end C hK hX hbl hbA hA hL hi hc hs hG hS hB hl n1
      by_cases h2 : x = 2
      · refine lv_tableIn (tgt := 198) hx hb dL_law_40 (by rw [h2]; decide) (by rw [h2]; decide) (by rw [h2]; rfl) (by decide) ?_
        exact law_read C hK hX hbl hbA hA hL hi hc hs hG hS hB hl n1
      by_cases h3 : x = 3
      · refine lv_tableIn (tgt := 223) hx hb dL_law_40 (by rw [h3]; decide) (by rw [h3]; decide) (by rw [h3]; rfl) (by decide) ?_
        exact law_set C hK hX hbl hbA hA hL hi hc hs hG hS hB hl n1
      by_cases h4 : x = 4
      · refine lv_tableIn (tgt := 292) hx hb dL_law_40 (by rw [h4]; decide) (by rw [h4]; decide) (by rw [h4]; rfl) (by decide) ?_
        exact law_reckon C hK hX hbl hbA hA hL hi hc hs hG hS hB hl n1
      by_cases h5 : x = 5
      · refine lv_tableIn (tgt := 353) hx hb dL_law_40 (by rw [h5]; decide) (by rw [h5]; decide) (by rw [h5]; rfl) (by decide) ?_
        exact law_round C hK hX hbl hbA hA hL hi hc hs hG hS hB hl n1
      by_cases h6 : x = 6
      · refine lv_tableIn (tgt := 402) hx hb dL_law_40 (by rw [h6]; decide) (by rw [h6]; decide) (by rw [h6]; rfl) (by decide) ?_
        exact law_compare C hK hX hbl hbA hA hL hi hc hs hG hS hB hl n1
      by_cases h7 : x = 7
      · refine lv_tableIn (tgt := 439) hx hb dL_law_40 (by rw [h7]; decide) (by rw [h7]; decide) (by rw [h7]; rfl) (by decide) ?_
        exact law_write C hK hX hbl hbA hA hL hi hc hs hG hS hB hl n1
      by_cases h8 : x = 8
      · refine lv_tableIn (tgt := 476) hx hb dL_law_40 (by rw [h8]; decide) (by rw [h8]; decide) (by rw [h8]; rfl) (by decide) ?_
        exact law_text C hK hX hbl hbA hA hL hi hc hs hG hS hB hl hl0 hKX (fun σ' H locs ls hG hS hB hl => nx σ' mm H locs ls hG hS hB hl)
      by_cases h9 : x = 9
      · refine lv_tableIn (tgt := 532) hx hb dL_law_40 (by rw [h9]; decide) (by rw [h9]; decide) (by rw [h9]; rfl) (by decide) ?_
        exact law_bits C hK hX hbl hbA hA hL hi hc hs hG hS hB hl n1
      by_cases h10 : x = 10
      · refine lv_tableIn (tgt := 557) hx hb dL_law_40 (by rw [h10]; decide) (by rw [h10]; decide) (by rw [h10]; rfl) (by decide) ?_
        exact law_isInteger C hK hX hbl hbA hA hL hi hc hs hG hS hB hl n1
      refine lv_tableOut (tgt := 582) hx hb dL_law_40 (g_out (fun k hk => ?_)) (by decide) ?_
      · have hk : k ≤ 10 := by omega
        have hcs : k = 0 ∨ k = 1 ∨ k = 2 ∨ k = 3 ∨ k = 4 ∨ k = 5 ∨ k = 6 ∨ k = 7 ∨ k = 8 ∨ k = 9 ∨ k = 10 := by omega
        rcases hcs with rfl | rfl | rfl | rfl | rfl | rfl | rfl | rfl | rfl | rfl | rfl
        · exact h0
        · exact h1
        · exact h2
        · exact h3
        · exact h4
        · exact h5
        · exact h6
        · exact h7
        · exact h8
        · exact h9
        · exact h10
      · exact n1 σ mm H locs hG hS hB
set_option maxHeartbeats 4000000 in
set_option maxRecDepth 100000 in
theorem whole_start {p : Program} {e : Env} {s : State} {m : MethodId} {below : List Frame} {meth : Method} {c : Code} (l : Launch) (hl0 : l.stackTraces = false) {b L : Nat} {xs : Nat → Int32} (hL : L ≤ 3072) (C0 : lw_At p s m meth c b L xs) : W p l e room_1 s m #[Value.ref b] below meth c s.heap [] 0 0 (lw_Z below #[Value.ref b] s) (entryFrame m ([Value.ref b] : List Value).toArray 7) := by
  obtain ⟨hx, hb, hr, hml, hown, htt, hX, hbl, hlocks, hgv⟩ := id C0
  obtain ⟨D, sa, hD, hK, hKX⟩ := law_K htt hgv
  have hts : ∀ w ∈ lw_g, w.before #[Value.ref b] s = true := fun w h => htt w (List.mem_filter.mp h).1
  have C : g_C RL cL_law 7 (some .boolean) True p s m #[Value.ref b] meth c := ⟨hx, hb, hml, hown, hts, hr, hlocks, trivial⟩
  have hS : va_S (g_A D) s.heap s.heap [] := va_S.rf
  obtain ⟨σ0, eσ⟩ : ∃ σ0 : g_S, σ0 = (fun _ => none, s.heap.size) := ⟨_, rfl⟩
  have hG : g_H D σ0 s.heap := ⟨by rw [eσ], by rw [eσ]; exact Nat.le_of_eq hD, fun a e h => by rw [eσ] at h; cases h⟩
  have z0 : σ0.2 = s.heap.size := by rw [eσ]
  have hl := lv_entry ([.ref b]) (n := 7) (Nat.le_of_ble_eq_true rfl)
  rw [lg_entry_eq]
  generalize (lg_sl ([.ref b]) ++ List.replicate (7 - (lg_sl ([.ref b])).length) Slot.unset).toArray = ls at hl ⊢
  have hl : lv_has ls 7 [(0, .ref b)] := hl
  -- the desk
  refine g_new (fs := [.null, .null, .null, .null]) hx hb hts hown hK hG hS (ci := 7) rfl iX7 tyX7 tyX7_ok clL_8 inX7 itX7 (fun j hj => by rcases (show j = 0 ∨ j = 1 ∨ j = 2 ∨ j = 3 by omega) with rfl | rfl | rfl | rfl <;> rfl) (Nat.le_of_ble_eq_true rfl) (Nat.le_of_ble_eq_true rfl) dL_law_0 (fun H hG hS => ?_)
  refine lv_dup hx hb dL_law_3 rfl ?_
  obtain ⟨σ1, f, e1, s1, k1, hOK, hCS⟩ := i_desk (σ := g_mk σ0 (.inr (7, [.null, .null, .null, .null]))) (x := σ0.2) (n := σ0.2 + 1) rfl (by omega) (g_mk_n _ _)
  refine g_callI hx hb hml hl.1 hts hown hK hG hS (As := []) (rest := [.ref σ0.2]) (tX7_init l D e1) vX7_init mlL_15 rfl rfl ⟨Nat.le_of_ble_eq_true rfl, Nat.le_of_ble_eq_true rfl⟩ rfl rfl (Nat.le_of_ble_eq_true rfl) ⟨Nat.le_of_ble_eq_true rfl, Nat.le_of_ble_eq_true rfl⟩ dL_law_4 (fun H locs hG hS => ?_)
  refine lv_astore_n (lv' := [(1, .ref σ0.2), (0, .ref b)]) hx hb dL_law_7 rfl hl (by decide) rfl (fun ls hl => ?_)
  -- the reference
  refine g_new (fs := [.int 0, .null, .null, .null, .null, .int 0, .null, .int 0]) hx hb hts hown hK hG hS (ci := 8) rfl iX8 tyX8 tyX8_ok clL_16 inX8 itX8 (fun j hj => by rcases (show j = 0 ∨ j = 1 ∨ j = 2 ∨ j = 3 ∨ j = 4 ∨ j = 5 ∨ j = 6 ∨ j = 7 by omega) with rfl | rfl | rfl | rfl | rfl | rfl | rfl | rfl <;> rfl) (Nat.le_of_ble_eq_true rfl) (Nat.le_of_ble_eq_true rfl) dL_law_8 (fun H hG hS => ?_)
  refine lv_dup hx hb dL_law_11 rfl ?_
  obtain ⟨σ2, e2, s2, k2, hQM, hMS⟩ := i_model (σ := g_mk σ1 (.inr (8, [.int 0, .null, .null, .null, .null, .int 0, .null, .int 0]))) (x := σ1.2) (n := σ1.2 + 1) rfl (by omega) (g_mk_n _ _)
  refine g_callI hx hb hml hl.1 hts hown hK hG hS (As := []) (rest := [.ref σ1.2]) (tX8_init l D e2) vX8_init mlL_18 rfl rfl ⟨Nat.le_of_ble_eq_true rfl, Nat.le_of_ble_eq_true rfl⟩ rfl rfl (Nat.le_of_ble_eq_true rfl) ⟨Nat.le_of_ble_eq_true rfl, Nat.le_of_ble_eq_true rfl⟩ dL_law_12 (fun H locs hG hS => ?_)
  refine lv_astore_n (lv' := [(2, .ref σ1.2), (1, .ref σ0.2), (0, .ref b)]) hx hb dL_law_15 rfl hl (by decide) rfl (fun ls hl => ?_)
  -- the law's long
  refine lv_iconst (v := 1) hx hb dL_law_16 (by decide +kernel) ?_
  refine g_newa (N := 1) (t := 3) (f := .inr (.inl (fun _ => 0))) (atype := .long) hx hb hts hK hG hS ac_long (fun _ => rfl) rfl (fun _ => rfl) (by decide) rfl (Nat.le_of_ble_eq_true rfl) (Nat.le_of_ble_eq_true rfl) (Nat.le_of_ble_eq_true rfl) dL_law_17 (fun H hG hS => ?_)
  refine lv_astore_n (lv' := [(3, .ref σ2.2), (2, .ref σ1.2), (1, .ref σ0.2), (0, .ref b)]) hx hb dL_law_19 rfl hl (by decide) rfl (fun ls hl => ?_)
  refine lv_iconst (v := 0) hx hb dL_law_20 (by decide +kernel) ?_
  refine lv_istore (lv' := [(4, .int 0), (3, .ref σ2.2), (2, .ref σ1.2), (1, .ref σ0.2), (0, .ref b)]) hx hb dL_law_21 hl (by decide) rfl (fun ls hl => ?_)
  obtain ⟨σ3, e3⟩ : ∃ σ3, σ3 = g_mk σ2 (.inl (3, 1, .inr (.inl (fun _ => 0)))) := ⟨_, rfl⟩
  have hG : g_H D σ3 H := by rw [e3]; exact hG
  have k3 : ∀ q, q < σ2.2 → σ3.1 q = σ2.1 q := fun q hq => by rw [e3, g_mk_q _ _ (by omega)]
  -- all three are apart
  have hkA : kA (K0 σ0.2 (σ0.2 + 1) f) (Q0 σ1.2 (σ1.2 + 1)) σ2.2 := by
    refine ⟨hOK, hQM, fun i hi => ?_, K0_kN (by omega) (by omega), fun i hi => ?_⟩
    · show kN _ (if i = 0 then σ1.2 else σ1.2 + 1 + (i - 1))
      split
      · exact K0_kN (by omega) (by omega)
      · exact K0_kN (by omega) (by omega)
    · show (if i = 0 then σ1.2 else σ1.2 + 1 + (i - 1)) ≠ σ2.2
      split <;> omega
  have hlow : ∀ q, ¬ kN (K0 σ0.2 (σ0.2 + 1) f) q → q < σ1.2 := fun q hq => by
    rcases Nat.lt_or_ge q σ1.2 with w | w
    · exact w
    · exact absurd (K0_kN (by omega) (by omega)) hq
  have hmid : ∀ q, ¬ kQ (Q0 σ1.2 (σ1.2 + 1)) q → q < σ2.2 := fun q hq => by
    rcases Nat.lt_or_ge q σ2.2 with w | w
    · exact w
    · refine absurd (fun i hi => ?_) hq
      show (if i = 0 then σ1.2 else σ1.2 + 1 + (i - 1)) ≠ q
      split <;> omega
  have hB : g_BS (K0 σ0.2 (σ0.2 + 1) f) (Q0 σ1.2 (σ1.2 + 1)) σ2.2 σ3 m0 m0 := by
    refine ⟨CS_move hCS (fun q hq => ?_), MS_move hMS (fun q hq => k3 q (hmid q hq)), fun _ => 0, by rw [e3]; exact g_mk_n _ _⟩
    have h1 := hlow q hq
    rw [k3 q (by omega), k2 q (by omega) (by omega), g_mk_q _ _ (by omega)]
  refine W.widen (k := 200 + 0) (n := 30000 + 6 * 0) (Nat.le_of_ble_eq_true rfl) (Nat.le_of_ble_eq_true rfl) ?_
  exact law_loop hl0 C hr hK hKX hX hbl hD hkA hL (L + 1) 0 σ3 m0 H _ ls (by omega) (by omega) hG hS hB (lv_sub hl [4, 3, 2, 1, 0] rfl)
