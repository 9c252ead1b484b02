/-! the law: textAt (written by law.py) -/
set_option maxHeartbeats 4000000 in
set_option maxRecDepth 100000 in
theorem law_text2 {p : Program} {l : Launch} {e : Env} {s : State} {m : MethodId} {below : List Frame} {meth : Method} {c : Code} {b L : Nat} {xs : Nat → Int32} {D : g_D} {K : g_Q9} {Q : Nat → Nat} {o : Nat} (C : g_C RL cL_law 7 (some .boolean) True p s m #[Value.ref b] meth c) (hK : g_K D s) (hX : va_X b L xs s s.heap) (hbl : b < s.heap.size) (hbA : ¬ g_A D b) (hA : kA K Q o) (hL : L ≤ 3072) {i : Nat} (hi : i + 6 ≤ L) {cells slots : Nat} (hc : cells + 1 ≤ 601024) (hs : slots + 6 ≤ 7293034) {σ : g_S} {mm : g_M} {H : Heap} {locs : List Loc} {ls : Array Slot} (hG : g_H D σ H) (hS : va_S (g_A D) s.heap H locs) (hB : g_BS K Q o σ mm mm) (hl : lv_has ls 7 [(0, .ref b), (1, .ref (K.2.2.1 0)), (2, .ref (Q 0)), (3, .ref o), (4, .int (nI i))]) (r : Int32) (hr9 : (r = 0 ∧ (¬ (xs (nI i + 1).toNatClampNeg) < 0 ∧ (xs (nI i + 1).toNatClampNeg) < nI mm.2.2.1) ∧ ∃ f : Nat → Int64, σ.1 o = some (.inl (3, 1, .inr (.inl f))) ∧ f 0 = (nI (mm.2.2.2 (xs (nI i + 1).toNatClampNeg).toNatClampNeg)).toInt64) ∨ (r = 1 ∧ ¬ (¬ (xs (nI i + 1).toNatClampNeg) < 0 ∧ (xs (nI i + 1).toNatClampNeg) < nI mm.2.2.1))) (next : ∀ (σ' : g_S) (H : Heap) (locs : List Loc) (ls : Array Slot), g_H D σ' H → va_S (g_A D) s.heap H locs → g_BS K Q o σ' mm mm → lv_has ls 7 [(0, .ref b), (1, .ref (K.2.2.1 0)), (2, .ref (Q 0)), (3, .ref o), (4, .int (nI i))] → W p l e room_1 s m #[Value.ref b] below meth c H locs (cells + 1) (slots + 6) (lw_Z below #[Value.ref b] s) (F0 m 582 ls [])) : W p l e room_1 s m #[Value.ref b] below meth c H locs (cells + 1) (slots + 6) (lw_Z below #[Value.ref b] s) (F0 m 487 ls [.int r]) := by
  obtain ⟨hx, hb, hml, hown, hts, hr, hlocks, hin⟩ := id C
  have w1 : vp_in (nI i + 1) L := by rw [show (1 : Int32) = nI 1 from rfl, nI_add]; exact vp_in_nI (by omega) (by omega)
  refine lv_istore (lv' := (5, .int r) :: [(0, .ref b), (1, .ref (K.2.2.1 0)), (2, .ref (Q 0)), (3, .ref o), (4, .int (nI i))]) hx hb dL_law_487 hl (by decide) rfl (fun ls hl => ?_)
  refine lv_aload_n hx hb dL_law_489 rfl (lv_at hl 3 rfl) ?_
  refine lv_aload_n hx hb dL_law_490 rfl (lv_at hl 1 rfl) ?_
  refine lv_iload hx hb dL_law_491 (lv_at hl 5 rfl) ?_
  refine lv_iconst (v := 1) hx hb dL_law_493 (by decide +kernel) ?_
  refine lv_iadd hx hb dL_law_494 ?_
  refine va_sld hx hb hX hbl hbA hS w1 dL_law_495 ?_
  obtain ⟨fsM, hoM⟩ := bs_M hA hB
  obtain ⟨σ2, e2, C2, e3⟩ := r_textAt hA.2.1 hB.2.1 (xs (nI i + 1).toNatClampNeg)
  obtain ⟨B2, z2⟩ := hB.ref hA C2
  obtain ⟨fsM2, hoM2⟩ := bs_M hA B2
  refine g_callV hx hb hml hl.1 hts hown hK hG hS (As := [.int (xs (nI i + 1).toNatClampNeg)]) (rest := []) (tX8_textAt l D e2) vX8_textAt mlL_64 hoM rfl rfl rfl rfl ⟨Nat.le_of_ble_eq_true rfl, Nat.le_of_ble_eq_true rfl⟩ rfl rfl (Nat.le_of_ble_eq_true rfl) ⟨by show cells + 1 ≤ 601024; omega, by show slots + 6 ≤ 7293034; omega⟩ dL_law_496 (fun H locs hG hS => ?_)
  refine lv_istore (lv' := (6, .int (if ¬ (xs (nI i + 1).toNatClampNeg) < 0 ∧ (xs (nI i + 1).toNatClampNeg) < nI mm.2.2.1 then nI (mm.2.2.2 (xs (nI i + 1).toNatClampNeg).toNatClampNeg) else 0)) :: (5, .int r) :: [(0, .ref b), (1, .ref (K.2.2.1 0)), (2, .ref (Q 0)), (3, .ref o), (4, .int (nI i))]) hx hb dL_law_499 hl (by decide) rfl (fun ls hl => ?_)
  refine lv_aload_n hx hb dL_law_501 rfl (lv_at hl 4 rfl) ?_
  refine g_callV hx hb hml hl.1 hts hown hK hG hS (As := []) (rest := []) (tX8_thrown l D e3) vX8_thrown mlL_65 hoM2 rfl rfl rfl rfl ⟨Nat.le_of_ble_eq_true rfl, Nat.le_of_ble_eq_true rfl⟩ rfl rfl (Nat.le_of_ble_eq_true rfl) ⟨by show cells + 1 ≤ 601024; omega, by show slots + 6 ≤ 7293034; omega⟩ dL_law_502 (fun H locs hG hS => ?_)
  refine lv_iload hx hb dL_law_505 (lv_at hl 1 rfl) ?_
  have fin : W p l e room_1 s m #[Value.ref b] below meth c H locs (cells + 1) (slots + 6) (lw_Z below #[Value.ref b] s) (F0 m 529 ls []) := by
    refine lv_goto (tgt := 582) hx hb dL_law_529 (by decide) ?_
    exact next _ _ _ _ hG hS B2 (lv_sub hl [2, 3, 4, 5, 6] rfl)
  rcases hr9 with ⟨r0, hcd, f, hf1, hf2⟩ | ⟨r1, hcd⟩
  · subst r0
    rw [if_pos hcd] at hl ⊢
    refine lv_icmp_eq (tgt := 512) hx hb dL_law_507 (by decide) (fun c9 => ?_) (fun c9 => absurd rfl c9)
    refine lv_iload hx hb dL_law_512 (lv_at hl 1 rfl) ?_
    refine lv_if_ne (tgt := 529) hx hb dL_law_514 (by decide) (fun c9 => absurd rfl c9) (fun c9 => ?_)
    refine lv_aload_n hx hb dL_law_517 rfl (lv_at hl 5 rfl) ?_
    refine lv_iconst (v := 0) hx hb dL_law_518 (by decide +kernel) ?_
    have hv : g_ll σ2 3 o 0 = some (nI (mm.2.2.2 (xs (nI i + 1).toNatClampNeg).toNatClampNeg)).toInt64 := by
      have h9 : σ2.1 o = some (.inl (3, 1, .inr (.inl f))) := by rw [(MS_frame C2).2 o hA.2.2.2.2]; exact hf1
      unfold g_ll
      rw [g_al_of h9, ← hf2]
      rfl
    refine g_lald hx hb hK hG hv rfl dL_law_519 ?_
    refine lv_iload hx hb dL_law_520 (lv_at hl 0 rfl) ?_
    refine lv_i2l (v := (nI (mm.2.2.2 (xs (nI i + 1).toNatClampNeg).toNatClampNeg)).toInt64) hx hb dL_law_522 rfl ?_
    refine W.lcmp hx hb dL_law_523 ?_
    refine lv_if_eq (tgt := 529) hx hb dL_law_524 (by decide) (fun c9 => fin) (fun c9 => absurd ((lg_cmp_eq _ _).mpr rfl) c9)
  · subst r1
    rw [if_neg hcd] at hl ⊢
    refine lv_icmp_eq (tgt := 512) hx hb dL_law_507 (by decide) (fun c9 => ?_) (fun c9 => absurd rfl c9)
    refine lv_iload hx hb dL_law_512 (lv_at hl 1 rfl) ?_
    exact lv_if_ne (tgt := 529) hx hb dL_law_514 (by decide) (fun c9 => fin) (fun c9 => absurd c9 (by decide))
set_option maxHeartbeats 4000000 in
set_option maxRecDepth 100000 in
theorem law_text {p : Program} {l : Launch} {e : Env} {s : State} {m : MethodId} {below : List Frame} {meth : Method} {c : Code} {b L : Nat} {xs : Nat → Int32} {D : g_D} {K : g_Q9} {Q : Nat → Nat} {o : Nat} (C : g_C RL cL_law 7 (some .boolean) True p s m #[Value.ref b] meth c) (hK : g_K D s) (hX : va_X b L xs s s.heap) (hbl : b < s.heap.size) (hbA : ¬ g_A D b) (hA : kA K Q o) (hL : L ≤ 3072) {i : Nat} (hi : i + 6 ≤ L) {cells slots : Nat} (hc : cells + 1 ≤ 601024) (hs : slots + 6 ≤ 7293034) {σ : g_S} {mm : g_M} {H : Heap} {locs : List Loc} {ls : Array Slot} (hG : g_H D σ H) (hS : va_S (g_A D) s.heap H locs) (hB : g_BS K Q o σ mm mm) (hl : lv_has ls 7 [(0, .ref b), (1, .ref (K.2.2.1 0)), (2, .ref (Q 0)), (3, .ref o), (4, .int (nI i))]) (hl0 : l.stackTraces = false) {sa : Nat} (hKX : g_KX D sa s) (next : ∀ (σ' : g_S) (H : Heap) (locs : List Loc) (ls : Array Slot), g_H D σ' H → va_S (g_A D) s.heap H locs → g_BS K Q o σ' mm mm → lv_has ls 7 [(0, .ref b), (1, .ref (K.2.2.1 0)), (2, .ref (Q 0)), (3, .ref o), (4, .int (nI i))] → W p l e room_1 s m #[Value.ref b] below meth c H locs (cells + 1) (slots + 6) (lw_Z below #[Value.ref b] s) (F0 m 582 ls [])) : W p l e room_1 s m #[Value.ref b] below meth c H locs cells slots (lw_Z below #[Value.ref b] s) (F0 m 476 ls []) := by
  obtain ⟨hx, hb, hml, hown, hts, hr, hlocks, hin⟩ := id C
  have w1 : vp_in (nI i + 1) L := by rw [show (1 : Int32) = nI 1 from rfl, nI_add]; exact vp_in_nI (by omega) (by omega)
  have hoC := bs_C hA hB
  refine lv_aload_n hx hb dL_law_476 rfl (lv_at hl 1 rfl) ?_
  refine lv_aload_n hx hb dL_law_477 rfl (lv_at hl 0 rfl) ?_
  refine lv_iload hx hb dL_law_478 (lv_at hl 4 rfl) ?_
  refine lv_iconst (v := 1) hx hb dL_law_480 (by decide +kernel) ?_
  refine lv_iadd hx hb dL_law_481 ?_
  refine va_sld hx hb hX hbl hbA hS w1 dL_law_482 ?_
  refine lv_aload_n hx hb dL_law_483 rfl (lv_at hl 3 rfl) ?_
  have e1 := c_textAt hA.1 hB.1 (xs (nI i + 1).toNatClampNeg)
  obtain ⟨f, hf⟩ := hB.2.2
  have hsl : ∀ v : Int64, g_sl σ 3 o 0 v = some (g_up σ o (.inl (3, 1, .inr (.inl (vp_updL f 0 v))))) := fun v => by
    unfold g_sl
    rw [g_al_of hf]
    rfl
  have hM := tL_textAt l hl0 D (sa := sa) (x2 := o) e1 hoC (fun v _ => ⟨_, hsl _⟩)
  have hcw : vx_CSW room_1 s #[Value.ref b] RL 59 yL_textAt cL_textAt 4 (some .int) [(0, 9, 12, 13)] (Cond.codeWith yL_textAt cL_textAt 4 (some .int) [(0, 9, 12, 13)] :: lw_g) rmL_textAt 1 6 3 := by
    refine ⟨⟨rfl, rfl, Nat.le_of_ble_eq_true rfl, Nat.le_of_ble_eq_true rfl, pay_in hts (g_goodC cwL_textAt), List.mem_cons_self⟩, hts _ cwL_textAt, hts _ inL, ⟨by decide +kernel, by decide +kernel⟩, fun sig h => ?_, hts _ mlL_59, hts _ stL_textAt⟩
    have h2 : (parseMethodDescriptor yL_textAt.desc).map (fun d => d.parameters.length) = some 3 := by decide +kernel
    rw [h] at h2
    exact (Option.some.inj h2).symm
  have hrun := vx_runSW (p := p) (l := l) (e := e) (below := below) (meth := meth) (c := c) (locs := locs) (cells := cells) (slots := slots) (rest := []) (g := F0 m 484 ls [.ref o, .int (xs (nI i + 1).toNatClampNeg), .ref (K.2.2.1 0)]) ⟨hx, hb, hml, hown, hts⟩ hM hcw (g_preX (As := [.ref (K.2.2.1 0), .int (xs (nI i + 1).toNatClampNeg), .ref o]) hK hKX hG hS) rfl rfl hl.1 rfl (lv_room (Nat.le_of_ble_eq_true rfl)) dL_law_484 ⟨by show cells + 1 ≤ 601024; omega, by show slots + 6 ≤ 7293034; omega⟩
  intro T hT X
  obtain ⟨v, st₀, t, T', Lx, h0, X', hLx, e4, e5, ⟨hq, hF⟩, st⟩ := hrun T hT X
  obtain ⟨k1, k2, k3⟩ := vx_keep h0 e4 hS (fun q _ h => h) (fun q h => h) hLx hF
  rcases hq with ⟨vv, σ', ho, hs9, hv, hg9⟩ | ⟨ho, hv, N, hg9⟩
  · cases hv
    have hcd : ¬ (xs (nI i + 1).toNatClampNeg) < 0 ∧ (xs (nI i + 1).toNatClampNeg) < nI mm.2.2.1 := by
      by_cases h : ¬ (xs (nI i + 1).toNatClampNeg) < 0 ∧ (xs (nI i + 1).toNatClampNeg) < nI mm.2.2.1
      · exact h
      · rw [if_neg h] at ho; cases ho
    rw [if_pos hcd] at ho
    cases ho
    rw [hsl] at hs9
    cases hs9
    have hG1 : g_H D (g_up σ o (.inl (3, 1, .inr (.inl (vp_updL f 0 (nI (mm.2.2.2 (xs (nI i + 1).toNatClampNeg).toNatClampNeg)).toInt64))))) T'.heap := by rw [e4]; exact hg9
    have B1 := hB.out hA (g_up_s σ o (.inl (3, 1, .inr (.inl (vp_updL f 0 (nI (mm.2.2.2 (xs (nI i + 1).toNatClampNeg).toNatClampNeg)).toInt64))))) (fun q hq => g_up_n _ _ hq)
    obtain ⟨t2, a1, b1⟩ := law_text2 (l := l) (e := e) (below := below) C hK hX hbl hbA hA hL hi hc hs hG1 k3 B1 hl 0 (Or.inl ⟨rfl, hcd, _, g_up_s _ _ _, if_pos rfl⟩) next T' rfl X'
    exact ⟨t2, st t2 a1, b1⟩
  · cases hv
    have hcd : ¬ (¬ (xs (nI i + 1).toNatClampNeg) < 0 ∧ (xs (nI i + 1).toNatClampNeg) < nI mm.2.2.1) := fun h => by rw [if_pos h] at ho; cases ho
    have hG1 : g_H D (σ.1, N) T'.heap := by rw [e4]; exact hg9
    have B1 : g_BS K Q o (σ.1, N) mm mm := hB.out hA (σ' := (σ.1, N)) hf (fun q _ => rfl)
    obtain ⟨t2, a1, b1⟩ := law_text2 (l := l) (e := e) (below := below) C hK hX hbl hbA hA hL hi hc hs hG1 k3 B1 hl 1 (Or.inr ⟨rfl, hcd⟩) next T' rfl X'
    exact ⟨t2, st t2 a1, b1⟩
