/-! the law: its cases (written by law.py) -/
theorem bs_C {K : g_Q9} {Q : Nat → Nat} {o : Nat} {σ : g_S} {m m' : g_M} (hA : kA K Q o) (hB : g_BS K Q o σ m m') : g_o σ 7 (K.2.2.1 0) = some [.ref (K.2.2.1 8), .ref (K.2.2.1 1), .ref (K.2.2.1 4), .ref (K.2.2.1 6)] := by
  obtain ⟨⟨y, v, S, V⟩, -, -⟩ := hB
  exact g_o_of (S.at hA.1 (i := 0) (by decide) (by decide))
theorem bs_M {K : g_Q9} {Q : Nat → Nat} {o : Nat} {σ : g_S} {m m' : g_M} (hA : kA K Q o) (hB : g_BS K Q o σ m m') : ∃ fs, g_o σ 8 (Q 0) = some fs := by
  obtain ⟨-, ⟨z, v, ⟨s, lf, h, -⟩, V⟩, -⟩ := hB
  rw [h]
  exact ⟨_, m_o hA.2.1⟩
set_option maxHeartbeats 4000000 in
set_option maxRecDepth 100000 in
theorem law_feed {p : Program} {l : Launch} {e : Env} {s : State} {m : MethodId} {below : List Frame} {meth : Method} {c : Code} {b L : Nat} {xs : Nat → Int32} {D : g_D} {K : g_Q9} {Q : Nat → Nat} {o : Nat} (C : g_C RL cL_law 7 (some .boolean) True p s m #[Value.ref b] meth c) (hK : g_K D s) (hX : va_X b L xs s s.heap) (hbl : b < s.heap.size) (hbA : ¬ g_A D b) (hA : kA K Q o) (hL : L ≤ 3072) {i : Nat} (hi : i + 6 ≤ L) {cells slots : Nat} (hc : cells + 1 ≤ 601024) (hs : slots + 6 ≤ 7293034) {σ : g_S} {mm : g_M} {H : Heap} {locs : List Loc} {ls : Array Slot} (hG : g_H D σ H) (hS : va_S (g_A D) s.heap H locs) (hB : g_BS K Q o σ mm mm) (hl : lv_has ls 7 [(0, .ref b), (1, .ref (K.2.2.1 0)), (2, .ref (Q 0)), (3, .ref o), (4, .int (nI i))]) (next : ∀ (σ' : g_S) (mm' : g_M) (H : Heap) (locs : List Loc), g_H D σ' H → va_S (g_A D) s.heap H locs → g_BS K Q o σ' mm' mm' → W p l e room_1 s m #[Value.ref b] below meth c H locs cells slots (lw_Z below #[Value.ref b] s) (F0 m 582 ls [])) : W p l e room_1 s m #[Value.ref b] below meth c H locs cells slots (lw_Z below #[Value.ref b] s) (F0 m 100 ls []) := by
  obtain ⟨hx, hb, hml, hown, hts, hr, hlocks, hin⟩ := id C
  have w1 : vp_in (nI i + 1) L := by rw [show (1 : Int32) = nI 1 from rfl, nI_add]; exact vp_in_nI (by omega) (by omega)
  have w2 : vp_in (nI i + 2) L := by rw [show (2 : Int32) = nI 2 from rfl, nI_add]; exact vp_in_nI (by omega) (by omega)
  have w3 : vp_in (nI i + 3) L := by rw [show (3 : Int32) = nI 3 from rfl, nI_add]; exact vp_in_nI (by omega) (by omega)
  have w4 : vp_in (nI i + 4) L := by rw [show (4 : Int32) = nI 4 from rfl, nI_add]; exact vp_in_nI (by omega) (by omega)
  have w5 : vp_in (nI i + 5) L := by rw [show (5 : Int32) = nI 5 from rfl, nI_add]; exact vp_in_nI (by omega) (by omega)
  have hoC := bs_C hA hB
  refine lv_aload_n hx hb dL_law_100 rfl (lv_at hl 1 rfl) ?_
  refine lv_aload_n hx hb dL_law_101 rfl (lv_at hl 0 rfl) ?_
  refine lv_iload hx hb dL_law_102 (lv_at hl 4 rfl) ?_
  refine lv_iconst (v := 1) hx hb dL_law_104 (by decide +kernel) ?_
  refine lv_iadd hx hb dL_law_105 ?_
  refine va_sld hx hb hX hbl hbA hS w1 dL_law_106 ?_
  refine lv_aload_n hx hb dL_law_107 rfl (lv_at hl 0 rfl) ?_
  refine lv_iload hx hb dL_law_108 (lv_at hl 4 rfl) ?_
  refine lv_iconst (v := 2) hx hb dL_law_110 (by decide +kernel) ?_
  refine lv_iadd hx hb dL_law_111 ?_
  refine va_sld hx hb hX hbl hbA hS w2 dL_law_112 ?_
  refine lv_aload_n hx hb dL_law_113 rfl (lv_at hl 0 rfl) ?_
  refine lv_iload hx hb dL_law_114 (lv_at hl 4 rfl) ?_
  refine lv_iconst (v := 3) hx hb dL_law_116 (by decide +kernel) ?_
  refine lv_iadd hx hb dL_law_117 ?_
  refine va_sld hx hb hX hbl hbA hS w3 dL_law_118 ?_
  refine lv_aload_n hx hb dL_law_119 rfl (lv_at hl 0 rfl) ?_
  refine lv_iload hx hb dL_law_120 (lv_at hl 4 rfl) ?_
  refine lv_iconst (v := 4) hx hb dL_law_122 (by decide +kernel) ?_
  refine lv_iadd hx hb dL_law_123 ?_
  refine va_sld hx hb hX hbl hbA hS w4 dL_law_124 ?_
  refine lv_aload_n hx hb dL_law_125 rfl (lv_at hl 0 rfl) ?_
  refine lv_iload hx hb dL_law_126 (lv_at hl 4 rfl) ?_
  refine lv_iconst (v := 5) hx hb dL_law_128 (by decide +kernel) ?_
  refine lv_iadd hx hb dL_law_129 ?_
  refine va_sld hx hb hX hbl hbA hS w5 dL_law_130 ?_
  obtain ⟨σ1, e1, C1⟩ := c_feed hA.1 hB.1 (xs (nI i + 1).toNatClampNeg) (xs (nI i + 2).toNatClampNeg) (xs (nI i + 3).toNatClampNeg) (xs (nI i + 4).toNatClampNeg) (xs (nI i + 5).toNatClampNeg)
  obtain ⟨B1, z1⟩ := hB.cls hA C1
  refine g_callV hx hb hml hl.1 hts hown hK hG hS (As := [.int (xs (nI i + 1).toNatClampNeg), .int (xs (nI i + 2).toNatClampNeg), .int (xs (nI i + 3).toNatClampNeg), .int (xs (nI i + 4).toNatClampNeg), .int (xs (nI i + 5).toNatClampNeg)]) (rest := []) (tX7_feed l D e1) vX7_feed mlL_19 hoC rfl rfl rfl rfl ⟨Nat.le_of_ble_eq_true rfl, Nat.le_of_ble_eq_true rfl⟩ rfl rfl (Nat.le_of_ble_eq_true rfl) ⟨by show cells ≤ 601024; omega, by show slots ≤ 7293034; omega⟩ dL_law_131 (fun H locs hG hS => ?_)
  obtain ⟨fsM, hoM⟩ := bs_M hA B1
  refine lv_aload_n hx hb dL_law_134 rfl (lv_at hl 2 rfl) ?_
  refine lv_aload_n hx hb dL_law_135 rfl (lv_at hl 0 rfl) ?_
  refine lv_iload hx hb dL_law_136 (lv_at hl 4 rfl) ?_
  refine lv_iconst (v := 1) hx hb dL_law_138 (by decide +kernel) ?_
  refine lv_iadd hx hb dL_law_139 ?_
  refine va_sld hx hb hX hbl hbA hS w1 dL_law_140 ?_
  refine lv_aload_n hx hb dL_law_141 rfl (lv_at hl 0 rfl) ?_
  refine lv_iload hx hb dL_law_142 (lv_at hl 4 rfl) ?_
  refine lv_iconst (v := 2) hx hb dL_law_144 (by decide +kernel) ?_
  refine lv_iadd hx hb dL_law_145 ?_
  refine va_sld hx hb hX hbl hbA hS w2 dL_law_146 ?_
  refine lv_aload_n hx hb dL_law_147 rfl (lv_at hl 0 rfl) ?_
  refine lv_iload hx hb dL_law_148 (lv_at hl 4 rfl) ?_
  refine lv_iconst (v := 3) hx hb dL_law_150 (by decide +kernel) ?_
  refine lv_iadd hx hb dL_law_151 ?_
  refine va_sld hx hb hX hbl hbA hS w3 dL_law_152 ?_
  refine lv_aload_n hx hb dL_law_153 rfl (lv_at hl 0 rfl) ?_
  refine lv_iload hx hb dL_law_154 (lv_at hl 4 rfl) ?_
  refine lv_iconst (v := 4) hx hb dL_law_156 (by decide +kernel) ?_
  refine lv_iadd hx hb dL_law_157 ?_
  refine va_sld hx hb hX hbl hbA hS w4 dL_law_158 ?_
  refine lv_aload_n hx hb dL_law_159 rfl (lv_at hl 0 rfl) ?_
  refine lv_iload hx hb dL_law_160 (lv_at hl 4 rfl) ?_
  refine lv_iconst (v := 5) hx hb dL_law_162 (by decide +kernel) ?_
  refine lv_iadd hx hb dL_law_163 ?_
  refine va_sld hx hb hX hbl hbA hS w5 dL_law_164 ?_
  obtain ⟨σ2, e2, C2⟩ := r_feed hA.2.1 B1.2.1 (xs (nI i + 1).toNatClampNeg) (xs (nI i + 2).toNatClampNeg) (xs (nI i + 3).toNatClampNeg) (xs (nI i + 4).toNatClampNeg) (xs (nI i + 5).toNatClampNeg)
  obtain ⟨B2, z2⟩ := B1.ref hA C2
  refine g_callV hx hb hml hl.1 hts hown hK hG hS (As := [.int (xs (nI i + 1).toNatClampNeg), .int (xs (nI i + 2).toNatClampNeg), .int (xs (nI i + 3).toNatClampNeg), .int (xs (nI i + 4).toNatClampNeg), .int (xs (nI i + 5).toNatClampNeg)]) (rest := [.int (mFeed mm (xs (nI i + 1).toNatClampNeg) (xs (nI i + 2).toNatClampNeg) (xs (nI i + 3).toNatClampNeg) (xs (nI i + 4).toNatClampNeg) (xs (nI i + 5).toNatClampNeg)).1]) (tX8_feed l D e2) vX8_feed mlL_23 hoM rfl rfl rfl rfl ⟨Nat.le_of_ble_eq_true rfl, Nat.le_of_ble_eq_true rfl⟩ rfl rfl (Nat.le_of_ble_eq_true rfl) ⟨by show cells ≤ 601024; omega, by show slots ≤ 7293034; omega⟩ dL_law_165 (fun H locs hG hS => ?_)
  refine lv_icmp_eq (tgt := 582) hx hb dL_law_168 (by decide) (fun c9 => ?_) (fun c9 => absurd rfl c9)
  exact next _ _ _ _ hG hS B2
set_option maxHeartbeats 4000000 in
set_option maxRecDepth 100000 in
theorem law_end {p : Program} {l : Launch} {e : Env} {s : State} {m : MethodId} {below : List Frame} {meth : Method} {c : Code} {b L : Nat} {xs : Nat → Int32} {D : g_D} {K : g_Q9} {Q : Nat → Nat} {o : Nat} (C : g_C RL cL_law 7 (some .boolean) True p s m #[Value.ref b] meth c) (hK : g_K D s) (hX : va_X b L xs s s.heap) (hbl : b < s.heap.size) (hbA : ¬ g_A D b) (hA : kA K Q o) (hL : L ≤ 3072) {i : Nat} (hi : i + 6 ≤ L) {cells slots : Nat} (hc : cells + 1 ≤ 601024) (hs : slots + 6 ≤ 7293034) {σ : g_S} {mm : g_M} {H : Heap} {locs : List Loc} {ls : Array Slot} (hG : g_H D σ H) (hS : va_S (g_A D) s.heap H locs) (hB : g_BS K Q o σ mm mm) (hl : lv_has ls 7 [(0, .ref b), (1, .ref (K.2.2.1 0)), (2, .ref (Q 0)), (3, .ref o), (4, .int (nI i))]) (next : ∀ (σ' : g_S) (mm' : g_M) (H : Heap) (locs : List Loc), g_H D σ' H → va_S (g_A D) s.heap H locs → g_BS K Q o σ' mm' mm' → W p l e room_1 s m #[Value.ref b] below meth c H locs cells slots (lw_Z below #[Value.ref b] s) (F0 m 582 ls [])) : W p l e room_1 s m #[Value.ref b] below meth c H locs cells slots (lw_Z below #[Value.ref b] s) (F0 m 173 ls []) := by
  obtain ⟨hx, hb, hml, hown, hts, hr, hlocks, hin⟩ := id C
  have w1 : vp_in (nI i + 1) L := by rw [show (1 : Int32) = nI 1 from rfl, nI_add]; exact vp_in_nI (by omega) (by omega)
  have w2 : vp_in (nI i + 2) L := by rw [show (2 : Int32) = nI 2 from rfl, nI_add]; exact vp_in_nI (by omega) (by omega)
  have w3 : vp_in (nI i + 3) L := by rw [show (3 : Int32) = nI 3 from rfl, nI_add]; exact vp_in_nI (by omega) (by omega)
  have w4 : vp_in (nI i + 4) L := by rw [show (4 : Int32) = nI 4 from rfl, nI_add]; exact vp_in_nI (by omega) (by omega)
  have w5 : vp_in (nI i + 5) L := by rw [show (5 : Int32) = nI 5 from rfl, nI_add]; exact vp_in_nI (by omega) (by omega)
  have hoC := bs_C hA hB
  refine lv_aload_n hx hb dL_law_173 rfl (lv_at hl 1 rfl) ?_
  refine lv_aload_n hx hb dL_law_174 rfl (lv_at hl 0 rfl) ?_
  refine lv_iload hx hb dL_law_175 (lv_at hl 4 rfl) ?_
  refine lv_iconst (v := 1) hx hb dL_law_177 (by decide +kernel) ?_
  refine lv_iadd hx hb dL_law_178 ?_
  refine va_sld hx hb hX hbl hbA hS w1 dL_law_179 ?_
  obtain ⟨σ1, e1, C1⟩ := c_end hA.1 hB.1 (xs (nI i + 1).toNatClampNeg)
  obtain ⟨B1, z1⟩ := hB.cls hA C1
  refine g_callV hx hb hml hl.1 hts hown hK hG hS (As := [.int (xs (nI i + 1).toNatClampNeg)]) (rest := []) (tX7_end l D e1) vX7_end mlL_24 hoC rfl rfl rfl rfl ⟨Nat.le_of_ble_eq_true rfl, Nat.le_of_ble_eq_true rfl⟩ rfl rfl (Nat.le_of_ble_eq_true rfl) ⟨by show cells ≤ 601024; omega, by show slots ≤ 7293034; omega⟩ dL_law_180 (fun H locs hG hS => ?_)
  obtain ⟨fsM, hoM⟩ := bs_M hA B1
  refine lv_aload_n hx hb dL_law_183 rfl (lv_at hl 2 rfl) ?_
  refine lv_aload_n hx hb dL_law_184 rfl (lv_at hl 0 rfl) ?_
  refine lv_iload hx hb dL_law_185 (lv_at hl 4 rfl) ?_
  refine lv_iconst (v := 1) hx hb dL_law_187 (by decide +kernel) ?_
  refine lv_iadd hx hb dL_law_188 ?_
  refine va_sld hx hb hX hbl hbA hS w1 dL_law_189 ?_
  obtain ⟨σ2, e2, C2⟩ := r_end hA.2.1 B1.2.1 (xs (nI i + 1).toNatClampNeg)
  obtain ⟨B2, z2⟩ := B1.ref hA C2
  refine g_callV hx hb hml hl.1 hts hown hK hG hS (As := [.int (xs (nI i + 1).toNatClampNeg)]) (rest := [.int (mEnd mm (xs (nI i + 1).toNatClampNeg)).1]) (tX8_end l D e2) vX8_end mlL_28 hoM rfl rfl rfl rfl ⟨Nat.le_of_ble_eq_true rfl, Nat.le_of_ble_eq_true rfl⟩ rfl rfl (Nat.le_of_ble_eq_true rfl) ⟨by show cells ≤ 601024; omega, by show slots ≤ 7293034; omega⟩ dL_law_190 (fun H locs hG hS => ?_)
  refine lv_icmp_eq (tgt := 582) hx hb dL_law_193 (by decide) (fun c9 => ?_) (fun c9 => absurd rfl c9)
  exact next _ _ _ _ hG hS B2
set_option maxHeartbeats 4000000 in
set_option maxRecDepth 100000 in
theorem law_read {p : Program} {l : Launch} {e : Env} {s : State} {m : MethodId} {below : List Frame} {meth : Method} {c : Code} {b L : Nat} {xs : Nat → Int32} {D : g_D} {K : g_Q9} {Q : Nat → Nat} {o : Nat} (C : g_C RL cL_law 7 (some .boolean) True p s m #[Value.ref b] meth c) (hK : g_K D s) (hX : va_X b L xs s s.heap) (hbl : b < s.heap.size) (hbA : ¬ g_A D b) (hA : kA K Q o) (hL : L ≤ 3072) {i : Nat} (hi : i + 6 ≤ L) {cells slots : Nat} (hc : cells + 1 ≤ 601024) (hs : slots + 6 ≤ 7293034) {σ : g_S} {mm : g_M} {H : Heap} {locs : List Loc} {ls : Array Slot} (hG : g_H D σ H) (hS : va_S (g_A D) s.heap H locs) (hB : g_BS K Q o σ mm mm) (hl : lv_has ls 7 [(0, .ref b), (1, .ref (K.2.2.1 0)), (2, .ref (Q 0)), (3, .ref o), (4, .int (nI i))]) (next : ∀ (σ' : g_S) (mm' : g_M) (H : Heap) (locs : List Loc), g_H D σ' H → va_S (g_A D) s.heap H locs → g_BS K Q o σ' mm' mm' → W p l e room_1 s m #[Value.ref b] below meth c H locs cells slots (lw_Z below #[Value.ref b] s) (F0 m 582 ls [])) : W p l e room_1 s m #[Value.ref b] below meth c H locs cells slots (lw_Z below #[Value.ref b] s) (F0 m 198 ls []) := by
  obtain ⟨hx, hb, hml, hown, hts, hr, hlocks, hin⟩ := id C
  have w1 : vp_in (nI i + 1) L := by rw [show (1 : Int32) = nI 1 from rfl, nI_add]; exact vp_in_nI (by omega) (by omega)
  have w2 : vp_in (nI i + 2) L := by rw [show (2 : Int32) = nI 2 from rfl, nI_add]; exact vp_in_nI (by omega) (by omega)
  have w3 : vp_in (nI i + 3) L := by rw [show (3 : Int32) = nI 3 from rfl, nI_add]; exact vp_in_nI (by omega) (by omega)
  have w4 : vp_in (nI i + 4) L := by rw [show (4 : Int32) = nI 4 from rfl, nI_add]; exact vp_in_nI (by omega) (by omega)
  have w5 : vp_in (nI i + 5) L := by rw [show (5 : Int32) = nI 5 from rfl, nI_add]; exact vp_in_nI (by omega) (by omega)
  have hoC := bs_C hA hB
  refine lv_aload_n hx hb dL_law_198 rfl (lv_at hl 1 rfl) ?_
  refine lv_aload_n hx hb dL_law_199 rfl (lv_at hl 0 rfl) ?_
  refine lv_iload hx hb dL_law_200 (lv_at hl 4 rfl) ?_
  refine lv_iconst (v := 1) hx hb dL_law_202 (by decide +kernel) ?_
  refine lv_iadd hx hb dL_law_203 ?_
  refine va_sld hx hb hX hbl hbA hS w1 dL_law_204 ?_
  obtain ⟨σ1, e1, C1⟩ := c_read hA.1 hB.1 (xs (nI i + 1).toNatClampNeg)
  obtain ⟨B1, z1⟩ := hB.cls hA C1
  refine g_callV hx hb hml hl.1 hts hown hK hG hS (As := [.int (xs (nI i + 1).toNatClampNeg)]) (rest := []) (tX7_read l D e1) vX7_read mlL_29 hoC rfl rfl rfl rfl ⟨Nat.le_of_ble_eq_true rfl, Nat.le_of_ble_eq_true rfl⟩ rfl rfl (Nat.le_of_ble_eq_true rfl) ⟨by show cells ≤ 601024; omega, by show slots ≤ 7293034; omega⟩ dL_law_205 (fun H locs hG hS => ?_)
  obtain ⟨fsM, hoM⟩ := bs_M hA B1
  refine lv_aload_n hx hb dL_law_208 rfl (lv_at hl 2 rfl) ?_
  refine lv_aload_n hx hb dL_law_209 rfl (lv_at hl 0 rfl) ?_
  refine lv_iload hx hb dL_law_210 (lv_at hl 4 rfl) ?_
  refine lv_iconst (v := 1) hx hb dL_law_212 (by decide +kernel) ?_
  refine lv_iadd hx hb dL_law_213 ?_
  refine va_sld hx hb hX hbl hbA hS w1 dL_law_214 ?_
  obtain ⟨σ2, e2, C2⟩ := r_read hA.2.1 B1.2.1 (xs (nI i + 1).toNatClampNeg)
  obtain ⟨B2, z2⟩ := B1.ref hA C2
  refine g_callV hx hb hml hl.1 hts hown hK hG hS (As := [.int (xs (nI i + 1).toNatClampNeg)]) (rest := [.int (mRead mm (xs (nI i + 1).toNatClampNeg)).1]) (tX8_read l D e2) vX8_read mlL_32 hoM rfl rfl rfl rfl ⟨Nat.le_of_ble_eq_true rfl, Nat.le_of_ble_eq_true rfl⟩ rfl rfl (Nat.le_of_ble_eq_true rfl) ⟨by show cells ≤ 601024; omega, by show slots ≤ 7293034; omega⟩ dL_law_215 (fun H locs hG hS => ?_)
  refine lv_icmp_eq (tgt := 582) hx hb dL_law_218 (by decide) (fun c9 => ?_) (fun c9 => absurd rfl c9)
  exact next _ _ _ _ hG hS B2
set_option maxHeartbeats 4000000 in
set_option maxRecDepth 100000 in
theorem law_reckon {p : Program} {l : Launch} {e : Env} {s : State} {m : MethodId} {below : List Frame} {meth : Method} {c : Code} {b L : Nat} {xs : Nat → Int32} {D : g_D} {K : g_Q9} {Q : Nat → Nat} {o : Nat} (C : g_C RL cL_law 7 (some .boolean) True p s m #[Value.ref b] meth c) (hK : g_K D s) (hX : va_X b L xs s s.heap) (hbl : b < s.heap.size) (hbA : ¬ g_A D b) (hA : kA K Q o) (hL : L ≤ 3072) {i : Nat} (hi : i + 6 ≤ L) {cells slots : Nat} (hc : cells + 1 ≤ 601024) (hs : slots + 6 ≤ 7293034) {σ : g_S} {mm : g_M} {H : Heap} {locs : List Loc} {ls : Array Slot} (hG : g_H D σ H) (hS : va_S (g_A D) s.heap H locs) (hB : g_BS K Q o σ mm mm) (hl : lv_has ls 7 [(0, .ref b), (1, .ref (K.2.2.1 0)), (2, .ref (Q 0)), (3, .ref o), (4, .int (nI i))]) (next : ∀ (σ' : g_S) (mm' : g_M) (H : Heap) (locs : List Loc), g_H D σ' H → va_S (g_A D) s.heap H locs → g_BS K Q o σ' mm' mm' → W p l e room_1 s m #[Value.ref b] below meth c H locs cells slots (lw_Z below #[Value.ref b] s) (F0 m 582 ls [])) : W p l e room_1 s m #[Value.ref b] below meth c H locs cells slots (lw_Z below #[Value.ref b] s) (F0 m 292 ls []) := by
  obtain ⟨hx, hb, hml, hown, hts, hr, hlocks, hin⟩ := id C
  have w1 : vp_in (nI i + 1) L := by rw [show (1 : Int32) = nI 1 from rfl, nI_add]; exact vp_in_nI (by omega) (by omega)
  have w2 : vp_in (nI i + 2) L := by rw [show (2 : Int32) = nI 2 from rfl, nI_add]; exact vp_in_nI (by omega) (by omega)
  have w3 : vp_in (nI i + 3) L := by rw [show (3 : Int32) = nI 3 from rfl, nI_add]; exact vp_in_nI (by omega) (by omega)
  have w4 : vp_in (nI i + 4) L := by rw [show (4 : Int32) = nI 4 from rfl, nI_add]; exact vp_in_nI (by omega) (by omega)
  have w5 : vp_in (nI i + 5) L := by rw [show (5 : Int32) = nI 5 from rfl, nI_add]; exact vp_in_nI (by omega) (by omega)
  have hoC := bs_C hA hB
  refine lv_aload_n hx hb dL_law_292 rfl (lv_at hl 1 rfl) ?_
  refine lv_aload_n hx hb dL_law_293 rfl (lv_at hl 0 rfl) ?_
  refine lv_iload hx hb dL_law_294 (lv_at hl 4 rfl) ?_
  refine lv_iconst (v := 1) hx hb dL_law_296 (by decide +kernel) ?_
  refine lv_iadd hx hb dL_law_297 ?_
  refine va_sld hx hb hX hbl hbA hS w1 dL_law_298 ?_
  refine lv_aload_n hx hb dL_law_299 rfl (lv_at hl 0 rfl) ?_
  refine lv_iload hx hb dL_law_300 (lv_at hl 4 rfl) ?_
  refine lv_iconst (v := 2) hx hb dL_law_302 (by decide +kernel) ?_
  refine lv_iadd hx hb dL_law_303 ?_
  refine va_sld hx hb hX hbl hbA hS w2 dL_law_304 ?_
  refine lv_aload_n hx hb dL_law_305 rfl (lv_at hl 0 rfl) ?_
  refine lv_iload hx hb dL_law_306 (lv_at hl 4 rfl) ?_
  refine lv_iconst (v := 3) hx hb dL_law_308 (by decide +kernel) ?_
  refine lv_iadd hx hb dL_law_309 ?_
  refine va_sld hx hb hX hbl hbA hS w3 dL_law_310 ?_
  refine lv_aload_n hx hb dL_law_311 rfl (lv_at hl 0 rfl) ?_
  refine lv_iload hx hb dL_law_312 (lv_at hl 4 rfl) ?_
  refine lv_iconst (v := 4) hx hb dL_law_314 (by decide +kernel) ?_
  refine lv_iadd hx hb dL_law_315 ?_
  refine va_sld hx hb hX hbl hbA hS w4 dL_law_316 ?_
  obtain ⟨σ1, e1, C1⟩ := c_reckon hA.1 hB.1 (xs (nI i + 1).toNatClampNeg) (xs (nI i + 2).toNatClampNeg) (xs (nI i + 3).toNatClampNeg) (xs (nI i + 4).toNatClampNeg)
  obtain ⟨B1, z1⟩ := hB.cls hA C1
  refine g_callV hx hb hml hl.1 hts hown hK hG hS (As := [.int (xs (nI i + 1).toNatClampNeg), .int (xs (nI i + 2).toNatClampNeg), .int (xs (nI i + 3).toNatClampNeg), .int (xs (nI i + 4).toNatClampNeg)]) (rest := []) (tX7_reckon l D e1) vX7_reckon mlL_40 hoC rfl rfl rfl rfl ⟨Nat.le_of_ble_eq_true rfl, Nat.le_of_ble_eq_true rfl⟩ rfl rfl (Nat.le_of_ble_eq_true rfl) ⟨by show cells ≤ 601024; omega, by show slots ≤ 7293034; omega⟩ dL_law_317 (fun H locs hG hS => ?_)
  obtain ⟨fsM, hoM⟩ := bs_M hA B1
  refine lv_aload_n hx hb dL_law_320 rfl (lv_at hl 2 rfl) ?_
  refine lv_aload_n hx hb dL_law_321 rfl (lv_at hl 0 rfl) ?_
  refine lv_iload hx hb dL_law_322 (lv_at hl 4 rfl) ?_
  refine lv_iconst (v := 1) hx hb dL_law_324 (by decide +kernel) ?_
  refine lv_iadd hx hb dL_law_325 ?_
  refine va_sld hx hb hX hbl hbA hS w1 dL_law_326 ?_
  refine lv_aload_n hx hb dL_law_327 rfl (lv_at hl 0 rfl) ?_
  refine lv_iload hx hb dL_law_328 (lv_at hl 4 rfl) ?_
  refine lv_iconst (v := 2) hx hb dL_law_330 (by decide +kernel) ?_
  refine lv_iadd hx hb dL_law_331 ?_
  refine va_sld hx hb hX hbl hbA hS w2 dL_law_332 ?_
  refine lv_aload_n hx hb dL_law_333 rfl (lv_at hl 0 rfl) ?_
  refine lv_iload hx hb dL_law_334 (lv_at hl 4 rfl) ?_
  refine lv_iconst (v := 3) hx hb dL_law_336 (by decide +kernel) ?_
  refine lv_iadd hx hb dL_law_337 ?_
  refine va_sld hx hb hX hbl hbA hS w3 dL_law_338 ?_
  refine lv_aload_n hx hb dL_law_339 rfl (lv_at hl 0 rfl) ?_
  refine lv_iload hx hb dL_law_340 (lv_at hl 4 rfl) ?_
  refine lv_iconst (v := 4) hx hb dL_law_342 (by decide +kernel) ?_
  refine lv_iadd hx hb dL_law_343 ?_
  refine va_sld hx hb hX hbl hbA hS w4 dL_law_344 ?_
  obtain ⟨σ2, e2, C2⟩ := r_reckon hA.2.1 B1.2.1 (xs (nI i + 1).toNatClampNeg) (xs (nI i + 2).toNatClampNeg) (xs (nI i + 3).toNatClampNeg) (xs (nI i + 4).toNatClampNeg)
  obtain ⟨B2, z2⟩ := B1.ref hA C2
  refine g_callV hx hb hml hl.1 hts hown hK hG hS (As := [.int (xs (nI i + 1).toNatClampNeg), .int (xs (nI i + 2).toNatClampNeg), .int (xs (nI i + 3).toNatClampNeg), .int (xs (nI i + 4).toNatClampNeg)]) (rest := [.int (mReckon mm (xs (nI i + 1).toNatClampNeg) (xs (nI i + 2).toNatClampNeg) (xs (nI i + 3).toNatClampNeg) (xs (nI i + 4).toNatClampNeg)).1]) (tX8_reckon l D e2) vX8_reckon mlL_44 hoM rfl rfl rfl rfl ⟨Nat.le_of_ble_eq_true rfl, Nat.le_of_ble_eq_true rfl⟩ rfl rfl (Nat.le_of_ble_eq_true rfl) ⟨by show cells ≤ 601024; omega, by show slots ≤ 7293034; omega⟩ dL_law_345 (fun H locs hG hS => ?_)
  refine lv_icmp_eq (tgt := 582) hx hb dL_law_348 (by decide) (fun c9 => ?_) (fun c9 => absurd rfl c9)
  exact next _ _ _ _ hG hS B2
set_option maxHeartbeats 4000000 in
set_option maxRecDepth 100000 in
theorem law_round {p : Program} {l : Launch} {e : Env} {s : State} {m : MethodId} {below : List Frame} {meth : Method} {c : Code} {b L : Nat} {xs : Nat → Int32} {D : g_D} {K : g_Q9} {Q : Nat → Nat} {o : Nat} (C : g_C RL cL_law 7 (some .boolean) True p s m #[Value.ref b] meth c) (hK : g_K D s) (hX : va_X b L xs s s.heap) (hbl : b < s.heap.size) (hbA : ¬ g_A D b) (hA : kA K Q o) (hL : L ≤ 3072) {i : Nat} (hi : i + 6 ≤ L) {cells slots : Nat} (hc : cells + 1 ≤ 601024) (hs : slots + 6 ≤ 7293034) {σ : g_S} {mm : g_M} {H : Heap} {locs : List Loc} {ls : Array Slot} (hG : g_H D σ H) (hS : va_S (g_A D) s.heap H locs) (hB : g_BS K Q o σ mm mm) (hl : lv_has ls 7 [(0, .ref b), (1, .ref (K.2.2.1 0)), (2, .ref (Q 0)), (3, .ref o), (4, .int (nI i))]) (next : ∀ (σ' : g_S) (mm' : g_M) (H : Heap) (locs : List Loc), g_H D σ' H → va_S (g_A D) s.heap H locs → g_BS K Q o σ' mm' mm' → W p l e room_1 s m #[Value.ref b] below meth c H locs cells slots (lw_Z below #[Value.ref b] s) (F0 m 582 ls [])) : W p l e room_1 s m #[Value.ref b] below meth c H locs cells slots (lw_Z below #[Value.ref b] s) (F0 m 353 ls []) := by
  obtain ⟨hx, hb, hml, hown, hts, hr, hlocks, hin⟩ := id C
  have w1 : vp_in (nI i + 1) L := by rw [show (1 : Int32) = nI 1 from rfl, nI_add]; exact vp_in_nI (by omega) (by omega)
  have w2 : vp_in (nI i + 2) L := by rw [show (2 : Int32) = nI 2 from rfl, nI_add]; exact vp_in_nI (by omega) (by omega)
  have w3 : vp_in (nI i + 3) L := by rw [show (3 : Int32) = nI 3 from rfl, nI_add]; exact vp_in_nI (by omega) (by omega)
  have w4 : vp_in (nI i + 4) L := by rw [show (4 : Int32) = nI 4 from rfl, nI_add]; exact vp_in_nI (by omega) (by omega)
  have w5 : vp_in (nI i + 5) L := by rw [show (5 : Int32) = nI 5 from rfl, nI_add]; exact vp_in_nI (by omega) (by omega)
  have hoC := bs_C hA hB
  refine lv_aload_n hx hb dL_law_353 rfl (lv_at hl 1 rfl) ?_
  refine lv_aload_n hx hb dL_law_354 rfl (lv_at hl 0 rfl) ?_
  refine lv_iload hx hb dL_law_355 (lv_at hl 4 rfl) ?_
  refine lv_iconst (v := 1) hx hb dL_law_357 (by decide +kernel) ?_
  refine lv_iadd hx hb dL_law_358 ?_
  refine va_sld hx hb hX hbl hbA hS w1 dL_law_359 ?_
  refine lv_aload_n hx hb dL_law_360 rfl (lv_at hl 0 rfl) ?_
  refine lv_iload hx hb dL_law_361 (lv_at hl 4 rfl) ?_
  refine lv_iconst (v := 2) hx hb dL_law_363 (by decide +kernel) ?_
  refine lv_iadd hx hb dL_law_364 ?_
  refine va_sld hx hb hX hbl hbA hS w2 dL_law_365 ?_
  refine lv_aload_n hx hb dL_law_366 rfl (lv_at hl 0 rfl) ?_
  refine lv_iload hx hb dL_law_367 (lv_at hl 4 rfl) ?_
  refine lv_iconst (v := 3) hx hb dL_law_369 (by decide +kernel) ?_
  refine lv_iadd hx hb dL_law_370 ?_
  refine va_sld hx hb hX hbl hbA hS w3 dL_law_371 ?_
  obtain ⟨σ1, e1, C1⟩ := c_round hA.1 hB.1 (xs (nI i + 1).toNatClampNeg) (xs (nI i + 2).toNatClampNeg) (xs (nI i + 3).toNatClampNeg)
  obtain ⟨B1, z1⟩ := hB.cls hA C1
  refine g_callV hx hb hml hl.1 hts hown hK hG hS (As := [.int (xs (nI i + 1).toNatClampNeg), .int (xs (nI i + 2).toNatClampNeg), .int (xs (nI i + 3).toNatClampNeg)]) (rest := []) (tX7_round l D e1) vX7_round mlL_45 hoC rfl rfl rfl rfl ⟨Nat.le_of_ble_eq_true rfl, Nat.le_of_ble_eq_true rfl⟩ rfl rfl (Nat.le_of_ble_eq_true rfl) ⟨by show cells ≤ 601024; omega, by show slots ≤ 7293034; omega⟩ dL_law_372 (fun H locs hG hS => ?_)
  obtain ⟨fsM, hoM⟩ := bs_M hA B1
  refine lv_aload_n hx hb dL_law_375 rfl (lv_at hl 2 rfl) ?_
  refine lv_aload_n hx hb dL_law_376 rfl (lv_at hl 0 rfl) ?_
  refine lv_iload hx hb dL_law_377 (lv_at hl 4 rfl) ?_
  refine lv_iconst (v := 1) hx hb dL_law_379 (by decide +kernel) ?_
  refine lv_iadd hx hb dL_law_380 ?_
  refine va_sld hx hb hX hbl hbA hS w1 dL_law_381 ?_
  refine lv_aload_n hx hb dL_law_382 rfl (lv_at hl 0 rfl) ?_
  refine lv_iload hx hb dL_law_383 (lv_at hl 4 rfl) ?_
  refine lv_iconst (v := 2) hx hb dL_law_385 (by decide +kernel) ?_
  refine lv_iadd hx hb dL_law_386 ?_
  refine va_sld hx hb hX hbl hbA hS w2 dL_law_387 ?_
  refine lv_aload_n hx hb dL_law_388 rfl (lv_at hl 0 rfl) ?_
  refine lv_iload hx hb dL_law_389 (lv_at hl 4 rfl) ?_
  refine lv_iconst (v := 3) hx hb dL_law_391 (by decide +kernel) ?_
  refine lv_iadd hx hb dL_law_392 ?_
  refine va_sld hx hb hX hbl hbA hS w3 dL_law_393 ?_
  obtain ⟨σ2, e2, C2⟩ := r_round hA.2.1 B1.2.1 (xs (nI i + 1).toNatClampNeg) (xs (nI i + 2).toNatClampNeg) (xs (nI i + 3).toNatClampNeg)
  obtain ⟨B2, z2⟩ := B1.ref hA C2
  refine g_callV hx hb hml hl.1 hts hown hK hG hS (As := [.int (xs (nI i + 1).toNatClampNeg), .int (xs (nI i + 2).toNatClampNeg), .int (xs (nI i + 3).toNatClampNeg)]) (rest := [.int (mRound mm (xs (nI i + 1).toNatClampNeg) (xs (nI i + 2).toNatClampNeg) (xs (nI i + 3).toNatClampNeg)).1]) (tX8_round l D e2) vX8_round mlL_49 hoM rfl rfl rfl rfl ⟨Nat.le_of_ble_eq_true rfl, Nat.le_of_ble_eq_true rfl⟩ rfl rfl (Nat.le_of_ble_eq_true rfl) ⟨by show cells ≤ 601024; omega, by show slots ≤ 7293034; omega⟩ dL_law_394 (fun H locs hG hS => ?_)
  refine lv_icmp_eq (tgt := 582) hx hb dL_law_397 (by decide) (fun c9 => ?_) (fun c9 => absurd rfl c9)
  exact next _ _ _ _ hG hS B2
set_option maxHeartbeats 4000000 in
set_option maxRecDepth 100000 in
theorem law_compare {p : Program} {l : Launch} {e : Env} {s : State} {m : MethodId} {below : List Frame} {meth : Method} {c : Code} {b L : Nat} {xs : Nat → Int32} {D : g_D} {K : g_Q9} {Q : Nat → Nat} {o : Nat} (C : g_C RL cL_law 7 (some .boolean) True p s m #[Value.ref b] meth c) (hK : g_K D s) (hX : va_X b L xs s s.heap) (hbl : b < s.heap.size) (hbA : ¬ g_A D b) (hA : kA K Q o) (hL : L ≤ 3072) {i : Nat} (hi : i + 6 ≤ L) {cells slots : Nat} (hc : cells + 1 ≤ 601024) (hs : slots + 6 ≤ 7293034) {σ : g_S} {mm : g_M} {H : Heap} {locs : List Loc} {ls : Array Slot} (hG : g_H D σ H) (hS : va_S (g_A D) s.heap H locs) (hB : g_BS K Q o σ mm mm) (hl : lv_has ls 7 [(0, .ref b), (1, .ref (K.2.2.1 0)), (2, .ref (Q 0)), (3, .ref o), (4, .int (nI i))]) (next : ∀ (σ' : g_S) (mm' : g_M) (H : Heap) (locs : List Loc), g_H D σ' H → va_S (g_A D) s.heap H locs → g_BS K Q o σ' mm' mm' → W p l e room_1 s m #[Value.ref b] below meth c H locs cells slots (lw_Z below #[Value.ref b] s) (F0 m 582 ls [])) : W p l e room_1 s m #[Value.ref b] below meth c H locs cells slots (lw_Z below #[Value.ref b] s) (F0 m 402 ls []) := by
  obtain ⟨hx, hb, hml, hown, hts, hr, hlocks, hin⟩ := id C
  have w1 : vp_in (nI i + 1) L := by rw [show (1 : Int32) = nI 1 from rfl, nI_add]; exact vp_in_nI (by omega) (by omega)
  have w2 : vp_in (nI i + 2) L := by rw [show (2 : Int32) = nI 2 from rfl, nI_add]; exact vp_in_nI (by omega) (by omega)
  have w3 : vp_in (nI i + 3) L := by rw [show (3 : Int32) = nI 3 from rfl, nI_add]; exact vp_in_nI (by omega) (by omega)
  have w4 : vp_in (nI i + 4) L := by rw [show (4 : Int32) = nI 4 from rfl, nI_add]; exact vp_in_nI (by omega) (by omega)
  have w5 : vp_in (nI i + 5) L := by rw [show (5 : Int32) = nI 5 from rfl, nI_add]; exact vp_in_nI (by omega) (by omega)
  have hoC := bs_C hA hB
  refine lv_aload_n hx hb dL_law_402 rfl (lv_at hl 1 rfl) ?_
  refine lv_aload_n hx hb dL_law_403 rfl (lv_at hl 0 rfl) ?_
  refine lv_iload hx hb dL_law_404 (lv_at hl 4 rfl) ?_
  refine lv_iconst (v := 1) hx hb dL_law_406 (by decide +kernel) ?_
  refine lv_iadd hx hb dL_law_407 ?_
  refine va_sld hx hb hX hbl hbA hS w1 dL_law_408 ?_
  refine lv_aload_n hx hb dL_law_409 rfl (lv_at hl 0 rfl) ?_
  refine lv_iload hx hb dL_law_410 (lv_at hl 4 rfl) ?_
  refine lv_iconst (v := 2) hx hb dL_law_412 (by decide +kernel) ?_
  refine lv_iadd hx hb dL_law_413 ?_
  refine va_sld hx hb hX hbl hbA hS w2 dL_law_414 ?_
  obtain ⟨σ1, e1, C1⟩ := c_compare hA.1 hB.1 (xs (nI i + 1).toNatClampNeg) (xs (nI i + 2).toNatClampNeg)
  obtain ⟨B1, z1⟩ := hB.cls hA C1
  refine g_callV hx hb hml hl.1 hts hown hK hG hS (As := [.int (xs (nI i + 1).toNatClampNeg), .int (xs (nI i + 2).toNatClampNeg)]) (rest := []) (tX7_compare l D e1) vX7_compare mlL_50 hoC rfl rfl rfl rfl ⟨Nat.le_of_ble_eq_true rfl, Nat.le_of_ble_eq_true rfl⟩ rfl rfl (Nat.le_of_ble_eq_true rfl) ⟨by show cells ≤ 601024; omega, by show slots ≤ 7293034; omega⟩ dL_law_415 (fun H locs hG hS => ?_)
  obtain ⟨fsM, hoM⟩ := bs_M hA B1
  refine lv_aload_n hx hb dL_law_418 rfl (lv_at hl 2 rfl) ?_
  refine lv_aload_n hx hb dL_law_419 rfl (lv_at hl 0 rfl) ?_
  refine lv_iload hx hb dL_law_420 (lv_at hl 4 rfl) ?_
  refine lv_iconst (v := 1) hx hb dL_law_422 (by decide +kernel) ?_
  refine lv_iadd hx hb dL_law_423 ?_
  refine va_sld hx hb hX hbl hbA hS w1 dL_law_424 ?_
  refine lv_aload_n hx hb dL_law_425 rfl (lv_at hl 0 rfl) ?_
  refine lv_iload hx hb dL_law_426 (lv_at hl 4 rfl) ?_
  refine lv_iconst (v := 2) hx hb dL_law_428 (by decide +kernel) ?_
  refine lv_iadd hx hb dL_law_429 ?_
  refine va_sld hx hb hX hbl hbA hS w2 dL_law_430 ?_
  obtain ⟨σ2, e2, C2⟩ := r_compare hA.2.1 B1.2.1 (xs (nI i + 1).toNatClampNeg) (xs (nI i + 2).toNatClampNeg)
  obtain ⟨B2, z2⟩ := B1.ref hA C2
  refine g_callV hx hb hml hl.1 hts hown hK hG hS (As := [.int (xs (nI i + 1).toNatClampNeg), .int (xs (nI i + 2).toNatClampNeg)]) (rest := [.int (mCmp mm (xs (nI i + 1).toNatClampNeg) (xs (nI i + 2).toNatClampNeg))]) (tX8_compare l D e2) vX8_compare mlL_54 hoM rfl rfl rfl rfl ⟨Nat.le_of_ble_eq_true rfl, Nat.le_of_ble_eq_true rfl⟩ rfl rfl (Nat.le_of_ble_eq_true rfl) ⟨by show cells ≤ 601024; omega, by show slots ≤ 7293034; omega⟩ dL_law_431 (fun H locs hG hS => ?_)
  refine lv_icmp_eq (tgt := 582) hx hb dL_law_434 (by decide) (fun c9 => ?_) (fun c9 => absurd rfl c9)
  exact next _ _ _ _ hG hS B2
set_option maxHeartbeats 4000000 in
set_option maxRecDepth 100000 in
theorem law_write {p : Program} {l : Launch} {e : Env} {s : State} {m : MethodId} {below : List Frame} {meth : Method} {c : Code} {b L : Nat} {xs : Nat → Int32} {D : g_D} {K : g_Q9} {Q : Nat → Nat} {o : Nat} (C : g_C RL cL_law 7 (some .boolean) True p s m #[Value.ref b] meth c) (hK : g_K D s) (hX : va_X b L xs s s.heap) (hbl : b < s.heap.size) (hbA : ¬ g_A D b) (hA : kA K Q o) (hL : L ≤ 3072) {i : Nat} (hi : i + 6 ≤ L) {cells slots : Nat} (hc : cells + 1 ≤ 601024) (hs : slots + 6 ≤ 7293034) {σ : g_S} {mm : g_M} {H : Heap} {locs : List Loc} {ls : Array Slot} (hG : g_H D σ H) (hS : va_S (g_A D) s.heap H locs) (hB : g_BS K Q o σ mm mm) (hl : lv_has ls 7 [(0, .ref b), (1, .ref (K.2.2.1 0)), (2, .ref (Q 0)), (3, .ref o), (4, .int (nI i))]) (next : ∀ (σ' : g_S) (mm' : g_M) (H : Heap) (locs : List Loc), g_H D σ' H → va_S (g_A D) s.heap H locs → g_BS K Q o σ' mm' mm' → W p l e room_1 s m #[Value.ref b] below meth c H locs cells slots (lw_Z below #[Value.ref b] s) (F0 m 582 ls [])) : W p l e room_1 s m #[Value.ref b] below meth c H locs cells slots (lw_Z below #[Value.ref b] s) (F0 m 439 ls []) := by
  obtain ⟨hx, hb, hml, hown, hts, hr, hlocks, hin⟩ := id C
  have w1 : vp_in (nI i + 1) L := by rw [show (1 : Int32) = nI 1 from rfl, nI_add]; exact vp_in_nI (by omega) (by omega)
  have w2 : vp_in (nI i + 2) L := by rw [show (2 : Int32) = nI 2 from rfl, nI_add]; exact vp_in_nI (by omega) (by omega)
  have w3 : vp_in (nI i + 3) L := by rw [show (3 : Int32) = nI 3 from rfl, nI_add]; exact vp_in_nI (by omega) (by omega)
  have w4 : vp_in (nI i + 4) L := by rw [show (4 : Int32) = nI 4 from rfl, nI_add]; exact vp_in_nI (by omega) (by omega)
  have w5 : vp_in (nI i + 5) L := by rw [show (5 : Int32) = nI 5 from rfl, nI_add]; exact vp_in_nI (by omega) (by omega)
  have hoC := bs_C hA hB
  refine lv_aload_n hx hb dL_law_439 rfl (lv_at hl 1 rfl) ?_
  refine lv_aload_n hx hb dL_law_440 rfl (lv_at hl 0 rfl) ?_
  refine lv_iload hx hb dL_law_441 (lv_at hl 4 rfl) ?_
  refine lv_iconst (v := 1) hx hb dL_law_443 (by decide +kernel) ?_
  refine lv_iadd hx hb dL_law_444 ?_
  refine va_sld hx hb hX hbl hbA hS w1 dL_law_445 ?_
  refine lv_aload_n hx hb dL_law_446 rfl (lv_at hl 0 rfl) ?_
  refine lv_iload hx hb dL_law_447 (lv_at hl 4 rfl) ?_
  refine lv_iconst (v := 2) hx hb dL_law_449 (by decide +kernel) ?_
  refine lv_iadd hx hb dL_law_450 ?_
  refine va_sld hx hb hX hbl hbA hS w2 dL_law_451 ?_
  obtain ⟨σ1, e1, C1⟩ := c_write hA.1 hB.1 (xs (nI i + 1).toNatClampNeg) (xs (nI i + 2).toNatClampNeg)
  obtain ⟨B1, z1⟩ := hB.cls hA C1
  refine g_callV hx hb hml hl.1 hts hown hK hG hS (As := [.int (xs (nI i + 1).toNatClampNeg), .int (xs (nI i + 2).toNatClampNeg)]) (rest := []) (tX7_write l D e1) vX7_write mlL_55 hoC rfl rfl rfl rfl ⟨Nat.le_of_ble_eq_true rfl, Nat.le_of_ble_eq_true rfl⟩ rfl rfl (Nat.le_of_ble_eq_true rfl) ⟨by show cells ≤ 601024; omega, by show slots ≤ 7293034; omega⟩ dL_law_452 (fun H locs hG hS => ?_)
  obtain ⟨fsM, hoM⟩ := bs_M hA B1
  refine lv_aload_n hx hb dL_law_455 rfl (lv_at hl 2 rfl) ?_
  refine lv_aload_n hx hb dL_law_456 rfl (lv_at hl 0 rfl) ?_
  refine lv_iload hx hb dL_law_457 (lv_at hl 4 rfl) ?_
  refine lv_iconst (v := 1) hx hb dL_law_459 (by decide +kernel) ?_
  refine lv_iadd hx hb dL_law_460 ?_
  refine va_sld hx hb hX hbl hbA hS w1 dL_law_461 ?_
  refine lv_aload_n hx hb dL_law_462 rfl (lv_at hl 0 rfl) ?_
  refine lv_iload hx hb dL_law_463 (lv_at hl 4 rfl) ?_
  refine lv_iconst (v := 2) hx hb dL_law_465 (by decide +kernel) ?_
  refine lv_iadd hx hb dL_law_466 ?_
  refine va_sld hx hb hX hbl hbA hS w2 dL_law_467 ?_
  obtain ⟨σ2, e2, C2⟩ := r_write hA.2.1 B1.2.1 (xs (nI i + 1).toNatClampNeg) (xs (nI i + 2).toNatClampNeg)
  obtain ⟨B2, z2⟩ := B1.ref hA C2
  refine g_callV hx hb hml hl.1 hts hown hK hG hS (As := [.int (xs (nI i + 1).toNatClampNeg), .int (xs (nI i + 2).toNatClampNeg)]) (rest := [.int (mWrite mm (xs (nI i + 1).toNatClampNeg) (xs (nI i + 2).toNatClampNeg)).1]) (tX8_write l D e2) vX8_write mlL_58 hoM rfl rfl rfl rfl ⟨Nat.le_of_ble_eq_true rfl, Nat.le_of_ble_eq_true rfl⟩ rfl rfl (Nat.le_of_ble_eq_true rfl) ⟨by show cells ≤ 601024; omega, by show slots ≤ 7293034; omega⟩ dL_law_468 (fun H locs hG hS => ?_)
  refine lv_icmp_eq (tgt := 582) hx hb dL_law_471 (by decide) (fun c9 => ?_) (fun c9 => absurd rfl c9)
  exact next _ _ _ _ hG hS B2
set_option maxHeartbeats 4000000 in
set_option maxRecDepth 100000 in
theorem law_bits {p : Program} {l : Launch} {e : Env} {s : State} {m : MethodId} {below : List Frame} {meth : Method} {c : Code} {b L : Nat} {xs : Nat → Int32} {D : g_D} {K : g_Q9} {Q : Nat → Nat} {o : Nat} (C : g_C RL cL_law 7 (some .boolean) True p s m #[Value.ref b] meth c) (hK : g_K D s) (hX : va_X b L xs s s.heap) (hbl : b < s.heap.size) (hbA : ¬ g_A D b) (hA : kA K Q o) (hL : L ≤ 3072) {i : Nat} (hi : i + 6 ≤ L) {cells slots : Nat} (hc : cells + 1 ≤ 601024) (hs : slots + 6 ≤ 7293034) {σ : g_S} {mm : g_M} {H : Heap} {locs : List Loc} {ls : Array Slot} (hG : g_H D σ H) (hS : va_S (g_A D) s.heap H locs) (hB : g_BS K Q o σ mm mm) (hl : lv_has ls 7 [(0, .ref b), (1, .ref (K.2.2.1 0)), (2, .ref (Q 0)), (3, .ref o), (4, .int (nI i))]) (next : ∀ (σ' : g_S) (mm' : g_M) (H : Heap) (locs : List Loc), g_H D σ' H → va_S (g_A D) s.heap H locs → g_BS K Q o σ' mm' mm' → W p l e room_1 s m #[Value.ref b] below meth c H locs cells slots (lw_Z below #[Value.ref b] s) (F0 m 582 ls [])) : W p l e room_1 s m #[Value.ref b] below meth c H locs cells slots (lw_Z below #[Value.ref b] s) (F0 m 532 ls []) := by
  obtain ⟨hx, hb, hml, hown, hts, hr, hlocks, hin⟩ := id C
  have w1 : vp_in (nI i + 1) L := by rw [show (1 : Int32) = nI 1 from rfl, nI_add]; exact vp_in_nI (by omega) (by omega)
  have w2 : vp_in (nI i + 2) L := by rw [show (2 : Int32) = nI 2 from rfl, nI_add]; exact vp_in_nI (by omega) (by omega)
  have w3 : vp_in (nI i + 3) L := by rw [show (3 : Int32) = nI 3 from rfl, nI_add]; exact vp_in_nI (by omega) (by omega)
  have w4 : vp_in (nI i + 4) L := by rw [show (4 : Int32) = nI 4 from rfl, nI_add]; exact vp_in_nI (by omega) (by omega)
  have w5 : vp_in (nI i + 5) L := by rw [show (5 : Int32) = nI 5 from rfl, nI_add]; exact vp_in_nI (by omega) (by omega)
  have hoC := bs_C hA hB
  refine lv_aload_n hx hb dL_law_532 rfl (lv_at hl 1 rfl) ?_
  refine lv_aload_n hx hb dL_law_533 rfl (lv_at hl 0 rfl) ?_
  refine lv_iload hx hb dL_law_534 (lv_at hl 4 rfl) ?_
  refine lv_iconst (v := 1) hx hb dL_law_536 (by decide +kernel) ?_
  refine lv_iadd hx hb dL_law_537 ?_
  refine va_sld hx hb hX hbl hbA hS w1 dL_law_538 ?_
  have e1 := c_bits hA.1 hB.1 (xs (nI i + 1).toNatClampNeg)
  have B1 := hB
  refine g_callV hx hb hml hl.1 hts hown hK hG hS (As := [.int (xs (nI i + 1).toNatClampNeg)]) (rest := []) (tX7_bits l D e1) vX7_bits mlL_69 hoC rfl rfl rfl rfl ⟨Nat.le_of_ble_eq_true rfl, Nat.le_of_ble_eq_true rfl⟩ rfl rfl (Nat.le_of_ble_eq_true rfl) ⟨by show cells ≤ 601024; omega, by show slots ≤ 7293034; omega⟩ dL_law_539 (fun H locs hG hS => ?_)
  obtain ⟨fsM, hoM⟩ := bs_M hA B1
  refine lv_aload_n hx hb dL_law_542 rfl (lv_at hl 2 rfl) ?_
  refine lv_aload_n hx hb dL_law_543 rfl (lv_at hl 0 rfl) ?_
  refine lv_iload hx hb dL_law_544 (lv_at hl 4 rfl) ?_
  refine lv_iconst (v := 1) hx hb dL_law_546 (by decide +kernel) ?_
  refine lv_iadd hx hb dL_law_547 ?_
  refine va_sld hx hb hX hbl hbA hS w1 dL_law_548 ?_
  obtain ⟨σ2, e2, C2⟩ := r_bits hA.2.1 B1.2.1 (xs (nI i + 1).toNatClampNeg)
  obtain ⟨B2, z2⟩ := B1.ref hA C2
  refine g_callV hx hb hml hl.1 hts hown hK hG hS (As := [.int (xs (nI i + 1).toNatClampNeg)]) (rest := [.int (mBits mm (xs (nI i + 1).toNatClampNeg))]) (tX8_bits l D e2) vX8_bits mlL_72 hoM rfl rfl rfl rfl ⟨Nat.le_of_ble_eq_true rfl, Nat.le_of_ble_eq_true rfl⟩ rfl rfl (Nat.le_of_ble_eq_true rfl) ⟨by show cells ≤ 601024; omega, by show slots ≤ 7293034; omega⟩ dL_law_549 (fun H locs hG hS => ?_)
  refine lv_icmp_eq (tgt := 582) hx hb dL_law_552 (by decide) (fun c9 => ?_) (fun c9 => absurd rfl c9)
  exact next _ _ _ _ hG hS B2
set_option maxHeartbeats 4000000 in
set_option maxRecDepth 100000 in
theorem law_isInteger {p : Program} {l : Launch} {e : Env} {s : State} {m : MethodId} {below : List Frame} {meth : Method} {c : Code} {b L : Nat} {xs : Nat → Int32} {D : g_D} {K : g_Q9} {Q : Nat → Nat} {o : Nat} (C : g_C RL cL_law 7 (some .boolean) True p s m #[Value.ref b] meth c) (hK : g_K D s) (hX : va_X b L xs s s.heap) (hbl : b < s.heap.size) (hbA : ¬ g_A D b) (hA : kA K Q o) (hL : L ≤ 3072) {i : Nat} (hi : i + 6 ≤ L) {cells slots : Nat} (hc : cells + 1 ≤ 601024) (hs : slots + 6 ≤ 7293034) {σ : g_S} {mm : g_M} {H : Heap} {locs : List Loc} {ls : Array Slot} (hG : g_H D σ H) (hS : va_S (g_A D) s.heap H locs) (hB : g_BS K Q o σ mm mm) (hl : lv_has ls 7 [(0, .ref b), (1, .ref (K.2.2.1 0)), (2, .ref (Q 0)), (3, .ref o), (4, .int (nI i))]) (next : ∀ (σ' : g_S) (mm' : g_M) (H : Heap) (locs : List Loc), g_H D σ' H → va_S (g_A D) s.heap H locs → g_BS K Q o σ' mm' mm' → W p l e room_1 s m #[Value.ref b] below meth c H locs cells slots (lw_Z below #[Value.ref b] s) (F0 m 582 ls [])) : W p l e room_1 s m #[Value.ref b] below meth c H locs cells slots (lw_Z below #[Value.ref b] s) (F0 m 557 ls []) := by
  obtain ⟨hx, hb, hml, hown, hts, hr, hlocks, hin⟩ := id C
  have w1 : vp_in (nI i + 1) L := by rw [show (1 : Int32) = nI 1 from rfl, nI_add]; exact vp_in_nI (by omega) (by omega)
  have w2 : vp_in (nI i + 2) L := by rw [show (2 : Int32) = nI 2 from rfl, nI_add]; exact vp_in_nI (by omega) (by omega)
  have w3 : vp_in (nI i + 3) L := by rw [show (3 : Int32) = nI 3 from rfl, nI_add]; exact vp_in_nI (by omega) (by omega)
  have w4 : vp_in (nI i + 4) L := by rw [show (4 : Int32) = nI 4 from rfl, nI_add]; exact vp_in_nI (by omega) (by omega)
  have w5 : vp_in (nI i + 5) L := by rw [show (5 : Int32) = nI 5 from rfl, nI_add]; exact vp_in_nI (by omega) (by omega)
  have hoC := bs_C hA hB
  refine lv_aload_n hx hb dL_law_557 rfl (lv_at hl 1 rfl) ?_
  refine lv_aload_n hx hb dL_law_558 rfl (lv_at hl 0 rfl) ?_
  refine lv_iload hx hb dL_law_559 (lv_at hl 4 rfl) ?_
  refine lv_iconst (v := 1) hx hb dL_law_561 (by decide +kernel) ?_
  refine lv_iadd hx hb dL_law_562 ?_
  refine va_sld hx hb hX hbl hbA hS w1 dL_law_563 ?_
  have e1 := c_int hA.1 hB.1 (xs (nI i + 1).toNatClampNeg)
  have B1 := hB
  refine g_callV hx hb hml hl.1 hts hown hK hG hS (As := [.int (xs (nI i + 1).toNatClampNeg)]) (rest := []) (tX7_isInteger l D e1) vX7_isInteger mlL_73 hoC rfl rfl rfl rfl ⟨Nat.le_of_ble_eq_true rfl, Nat.le_of_ble_eq_true rfl⟩ rfl rfl (Nat.le_of_ble_eq_true rfl) ⟨by show cells ≤ 601024; omega, by show slots ≤ 7293034; omega⟩ dL_law_564 (fun H locs hG hS => ?_)
  obtain ⟨fsM, hoM⟩ := bs_M hA B1
  refine lv_aload_n hx hb dL_law_567 rfl (lv_at hl 2 rfl) ?_
  refine lv_aload_n hx hb dL_law_568 rfl (lv_at hl 0 rfl) ?_
  refine lv_iload hx hb dL_law_569 (lv_at hl 4 rfl) ?_
  refine lv_iconst (v := 1) hx hb dL_law_571 (by decide +kernel) ?_
  refine lv_iadd hx hb dL_law_572 ?_
  refine va_sld hx hb hX hbl hbA hS w1 dL_law_573 ?_
  obtain ⟨σ2, e2, C2⟩ := r_int hA.2.1 B1.2.1 (xs (nI i + 1).toNatClampNeg)
  obtain ⟨B2, z2⟩ := B1.ref hA C2
  refine g_callV hx hb hml hl.1 hts hown hK hG hS (As := [.int (xs (nI i + 1).toNatClampNeg)]) (rest := [.int (mInt mm (xs (nI i + 1).toNatClampNeg))]) (tX8_isInteger l D e2) vX8_isInteger mlL_76 hoM rfl rfl rfl rfl ⟨Nat.le_of_ble_eq_true rfl, Nat.le_of_ble_eq_true rfl⟩ rfl rfl (Nat.le_of_ble_eq_true rfl) ⟨by show cells ≤ 601024; omega, by show slots ≤ 7293034; omega⟩ dL_law_574 (fun H locs hG hS => ?_)
  refine lv_icmp_eq (tgt := 582) hx hb dL_law_577 (by decide) (fun c9 => ?_) (fun c9 => absurd rfl c9)
  exact next _ _ _ _ hG hS B2
set_option maxHeartbeats 4000000 in
set_option maxRecDepth 100000 in
theorem law_set {p : Program} {l : Launch} {e : Env} {s : State} {m : MethodId} {below : List Frame} {meth : Method} {c : Code} {b L : Nat} {xs : Nat → Int32} {D : g_D} {K : g_Q9} {Q : Nat → Nat} {o : Nat} (C : g_C RL cL_law 7 (some .boolean) True p s m #[Value.ref b] meth c) (hK : g_K D s) (hX : va_X b L xs s s.heap) (hbl : b < s.heap.size) (hbA : ¬ g_A D b) (hA : kA K Q o) (hL : L ≤ 3072) {i : Nat} (hi : i + 6 ≤ L) {cells slots : Nat} (hc : cells + 1 ≤ 601024) (hs : slots + 6 ≤ 7293034) {σ : g_S} {mm : g_M} {H : Heap} {locs : List Loc} {ls : Array Slot} (hG : g_H D σ H) (hS : va_S (g_A D) s.heap H locs) (hB : g_BS K Q o σ mm mm) (hl : lv_has ls 7 [(0, .ref b), (1, .ref (K.2.2.1 0)), (2, .ref (Q 0)), (3, .ref o), (4, .int (nI i))]) (next : ∀ (σ' : g_S) (mm' : g_M) (H : Heap) (locs : List Loc), g_H D σ' H → va_S (g_A D) s.heap H locs → g_BS K Q o σ' mm' mm' → W p l e room_1 s m #[Value.ref b] below meth c H locs cells slots (lw_Z below #[Value.ref b] s) (F0 m 582 ls [])) : W p l e room_1 s m #[Value.ref b] below meth c H locs cells slots (lw_Z below #[Value.ref b] s) (F0 m 223 ls []) := by
  obtain ⟨hx, hb, hml, hown, hts, hr, hlocks, hin⟩ := id C
  have w1 : vp_in (nI i + 1) L := by rw [show (1 : Int32) = nI 1 from rfl, nI_add]; exact vp_in_nI (by omega) (by omega)
  have w2 : vp_in (nI i + 2) L := by rw [show (2 : Int32) = nI 2 from rfl, nI_add]; exact vp_in_nI (by omega) (by omega)
  have w3 : vp_in (nI i + 3) L := by rw [show (3 : Int32) = nI 3 from rfl, nI_add]; exact vp_in_nI (by omega) (by omega)
  have w4 : vp_in (nI i + 4) L := by rw [show (4 : Int32) = nI 4 from rfl, nI_add]; exact vp_in_nI (by omega) (by omega)
  have w5 : vp_in (nI i + 5) L := by rw [show (5 : Int32) = nI 5 from rfl, nI_add]; exact vp_in_nI (by omega) (by omega)
  have hoC := bs_C hA hB
  obtain ⟨w, ew, wz1, wz2⟩ : ∃ w : Int, lZ w = (g_lshl (xs (nI i + 2).toNatClampNeg).toInt64 32) ||| ((xs (nI i + 3).toNatClampNeg).toInt64 &&& 4294967295) ∧ -9223372036854775808 ≤ w ∧ w < 9223372036854775808 := ⟨_, Int64.ofInt_toInt _, Int64.le_toInt _, Int64.toInt_lt _⟩
  refine lv_aload_n hx hb dL_law_223 rfl (lv_at hl 1 rfl) ?_
  refine lv_aload_n hx hb dL_law_224 rfl (lv_at hl 0 rfl) ?_
  refine lv_iload hx hb dL_law_225 (lv_at hl 4 rfl) ?_
  refine lv_iconst (v := 1) hx hb dL_law_227 (by decide +kernel) ?_
  refine lv_iadd hx hb dL_law_228 ?_
  refine va_sld hx hb hX hbl hbA hS w1 dL_law_229 ?_
  refine lv_aload_n hx hb dL_law_230 rfl (lv_at hl 0 rfl) ?_
  refine lv_iload hx hb dL_law_231 (lv_at hl 4 rfl) ?_
  refine lv_iconst (v := 2) hx hb dL_law_233 (by decide +kernel) ?_
  refine lv_iadd hx hb dL_law_234 ?_
  refine va_sld hx hb hX hbl hbA hS w2 dL_law_235 ?_
  refine lv_i2l (v := (xs (nI i + 2).toNatClampNeg).toInt64) hx hb dL_law_236 rfl ?_
  refine lv_bipush (v := 32) hx hb dL_law_237 (by decide +kernel) ?_
  refine lv_lshl (v := g_lshl (xs (nI i + 2).toNatClampNeg).toInt64 32) hx hb dL_law_239 rfl ?_
  refine lv_aload_n hx hb dL_law_240 rfl (lv_at hl 0 rfl) ?_
  refine lv_iload hx hb dL_law_241 (lv_at hl 4 rfl) ?_
  refine lv_iconst (v := 3) hx hb dL_law_243 (by decide +kernel) ?_
  refine lv_iadd hx hb dL_law_244 ?_
  refine va_sld hx hb hX hbl hbA hS w3 dL_law_245 ?_
  refine lv_i2l (v := (xs (nI i + 3).toNatClampNeg).toInt64) hx hb dL_law_246 rfl ?_
  refine lv_ldc2 (v := 4294967295) hx hb hown (hts _ coL_33) dL_law_247 ?_
  refine lv_land hx hb dL_law_250 ?_
  refine lv_lor hx hb dL_law_251 ?_
  obtain ⟨σ1, e1, C1⟩ := c_set hA.1 hB.1 (xs (nI i + 1).toNatClampNeg) wz1 wz2
  obtain ⟨B1, z1⟩ := hB.cls hA C1
  rw [← ew]
  refine g_callV hx hb hml hl.1 hts hown hK hG hS (As := [.int (xs (nI i + 1).toNatClampNeg), .long (lZ w)]) (rest := []) (tX7_set l D e1) vX7_set mlL_35 hoC rfl rfl rfl rfl ⟨Nat.le_of_ble_eq_true rfl, Nat.le_of_ble_eq_true rfl⟩ rfl rfl (Nat.le_of_ble_eq_true rfl) ⟨by show cells ≤ 601024; omega, by show slots ≤ 7293034; omega⟩ dL_law_252 (fun H locs hG hS => ?_)
  obtain ⟨fsM, hoM⟩ := bs_M hA B1
  refine lv_aload_n hx hb dL_law_255 rfl (lv_at hl 2 rfl) ?_
  refine lv_aload_n hx hb dL_law_256 rfl (lv_at hl 0 rfl) ?_
  refine lv_iload hx hb dL_law_257 (lv_at hl 4 rfl) ?_
  refine lv_iconst (v := 1) hx hb dL_law_259 (by decide +kernel) ?_
  refine lv_iadd hx hb dL_law_260 ?_
  refine va_sld hx hb hX hbl hbA hS w1 dL_law_261 ?_
  refine lv_aload_n hx hb dL_law_262 rfl (lv_at hl 0 rfl) ?_
  refine lv_iload hx hb dL_law_263 (lv_at hl 4 rfl) ?_
  refine lv_iconst (v := 2) hx hb dL_law_265 (by decide +kernel) ?_
  refine lv_iadd hx hb dL_law_266 ?_
  refine va_sld hx hb hX hbl hbA hS w2 dL_law_267 ?_
  refine lv_i2l (v := (xs (nI i + 2).toNatClampNeg).toInt64) hx hb dL_law_268 rfl ?_
  refine lv_bipush (v := 32) hx hb dL_law_269 (by decide +kernel) ?_
  refine lv_lshl (v := g_lshl (xs (nI i + 2).toNatClampNeg).toInt64 32) hx hb dL_law_271 rfl ?_
  refine lv_aload_n hx hb dL_law_272 rfl (lv_at hl 0 rfl) ?_
  refine lv_iload hx hb dL_law_273 (lv_at hl 4 rfl) ?_
  refine lv_iconst (v := 3) hx hb dL_law_275 (by decide +kernel) ?_
  refine lv_iadd hx hb dL_law_276 ?_
  refine va_sld hx hb hX hbl hbA hS w3 dL_law_277 ?_
  refine lv_i2l (v := (xs (nI i + 3).toNatClampNeg).toInt64) hx hb dL_law_278 rfl ?_
  refine lv_ldc2 (v := 4294967295) hx hb hown (hts _ coL_33) dL_law_279 ?_
  refine lv_land hx hb dL_law_282 ?_
  refine lv_lor hx hb dL_law_283 ?_
  obtain ⟨σ2, e2, C2⟩ := r_set hA.2.1 B1.2.1 (xs (nI i + 1).toNatClampNeg) wz1 wz2
  obtain ⟨B2, z2⟩ := B1.ref hA C2
  rw [← ew]
  refine g_callV hx hb hml hl.1 hts hown hK hG hS (As := [.int (xs (nI i + 1).toNatClampNeg), .long (lZ w)]) (rest := [.int (mSet mm (xs (nI i + 1).toNatClampNeg) w).1]) (tX8_set l D e2) vX8_set mlL_39 hoM rfl rfl rfl rfl ⟨Nat.le_of_ble_eq_true rfl, Nat.le_of_ble_eq_true rfl⟩ rfl rfl (Nat.le_of_ble_eq_true rfl) ⟨by show cells ≤ 601024; omega, by show slots ≤ 7293034; omega⟩ dL_law_284 (fun H locs hG hS => ?_)
  refine lv_icmp_eq (tgt := 582) hx hb dL_law_287 (by decide) (fun c9 => ?_) (fun c9 => absurd rfl c9)
  exact next _ _ _ _ hG hS B2
