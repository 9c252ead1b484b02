theorem vJ3_checkIndex_8e157 : g_Vs yJ3_checkIndex_8e157 cJ3_checkIndex_8e157 3 (some .int) 3 := ⟨g_memT3 78 rfl rfl, g_memT1 14 rfl rfl, g_memT3 79 rfl rfl, by decide +kernel, by decide +kernel, by decide +kernel⟩
theorem vJ0_checkIndex_df160 : g_Vs yJ0_checkIndex_df160 cJ0_checkIndex_df160 2 none 2 := ⟨g_memT3 73 rfl rfl, g_memT1 12 rfl rfl, g_memT3 74 rfl rfl, by decide +kernel, by decide +kernel, by decide +kernel⟩
theorem vJ1_charAt_3b067 : g_Vs yJ1_charAt_3b067 cJ1_charAt_3b067 2 (some .char) 2 := ⟨g_memT3 70 rfl rfl, g_memT1 13 rfl rfl, g_memT3 71 rfl rfl, by decide +kernel, by decide +kernel, by decide +kernel⟩
theorem vJ0_isLatin1_aae02 : g_V yJ0_isLatin1_aae02 cJ0_isLatin1_aae02 1 (some .boolean) 0 := ⟨g_memT3 64 rfl rfl, g_memT3 65 rfl rfl, g_memT1 12 rfl rfl, g_memT3 66 rfl rfl, by decide +kernel, by decide +kernel, by decide +kernel⟩
theorem vJ0_charAt_5068e : g_V yJ0_charAt_5068e cJ0_charAt_5068e 2 (some .char) 1 := ⟨g_memT3 60 rfl rfl, g_memT3 61 rfl rfl, g_memT1 12 rfl rfl, g_memT3 62 rfl rfl, by decide +kernel, by decide +kernel, by decide +kernel⟩
theorem mlJ0_1059 : Cond.methodLink RJ0 1059 yJ3_checkIndex_8e157 ∈ lw_g := g_memT3 77 rfl rfl
theorem mlJ1_9 : Cond.methodLink RJ1 9 yJ0_checkIndex_df160 ∈ lw_g := g_memT3 72 rfl rfl
theorem mlJ0_495 : Cond.methodLink RJ0 495 yJ1_charAt_3b067 ∈ lw_g := g_memT3 69 rfl rfl
theorem mlJ0_492 : Cond.methodLink RJ0 492 yJ0_isLatin1_aae02 ∈ lw_g := g_memT3 63 rfl rfl
theorem mlX6_73 : Cond.methodLink RX6 73 yJ0_charAt_5068e ∈ lw_g := g_memT3 59 rfl rfl
theorem fJ_cs : Cond.fieldLink RJ0 38 "java/lang/String" "COMPACT_STRINGS" "Z" ∈ lw_g := g_memT3 67 rfl rfl
theorem fJ_co : Cond.fieldLink RJ0 15 "java/lang/String" "coder" "B" ∈ lw_g := g_memT4 178 rfl rfl
theorem fJ_va : Cond.fieldLink RJ0 9 "java/lang/String" "value" "[B" ∈ lw_g := g_memT4 179 rfl rfl
theorem fJ_si : Cond.fieldLink RJ0 1053 "jdk/internal/util/Preconditions" "SIOOBE_FORMATTER" "Ljava/util/function/BiFunction;" ∈ lw_g := g_memT3 75 rfl rfl
/-- the digit of a place, as charAt answers it -/
def g_ch (i : Int32) : Option Int32 := g_if (0 ≤ i.toInt ∧ i.toInt < 36) (some (((g_byt.getD i.toNatClampNeg 0 &&& 255).toUInt32 % 65536).toInt32))
theorem g_chn (x : Int32) : narrow .char (.int ((x.toUInt32 % 65536).toInt32)) = .int ((x.toUInt32 % 65536).toInt32) := pk_nc x
theorem g_cret {p : Program} {l : Launch} {e : Env} {R : Room} {s : State} {m : MethodId} {args : Array Value} {below : List Frame} {meth : Method} {c : Code} {H : Heap} {locs : List Loc} {cells slots : Nat} {cc : ByteArray} {pc : Nat} {ls : Array Slot} {D : g_D} {σ : g_S} {v : Int32} (hx : p.tables.exec = Jvm.exec) (hb : c.code = cc) (hr : meth.sig.returnType = some .char) (hlocks : meth.locks = false) (hn : narrow .char (.int v) = .int v) (hG : g_H D σ H) (hS : va_S (g_A D) s.heap H locs) (hdg : decode cc pc = .ok (.ireturn, 1)) : W p l e R s m args below meth c H locs cells slots (MQ below (g_Q D σ (some (.int v))) args s cells slots (g_A D)) (F0 m pc ls [.int v]) :=
  W.zret hx hb hr hn (fun t ht hW => ⟨⟨rfl, by rw [ht]; exact hG⟩, hS.F ht⟩) hS.2.2 hdg hlocks
def rmJ3_checkIndex_8e157 : Room := { frames := 0, cells := 0, slots := 0, locals := 0 }
def rmJ0_checkIndex_df160 : Room := { frames := 1, cells := 0, slots := 0, locals := 22 }
def rmJ1_charAt_3b067 : Room := { frames := 2, cells := 0, slots := 0, locals := 43 }
def rmJ0_isLatin1_aae02 : Room := { frames := 0, cells := 0, slots := 0, locals := 0 }
def rmJ0_charAt_5068e : Room := { frames := 3, cells := 0, slots := 0, locals := 64 }
set_option maxHeartbeats 4000000 in
set_option maxRecDepth 100000 in
theorem tJ3_checkIndex_8e157 (l : Launch) (D : g_D) {σ : g_S} {i n : Int32} {w : Value} (hw : w = .null ∨ ∃ q, w = .ref q) (h0 : ¬ i < 0) (h1 : i < n) : Met l yJ3_checkIndex_8e157 (Cond.code yJ3_checkIndex_8e157 cJ3_checkIndex_8e157 3 (some .int) :: lw_g) rmJ3_checkIndex_8e157 (g_P D σ [.int i, .int n, w]) (g_Q D σ (some (.int i))) 0 0 (g_A D) := by
  rcases hw with rfl | ⟨q, rfl⟩
  · refine va_MetF (cc := cJ3_checkIndex_8e157) (maxL := 3) (ret := (some .int)) (by decide +kernel) rfl ?_
    intro p e s m args below meth c s₁ B hml hv
    obtain ⟨rfl, hG, hK⟩ := hv
    have hts : ∀ w ∈ lw_g, w.before _ s = true := fun w h => atoms_spec (ws := (Cond.code yJ3_checkIndex_8e157 cJ3_checkIndex_8e157 3 (some .int) :: lw_g)) B.pre w (List.mem_cons_of_mem _ h)
    have hx := B.exec
    have hb := B.bytes
    have hown := findClass_of_methodNamed B.named
    have hr := B.returns
    have hlocks := B.notSynchronized
    have hS : va_S (g_A D) s.heap s.heap [] := va_S.rf
    have hl := lv_entry ([.int i, .int n, .null]) (n := 3) (Nat.le_of_ble_eq_true rfl)
    rw [lg_entry_eq]
    generalize (lg_sl ([.int i, .int n, .null]) ++ List.replicate (3 - (lg_sl ([.int i, .int n, .null])).length) Slot.unset).toArray = ls at hl ⊢
    have hl : lv_has ls 3 [(0, .int i), (1, .int n), (2, .null)] := hl
    refine lv_iload_n hx hb dJ3_checkIndex_8e157_0 rfl (lv_at hl 0 rfl) ?_
    refine lv_if_lt (tgt := 9) hx hb dJ3_checkIndex_8e157_1 (by decide) (fun h => absurd h h0) (fun _ => ?_)
    refine lv_iload_n hx hb dJ3_checkIndex_8e157_4 rfl (lv_at hl 0 rfl) ?_
    refine lv_iload_n hx hb dJ3_checkIndex_8e157_5 rfl (lv_at hl 1 rfl) ?_
    refine lv_icmp_lt (tgt := 16) hx hb dJ3_checkIndex_8e157_6 (by decide) (fun _ => ?_) (fun h => absurd h1 h)
    refine lv_iload_n hx hb dJ3_checkIndex_8e157_16 rfl (lv_at hl 0 rfl) ?_
    exact g_iret hx hb hr hlocks hG hS dJ3_checkIndex_8e157_17
  · refine va_MetF (cc := cJ3_checkIndex_8e157) (maxL := 3) (ret := (some .int)) (by decide +kernel) rfl ?_
    intro p e s m args below meth c s₁ B hml hv
    obtain ⟨rfl, hG, hK⟩ := hv
    have hts : ∀ w ∈ lw_g, w.before _ s = true := fun w h => atoms_spec (ws := (Cond.code yJ3_checkIndex_8e157 cJ3_checkIndex_8e157 3 (some .int) :: lw_g)) B.pre w (List.mem_cons_of_mem _ h)
    have hx := B.exec
    have hb := B.bytes
    have hown := findClass_of_methodNamed B.named
    have hr := B.returns
    have hlocks := B.notSynchronized
    have hS : va_S (g_A D) s.heap s.heap [] := va_S.rf
    have hl := lv_entry ([.int i, .int n, .ref q]) (n := 3) (Nat.le_of_ble_eq_true rfl)
    rw [lg_entry_eq]
    generalize (lg_sl ([.int i, .int n, .ref q]) ++ List.replicate (3 - (lg_sl ([.int i, .int n, .ref q])).length) Slot.unset).toArray = ls at hl ⊢
    have hl : lv_has ls 3 [(0, .int i), (1, .int n), (2, .ref q)] := hl
    refine lv_iload_n hx hb dJ3_checkIndex_8e157_0 rfl (lv_at hl 0 rfl) ?_
    refine lv_if_lt (tgt := 9) hx hb dJ3_checkIndex_8e157_1 (by decide) (fun h => absurd h h0) (fun _ => ?_)
    refine lv_iload_n hx hb dJ3_checkIndex_8e157_4 rfl (lv_at hl 0 rfl) ?_
    refine lv_iload_n hx hb dJ3_checkIndex_8e157_5 rfl (lv_at hl 1 rfl) ?_
    refine lv_icmp_lt (tgt := 16) hx hb dJ3_checkIndex_8e157_6 (by decide) (fun _ => ?_) (fun h => absurd h1 h)
    refine lv_iload_n hx hb dJ3_checkIndex_8e157_16 rfl (lv_at hl 0 rfl) ?_
    exact g_iret hx hb hr hlocks hG hS dJ3_checkIndex_8e157_17
set_option maxHeartbeats 4000000 in
set_option maxRecDepth 100000 in
theorem tJ0_checkIndex_df160 (l : Launch) (D : g_D) {σ : g_S} {i n : Int32} (h0 : ¬ i < 0) (h1 : i < n) : Met l yJ0_checkIndex_df160 (Cond.code yJ0_checkIndex_df160 cJ0_checkIndex_df160 2 none :: lw_g) rmJ0_checkIndex_df160 (g_P D σ [.int i, .int n]) (g_Q D σ (none)) 0 0 (g_A D) := by
  refine va_MetF (cc := cJ0_checkIndex_df160) (maxL := 2) (ret := none) (by decide +kernel) rfl ?_
  intro p e s m args below meth c s₁ B hml hv
  obtain ⟨rfl, hG, hK⟩ := hv
  have hts : ∀ w ∈ lw_g, w.before _ s = true := fun w h => atoms_spec (ws := (Cond.code yJ0_checkIndex_df160 cJ0_checkIndex_df160 2 none :: lw_g)) B.pre w (List.mem_cons_of_mem _ h)
  have hx := B.exec
  have hb := B.bytes
  have hown := findClass_of_methodNamed B.named
  have hr := B.returns
  have hlocks := B.notSynchronized
  have hS : va_S (g_A D) s.heap s.heap [] := va_S.rf
  have hl := lv_entry ([.int i, .int n]) (n := 2) (Nat.le_of_ble_eq_true rfl)
  rw [lg_entry_eq]
  generalize (lg_sl ([.int i, .int n]) ++ List.replicate (2 - (lg_sl ([.int i, .int n])).length) Slot.unset).toArray = ls at hl ⊢
  have hl : lv_has ls 2 [(0, .int i), (1, .int n)] := hl
  refine lv_iload_n hx hb dJ0_checkIndex_df160_0 rfl (lv_at hl 0 rfl) ?_
  refine lv_iload_n hx hb dJ0_checkIndex_df160_1 rfl (lv_at hl 1 rfl) ?_
  rcases hK.2.2.2.2.2 with hz | ⟨q, hz⟩
  · refine va_gets hx hb hz hS hown (hts _ fJ_si) (fun _ h => h) dJ0_checkIndex_df160_2 ?_
    refine g_callS hx hb hml hl.1 hts hown hK hG hS (As := [.int i, .int n, .null]) (rest := []) (tJ3_checkIndex_8e157 l D (Or.inl rfl) h0 h1) vJ3_checkIndex_8e157 mlJ0_1059 rfl rfl ⟨Nat.le_of_ble_eq_true rfl, Nat.le_of_ble_eq_true rfl⟩ rfl rfl (Nat.le_of_ble_eq_true rfl) ⟨Nat.le_of_ble_eq_true rfl, Nat.le_of_ble_eq_true rfl⟩ dJ0_checkIndex_df160_5 (fun H locs hG hS => ?_)
    refine lv_pop hx hb dJ0_checkIndex_df160_8 rfl ?_
    exact g_vret hx hb hr hlocks hG hS dJ0_checkIndex_df160_9
  · refine va_gets hx hb hz hS hown (hts _ fJ_si) (fun _ h => h) dJ0_checkIndex_df160_2 ?_
    refine g_callS hx hb hml hl.1 hts hown hK hG hS (As := [.int i, .int n, .ref q]) (rest := []) (tJ3_checkIndex_8e157 l D (Or.inr ⟨q, rfl⟩) h0 h1) vJ3_checkIndex_8e157 mlJ0_1059 rfl rfl ⟨Nat.le_of_ble_eq_true rfl, Nat.le_of_ble_eq_true rfl⟩ rfl rfl (Nat.le_of_ble_eq_true rfl) ⟨Nat.le_of_ble_eq_true rfl, Nat.le_of_ble_eq_true rfl⟩ dJ0_checkIndex_df160_5 (fun H locs hG hS => ?_)
    refine lv_pop hx hb dJ0_checkIndex_df160_8 rfl ?_
    exact g_vret hx hb hr hlocks hG hS dJ0_checkIndex_df160_9
set_option maxHeartbeats 4000000 in
set_option maxRecDepth 100000 in
theorem tJ1_charAt_3b067 (l : Launch) (D : g_D) {σ : g_S} {i : Int32} (h0 : ¬ i < 0) (h1 : i < 36) (h2 : vp_in i 36) : Met l yJ1_charAt_3b067 (Cond.code yJ1_charAt_3b067 cJ1_charAt_3b067 2 (some .char) :: lw_g) rmJ1_charAt_3b067 (g_P D σ [.ref (D.2.2.2.2 0), .int i]) (g_Q D σ (some (.int ((g_byt.getD i.toNatClampNeg 0 &&& 255).toUInt32 % 65536).toInt32))) 0 0 (g_A D) := by
  refine va_MetF (cc := cJ1_charAt_3b067) (maxL := 2) (ret := (some .char)) (by decide +kernel) rfl ?_
  intro p e s m args below meth c s₁ B hml hv
  obtain ⟨rfl, hG, hK⟩ := hv
  have hts : ∀ w ∈ lw_g, w.before _ s = true := fun w h => atoms_spec (ws := (Cond.code yJ1_charAt_3b067 cJ1_charAt_3b067 2 (some .char) :: lw_g)) B.pre w (List.mem_cons_of_mem _ h)
  have hx := B.exec
  have hb := B.bytes
  have hown := findClass_of_methodNamed B.named
  have hr := B.returns
  have hlocks := B.notSynchronized
  have hS : va_S (g_A D) s.heap s.heap [] := va_S.rf
  have hl := lv_entry ([.ref (D.2.2.2.2 0), .int i]) (n := 2) (Nat.le_of_ble_eq_true rfl)
  rw [lg_entry_eq]
  generalize (lg_sl ([.ref (D.2.2.2.2 0), .int i]) ++ List.replicate (2 - (lg_sl ([.ref (D.2.2.2.2 0), .int i])).length) Slot.unset).toArray = ls at hl ⊢
  have hl : lv_has ls 2 [(0, .ref (D.2.2.2.2 0)), (1, .int i)] := hl
  have hT : va_T .byte (D.2.2.2.2 0) 36 (fun j => .int (g_byt.getD j 0)) (g_A D) s s.heap := (hK.2.2.2.1.1 0 (by decide)).2.2.2
  refine lv_iload_n hx hb dJ1_charAt_3b067_0 rfl (lv_at hl 1 rfl) ?_
  refine lv_aload_n hx hb dJ1_charAt_3b067_1 rfl (lv_at hl 0 rfl) ?_
  refine va_tlen (v := 36) hx hb hT hS rfl dJ1_charAt_3b067_2 ?_
  refine g_callS hx hb hml hl.1 hts hown hK hG hS (As := [.int i, .int 36]) (rest := []) (tJ0_checkIndex_df160 l D h0 h1) vJ0_checkIndex_df160 mlJ1_9 rfl rfl ⟨Nat.le_of_ble_eq_true rfl, Nat.le_of_ble_eq_true rfl⟩ rfl rfl (Nat.le_of_ble_eq_true rfl) ⟨Nat.le_of_ble_eq_true rfl, Nat.le_of_ble_eq_true rfl⟩ dJ1_charAt_3b067_3 (fun H locs hG hS => ?_)
  refine lv_aload_n hx hb dJ1_charAt_3b067_6 rfl (lv_at hl 0 rfl) ?_
  refine lv_iload_n hx hb dJ1_charAt_3b067_7 rfl (lv_at hl 1 rfl) ?_
  refine va_tb hx hb hT hS h2 rfl dJ1_charAt_3b067_8 ?_
  refine lv_sipush (v := 255) hx hb dJ1_charAt_3b067_9 (by decide +kernel) ?_
  refine lv_iand hx hb dJ1_charAt_3b067_12 ?_
  refine lv_i2c (v := ((g_byt.getD i.toNatClampNeg 0 &&& 255).toUInt32 % 65536).toInt32) hx hb dJ1_charAt_3b067_13 rfl ?_
  exact g_cret hx hb hr hlocks (g_chn _) hG hS dJ1_charAt_3b067_14
set_option maxHeartbeats 4000000 in
set_option maxRecDepth 100000 in
theorem tJ0_isLatin1_aae02 (l : Launch) (D : g_D) {σ : g_S}  : Met l yJ0_isLatin1_aae02 (Cond.code yJ0_isLatin1_aae02 cJ0_isLatin1_aae02 1 (some .boolean) :: lw_g) rmJ0_isLatin1_aae02 (g_P D σ [.ref (D.2.2.2.1 0)]) (g_Q D σ (some (.int 1))) 0 0 (g_A D) := by
  refine va_MetF (cc := cJ0_isLatin1_aae02) (maxL := 1) (ret := (some .boolean)) (by decide +kernel) rfl ?_
  intro p e s m args below meth c s₁ B hml hv
  obtain ⟨rfl, hG, hK⟩ := hv
  have hts : ∀ w ∈ lw_g, w.before _ s = true := fun w h => atoms_spec (ws := (Cond.code yJ0_isLatin1_aae02 cJ0_isLatin1_aae02 1 (some .boolean) :: lw_g)) B.pre w (List.mem_cons_of_mem _ h)
  have hx := B.exec
  have hb := B.bytes
  have hown := findClass_of_methodNamed B.named
  have hr := B.returns
  have hlocks := B.notSynchronized
  have hS : va_S (g_A D) s.heap s.heap [] := va_S.rf
  have hl := lv_entry ([.ref (D.2.2.2.1 0)]) (n := 1) (Nat.le_of_ble_eq_true rfl)
  rw [lg_entry_eq]
  generalize (lg_sl ([.ref (D.2.2.2.1 0)]) ++ List.replicate (1 - (lg_sl ([.ref (D.2.2.2.1 0)])).length) Slot.unset).toArray = ls at hl ⊢
  have hl : lv_has ls 1 [(0, .ref (D.2.2.2.1 0))] := hl
  refine va_gets hx hb hK.2.2.2.2.1 hS hown (hts _ fJ_cs) (fun _ h => h) dJ0_isLatin1_aae02_0 ?_
  refine lv_if_eq (tgt := 17) hx hb dJ0_isLatin1_aae02_3 (by decide) (fun h => absurd h (by decide)) (fun _ => ?_)
  refine lv_aload_n hx hb dJ0_isLatin1_aae02_6 rfl (lv_at hl 0 rfl) ?_
  refine vk_getf hx hb (hK.2.2.2.1.1 0 (by decide)).2.1 hS hown (hts _ fJ_co) (fun _ h => h) dJ0_isLatin1_aae02_7 ?_
  refine lv_if_ne (tgt := 17) hx hb dJ0_isLatin1_aae02_10 (by decide) (fun h => absurd rfl h) (fun _ => ?_)
  refine lv_iconst (v := 1) hx hb dJ0_isLatin1_aae02_13 (by decide +kernel) ?_
  refine lv_goto (tgt := 18) hx hb dJ0_isLatin1_aae02_14 (by decide) ?_
  exact g_zret hx hb hr hlocks (Or.inr rfl) hG hS dJ0_isLatin1_aae02_18
/-- a call on the digits' text -/
theorem g_callT {p : Program} {l : Launch} {e : Env} {R : Room} {s : State} {m : MethodId} {args : Array Value} {below : List Frame} {meth : Method} {c : Code} {H : Heap} {locs : List Loc} {cells slots : Nat} {Q : State → Prop} {cc : ByteArray} {pc : Nat} {ls : Array Slot} {rest : List Value} {D : g_D} {σ σ' : g_S} {own : String} (hx : p.tables.exec = Jvm.exec) (hb : c.code = cc) {nL : Nat} (hml : c.maxLocals = nL) (hsz : ls.size = nL) (hts : ∀ w ∈ lw_g, w.before args s = true) (hown : s.vm.findClass own = some m.cls) (hK : g_K D s) (hG : g_H D σ H) (hS : va_S (g_A D) s.heap H locs) {y : MethodName} {bytes : ByteArray} {maxL n index mc ms : Nat} {ret : Option FieldType} {rm : Room} {As : List Value} {v : Option Value} {st : List Value}
    (hM : Met l y (Cond.code y bytes maxL ret :: lw_g) rm (g_P D σ (.ref (D.2.2.2.1 0) :: As)) (g_Q D σ' v) mc ms (g_A D)) (hV : g_V y bytes maxL ret n) (hy : y.cls = "java/lang/String") (hlink : Cond.methodLink own index y ∈ lw_g) (hrc : rm.cells = mc) (hrs : rm.slots = ms) (hR : rm.frames + 1 ≤ R.frames ∧ 8 + (maxL + 11) + rm.locals ≤ R.locals) (hn : As.length = n) (hst : st = As.reverse ++ .ref (D.2.2.2.1 0) :: rest) (hW : (rest.map fun v => v.category).sum ≤ 8) (hf : cells + mc ≤ R.cells ∧ slots + ms ≤ R.slots) (hdg : decode cc pc = .ok (.invokevirtual index, 3))
    (kk : ∀ (H1 : Heap) (locs1 : List Loc), g_H D σ' H1 → va_S (g_A D) s.heap H1 locs1 → W p l e R s m args below meth c H1 locs1 (cells + mc) (slots + ms) Q (F0 m (pc + 3) ls (v.toList ++ rest))) : W p l e R s m args below meth c H locs cells slots Q (F0 m pc ls st) := by
  obtain ⟨v1, v2, v3, v4, v5, v6, v7⟩ := hV
  have hcb : CallB R s args own index y bytes maxL ret (Cond.code y bytes maxL ret :: lw_g) rm mc ms n := callB_of n hts (g_goodC v4) rfl hrc hrs (hts _ v3) (hts _ hlink) ⟨v5, v6, v7⟩ hR
  exact g_call (va_runV ⟨hx, hb, hml, hown, hts⟩ hM ⟨hcb, hts _ v1, hts _ v2⟩ ⟨(g_pre hK hG hS).1, hy ▸ vk_recv hK.2.2.2.1 (i := 0) (by decide) hS, (g_pre hK hG hS).2⟩ rfl hn hsz hst (lv_room hW) hdg hf) hS kk
set_option maxHeartbeats 4000000 in
set_option maxRecDepth 100000 in
theorem tJ0_charAt_5068e (l : Launch) (D : g_D) {σ : g_S} {i v : Int32} (hv : g_ch i = some v) : Met l yJ0_charAt_5068e (Cond.code yJ0_charAt_5068e cJ0_charAt_5068e 2 (some .char) :: lw_g) rmJ0_charAt_5068e (g_P D σ [.ref (D.2.2.2.1 0), .int i]) (g_Q D σ (some (.int v))) 0 0 (g_A D) := by
  obtain ⟨h3, h4⟩ := g_if_spec hv
  cases h4
  have h2 : vp_in i 36 := vp_in_iff.mpr h3
  have h0 : ¬ i < 0 := fun q => h2 (Or.inl q)
  have h1 : i < 36 := Int32.lt_iff_toInt_lt.mpr (by have : (36 : Int32).toInt = 36 := rfl; omega)
  refine va_MetF (cc := cJ0_charAt_5068e) (maxL := 2) (ret := (some .char)) (by decide +kernel) rfl ?_
  intro p e s m args below meth c s₁ B hml hv
  obtain ⟨rfl, hG, hK⟩ := hv
  have hts : ∀ w ∈ lw_g, w.before _ s = true := fun w h => atoms_spec (ws := (Cond.code yJ0_charAt_5068e cJ0_charAt_5068e 2 (some .char) :: lw_g)) B.pre w (List.mem_cons_of_mem _ h)
  have hx := B.exec
  have hb := B.bytes
  have hown := findClass_of_methodNamed B.named
  have hr := B.returns
  have hlocks := B.notSynchronized
  have hS : va_S (g_A D) s.heap s.heap [] := va_S.rf
  have hl := lv_entry ([.ref (D.2.2.2.1 0), .int i]) (n := 2) (Nat.le_of_ble_eq_true rfl)
  rw [lg_entry_eq]
  generalize (lg_sl ([.ref (D.2.2.2.1 0), .int i]) ++ List.replicate (2 - (lg_sl ([.ref (D.2.2.2.1 0), .int i])).length) Slot.unset).toArray = ls at hl ⊢
  have hl : lv_has ls 2 [(0, .ref (D.2.2.2.1 0)), (1, .int i)] := hl
  refine lv_aload_n hx hb dJ0_charAt_5068e_0 rfl (lv_at hl 0 rfl) ?_
  refine g_callT hx hb hml hl.1 hts hown hK hG hS (As := []) (rest := []) (tJ0_isLatin1_aae02 l D) vJ0_isLatin1_aae02 rfl mlJ0_492 rfl rfl ⟨Nat.le_of_ble_eq_true rfl, Nat.le_of_ble_eq_true rfl⟩ rfl rfl (Nat.le_of_ble_eq_true rfl) ⟨Nat.le_of_ble_eq_true rfl, Nat.le_of_ble_eq_true rfl⟩ dJ0_charAt_5068e_1 (fun H locs hG hS => ?_)
  refine lv_if_eq (tgt := 16) hx hb dJ0_charAt_5068e_4 (by decide) (fun h => absurd h (by decide)) (fun _ => ?_)
  refine lv_aload_n hx hb dJ0_charAt_5068e_7 rfl (lv_at hl 0 rfl) ?_
  refine vk_getf hx hb (hK.2.2.2.1.1 0 (by decide)).2.2.1 hS hown (hts _ fJ_va) (fun _ h => h) dJ0_charAt_5068e_8 ?_
  refine lv_iload_n hx hb dJ0_charAt_5068e_11 rfl (lv_at hl 1 rfl) ?_
  refine g_callS hx hb hml hl.1 hts hown hK hG hS (As := [.ref (D.2.2.2.2 0), .int i]) (rest := []) (tJ1_charAt_3b067 l D h0 h1 h2) vJ1_charAt_3b067 mlJ0_495 rfl rfl ⟨Nat.le_of_ble_eq_true rfl, Nat.le_of_ble_eq_true rfl⟩ rfl rfl (Nat.le_of_ble_eq_true rfl) ⟨Nat.le_of_ble_eq_true rfl, Nat.le_of_ble_eq_true rfl⟩ dJ0_charAt_5068e_12 (fun H locs hG hS => ?_)
  exact g_cret hx hb hr hlocks (g_chn _) hG hS dJ0_charAt_5068e_15
