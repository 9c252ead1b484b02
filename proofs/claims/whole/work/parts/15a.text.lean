def rmX6_init : Room := { frames := 2, cells := 3, slots := 4236, locals := 42 }
noncomputable def fX6_init (σ : g_S) (x0 : Nat) : Option (g_S) := g_let σ.2 fun a2 => g_let (g_mk σ (.inl (2, 4098, .inl (fun _ => 0)))) fun σ1 => (g_p σ1 6 x0 0 (.ref a2)).bind fun σ3 => g_let σ3.2 fun a5 => g_let (g_mk σ3 (.inr (3, [.null, .int 0]))) fun σ4 => (fX3_init σ4 a5 67).bind fun r6 => (g_p r6 6 x0 2 (.ref a5)).bind fun σ7 => some σ7
set_option maxHeartbeats 4000000 in
set_option maxRecDepth 100000 in
theorem tX6_init (l : Launch) (D : g_D) {σ : g_S} {x0 : Nat} {out : g_S} (hf : fX6_init σ x0 = some out) : Met l yX6_init (Cond.code yX6_init cX6_init 1 none :: lw_g) rmX6_init (g_P D σ [.ref x0]) (g_Q D out (none)) 3 4236 (g_A D) := by
  refine Met.ofW (cc := cX6_init) (maxL := 1) (ret := none) (by decide +kernel) rfl ?_
  intro p e s m args below meth c s₁ B hml hv
  obtain ⟨rfl, hG, hK⟩ := hv
  have hts : ∀ w ∈ lw_g, w.before _ s = true := fun w h => atoms_spec (ws := (Cond.code yX6_init cX6_init 1 none :: lw_g)) B.pre w (List.mem_cons_of_mem _ h)
  have C : g_C RX6 cX6_init 1 none (meth.name = "<init>") p s m _ meth c := ⟨B.exec, B.bytes, hml, findClass_of_methodNamed B.named, hts, B.returns, B.notSynchronized, (name_of_methodNamed B.named B.method).1⟩
  obtain ⟨hx, hb, hml, hown, hts, hr, hlocks, hin⟩ := id C
  have hS : va_S (g_A D) s.heap s.heap [] := va_S.rf
  have hl := lv_entry ([.ref x0]) (n := 1) (Nat.le_of_ble_eq_true rfl)
  rw [lg_entry_eq]
  generalize (lg_sl ([.ref x0]) ++ List.replicate (1 - (lg_sl ([.ref x0])).length) Slot.unset).toArray = ls at hl ⊢
  have hl : lv_has ls 1 [(0, .ref x0)] := hl
  unfold fX6_init at hf
  refine lv_aload_n hx hb dX6_init_0 rfl (lv_at hl 0 rfl) ?_
  refine W.objInit hx hb hown (hts _ oi_lX6) (hts _ oi_i) (hts _ oi_c) rfl (by rw [hml]; exact hl.1) rfl dX6_init_1 (Nat.le_of_ble_eq_true rfl) (Nat.le_of_ble_eq_true rfl) ?_
  refine W.eq (g2 := F0 m 4 ls []) rfl ?_
  refine lv_aload_n hx hb dX6_init_4 rfl (lv_at hl 0 rfl) ?_
  refine lv_sipush (v := 4098) hx hb dX6_init_5 (by decide +kernel) ?_
  obtain ⟨a2, ea2, hf⟩ := g_let_spec hf
  obtain ⟨σ1, eσ1, hf⟩ := g_let_spec hf
  refine g_newa (N := 4098) (t := 2) (f := .inl (fun _ => 0)) (atype := .char) hx hb hts hK hG hS ac_char (fun _ => rfl) rfl (fun _ => rfl) (by decide) rfl (Nat.le_of_ble_eq_true rfl) (Nat.le_of_ble_eq_true rfl) (Nat.le_of_ble_eq_true rfl) dX6_init_8 (fun H hG hS => ?_)
  rw [eσ1] at hG
  rw [ea2]
  refine W.cs (cells' := 1) (slots' := 4098) rfl rfl ?_
  obtain ⟨σ3, hσ3, hf⟩ := g_bind hf
  refine g_putF hx hb hts hown hin hK hG hS hσ3 rfl iX6 tyX6 tyX6_ok nmX6 (by decide) flX6_9 rfl rfl rfl rfl dX6_init_10 (fun H locs hG hS => ?_)
  refine lv_aload_n hx hb dX6_init_13 rfl (lv_at hl 0 rfl) ?_
  obtain ⟨a5, ea5, hf⟩ := g_let_spec hf
  obtain ⟨σ4, eσ4, hf⟩ := g_let_spec hf
  refine g_new (fs := [.null, .int 0]) hx hb hts hown hK hG hS (ci := 3) rfl iX3 tyX3 tyX3_ok clX6_15 inX3 itX3 (fun j hj => by rcases (show j = 0 ∨ j = 1 by omega) with rfl | rfl <;> rfl) (Nat.le_of_ble_eq_true rfl) (Nat.le_of_ble_eq_true rfl) dX6_init_14 (fun H hG hS => ?_)
  rw [eσ4] at hG
  rw [ea5]
  refine W.cs (cells' := 2) (slots' := 4100) rfl rfl ?_
  refine lv_dup hx hb dX6_init_17 rfl ?_
  refine lv_bipush (v := 67) hx hb dX6_init_18 (by decide +kernel) ?_
  obtain ⟨r6, hr6, hf⟩ := g_bind hf
  refine g_callI hx hb hml hl.1 hts hown hK hG hS (As := [.int 67]) (rest := [.ref a5, .ref x0]) (tX3_init l D hr6) vX3_init mlX6_17 rfl rfl ⟨Nat.le_of_ble_eq_true rfl, Nat.le_of_ble_eq_true rfl⟩ rfl rfl (Nat.le_of_ble_eq_true rfl) ⟨Nat.le_of_ble_eq_true rfl, Nat.le_of_ble_eq_true rfl⟩ dX6_init_20 (fun H locs hG hS => ?_)
  refine W.cs (cells' := 3) (slots' := 4236) rfl rfl ?_
  obtain ⟨σ7, hσ7, hf⟩ := g_bind hf
  refine g_putF hx hb hts hown hin hK hG hS hσ7 rfl iX6 tyX6 tyX6_ok nmX6 (by decide) flX6_20 rfl rfl rfl rfl dX6_init_23 (fun H locs hG hS => ?_)
  cases hf
  exact g_vret hx hb hr hlocks hG hS dX6_init_26

def rmX6_append : Room := { frames := 0, cells := 0, slots := 0, locals := 0 }
noncomputable def BX6_append_32  (σ : g_S)  : Option (g_S) := some σ
noncomputable def fX6_append (σ : g_S) (x0 : Nat) (x1 : Int32) : Option (g_S) := (g_fi σ 6 x0 1).bind fun v1 => (g_fr σ 6 x0 0).bind fun v2 => (g_len σ 2 v2).bind fun v3 => if v3 ≤ v1 then (BX6_append_32 σ) else ((g_fr σ 6 x0 0).bind fun v5 => (g_fi σ 6 x0 1).bind fun v6 => (g_si σ 2 v5 v6 (vp_nar .char x1)).bind fun σ7 => (g_fi σ7 6 x0 1).bind fun v8 => (g_p σ7 6 x0 1 (.int (v8 + 1))).bind fun σ9 => BX6_append_32 σ9)
set_option maxHeartbeats 4000000 in
set_option maxRecDepth 100000 in
theorem tBX6_append_32 {p : Program} {l : Launch} {e : Env} {s : State} {m : MethodId} {args : Array Value} {below : List Frame} {meth : Method} {c : Code} {D : g_D} {out : g_S} (C : g_C RX6 cX6_append 2 none True p s m args meth c) (hK : g_K D s)  : ∀ (σ : g_S)  (H : Heap) (locs : List Loc) (ls : Array Slot), g_H D σ H → va_S (g_A D) s.heap H locs → lv_has ls 2 [] → BX6_append_32  σ  = some out → W p l e rmX6_append s m args below meth c H locs 0 0 (MQ below (g_Q D out (none)) args s 0 0 (g_A D)) (F0 m 32 ls []) := by
  obtain ⟨hx, hb, hml, hown, hts, hr, hlocks, hin⟩ := id C
  intro σ  H locs ls hG hS hl hf
  unfold BX6_append_32 at hf
  cases hf
  exact g_vret hx hb hr hlocks hG hS dX6_append_32

set_option maxHeartbeats 4000000 in
set_option maxRecDepth 100000 in
theorem tX6_append (l : Launch) (D : g_D) {σ : g_S} {x0 : Nat} {x1 : Int32} {out : g_S} (hf : fX6_append σ x0 x1 = some out) : Met l yX6_append (Cond.code yX6_append cX6_append 2 none :: lw_g) rmX6_append (g_P D σ [.ref x0, .int x1]) (g_Q D out (none)) 0 0 (g_A D) := by
  refine Met.ofW (cc := cX6_append) (maxL := 2) (ret := none) (by decide +kernel) rfl ?_
  intro p e s m args below meth c s₁ B hml hv
  obtain ⟨rfl, hG, hK⟩ := hv
  have hts : ∀ w ∈ lw_g, w.before _ s = true := fun w h => atoms_spec (ws := (Cond.code yX6_append cX6_append 2 none :: lw_g)) B.pre w (List.mem_cons_of_mem _ h)
  have C : g_C RX6 cX6_append 2 none True p s m _ meth c := ⟨B.exec, B.bytes, hml, findClass_of_methodNamed B.named, hts, B.returns, B.notSynchronized, trivial⟩
  obtain ⟨hx, hb, hml, hown, hts, hr, hlocks, hin⟩ := id C
  have hS : va_S (g_A D) s.heap s.heap [] := va_S.rf
  have hl := lv_entry ([.ref x0, .int x1]) (n := 2) (Nat.le_of_ble_eq_true rfl)
  rw [lg_entry_eq]
  generalize (lg_sl ([.ref x0, .int x1]) ++ List.replicate (2 - (lg_sl ([.ref x0, .int x1])).length) Slot.unset).toArray = ls at hl ⊢
  have hl : lv_has ls 2 [(0, .ref x0), (1, .int x1)] := hl
  unfold fX6_append at hf
  refine lv_aload_n hx hb dX6_append_0 rfl (lv_at hl 0 rfl) ?_
  obtain ⟨v1, hv1, hf⟩ := g_bind hf
  refine g_geti hx hb hts hown hK hG hv1 rfl iX6 (by decide) flX6_24 dX6_append_1 ?_
  refine lv_aload_n hx hb dX6_append_4 rfl (lv_at hl 0 rfl) ?_
  obtain ⟨v2, hv2, hf⟩ := g_bind hf
  refine g_getr hx hb hts hown hK hG hv2 rfl iX6 (by decide) flX6_9 dX6_append_5 ?_
  obtain ⟨v3, hv3, hf⟩ := g_bind hf
  refine g_alen hx hb hK hG hv3 rfl dX6_append_8 ?_
  refine lv_icmp_ge (tgt := 32) hx hb dX6_append_9 (by decide) (fun c4 => ?_) (fun c4 => ?_)
  · rw [if_pos c4] at hf
    exact tBX6_append_32 C hK   _  _ _ _ hG hS (lv_sub hl [] rfl) hf
  · rw [if_neg c4] at hf
    refine lv_aload_n hx hb dX6_append_12 rfl (lv_at hl 0 rfl) ?_
    obtain ⟨v5, hv5, hf⟩ := g_bind hf
    refine g_getr hx hb hts hown hK hG hv5 rfl iX6 (by decide) flX6_9 dX6_append_13 ?_
    refine lv_aload_n hx hb dX6_append_16 rfl (lv_at hl 0 rfl) ?_
    obtain ⟨v6, hv6, hf⟩ := g_bind hf
    refine g_geti hx hb hts hown hK hG hv6 rfl iX6 (by decide) flX6_24 dX6_append_17 ?_
    refine lv_iload_n hx hb dX6_append_20 rfl (lv_at hl 1 rfl) ?_
    obtain ⟨σ7, hσ7, hf⟩ := g_bind hf
    refine g_cast hx hb hK hG hS hσ7 rfl dX6_append_21 (fun H locs hG hS => ?_)
    refine lv_aload_n hx hb dX6_append_22 rfl (lv_at hl 0 rfl) ?_
    refine lv_dup hx hb dX6_append_23 rfl ?_
    obtain ⟨v8, hv8, hf⟩ := g_bind hf
    refine g_geti hx hb hts hown hK hG hv8 rfl iX6 (by decide) flX6_24 dX6_append_24 ?_
    refine lv_iconst (v := 1) hx hb dX6_append_27 (by decide +kernel) ?_
    refine lv_iadd hx hb dX6_append_28 ?_
    obtain ⟨σ9, hσ9, hf⟩ := g_bind hf
    refine g_put hx hb hts hown hK hG hS hσ9 rfl iX6 tyX6 tyX6_ok nmX6 (by decide) flX6_24 rfl rfl rfl dX6_append_29 (fun H locs hG hS => ?_)
    exact tBX6_append_32 C hK   _  _ _ _ hG hS (lv_sub hl [] rfl) hf

def rmX6_appendGroup : Room := { frames := 4, cells := 0, slots := 0, locals := 85 }
noncomputable def BX6_appendGroup_52  (σ : g_S)  : Option (g_S) := some σ
noncomputable def BX6_appendGroup_27 (k6 : g_S → Nat → Int32 → Int32 → Int32 → Int32 → Option (g_S)) (σ : g_S) (x0 : Nat) (x2 : Int32) (x3 : Int32) (x4 : Int32) (x5 : Int32) : Option (g_S) := g_if (¬ x2 = 0) <| (g_ch (g_irem x4 x2)).bind fun v4 => (g_o σ 6 x0).bind fun o5 => (fX6_append σ x0 v4).bind fun r6 => g_if (¬ x2 = 0) <| g_let (x4 / x2) fun v8 => g_let (x5 + 1) fun v9 => k6 r6 x0 x2 x3 v8 v9
noncomputable def LX6_appendGroup_6  : Nat → g_S → Nat → Int32 → Int32 → Int32 → Int32 → Option (g_S)
  | 0, _, _, _, _, _, _ => none
  | n + 1, σ, x0, x2, x3, x4, x5 => if x3 ≤ x5 then (BX6_appendGroup_52 σ) else (if 0 < x4 then (BX6_appendGroup_27 (LX6_appendGroup_6  n) σ x0 x2 x3 x4 x5) else ((g_fr σ 6 x0 2).bind fun v10 => (g_o σ 3 v10).bind fun o11 => (fX3_isZero σ v10).bind fun r12 => if r12.1 = 0 then (BX6_appendGroup_27 (LX6_appendGroup_6  n) r12.2 x0 x2 x3 x4 x5) else (BX6_appendGroup_52 r12.2)))
noncomputable def fX6_appendGroup (σ : g_S) (x0 : Nat) (x1 : Int32) (x2 : Int32) (x3 : Int32) : Option (g_S) := LX6_appendGroup_6 g_fuel σ x0 x2 x3 x1 0
set_option maxHeartbeats 4000000 in
set_option maxRecDepth 100000 in
theorem tBX6_appendGroup_52 {p : Program} {l : Launch} {e : Env} {s : State} {m : MethodId} {args : Array Value} {below : List Frame} {meth : Method} {c : Code} {D : g_D} {out : g_S} (C : g_C RX6 cX6_appendGroup 6 none True p s m args meth c) (hK : g_K D s)  : ∀ (σ : g_S)  (H : Heap) (locs : List Loc) (ls : Array Slot), g_H D σ H → va_S (g_A D) s.heap H locs → lv_has ls 6 [] → BX6_appendGroup_52  σ  = some out → W p l e rmX6_appendGroup s m args below meth c H locs 0 0 (MQ below (g_Q D out (none)) args s 0 0 (g_A D)) (F0 m 52 ls []) := by
  obtain ⟨hx, hb, hml, hown, hts, hr, hlocks, hin⟩ := id C
  intro σ  H locs ls hG hS hl hf
  unfold BX6_appendGroup_52 at hf
  cases hf
  exact g_vret hx hb hr hlocks hG hS dX6_appendGroup_52

set_option maxHeartbeats 4000000 in
set_option maxRecDepth 100000 in
theorem tBX6_appendGroup_27 {p : Program} {l : Launch} {e : Env} {s : State} {m : MethodId} {args : Array Value} {below : List Frame} {meth : Method} {c : Code} {D : g_D} {out : g_S} (C : g_C RX6 cX6_appendGroup 6 none True p s m args meth c) (hK : g_K D s) (k6 : g_S → Nat → Int32 → Int32 → Int32 → Int32 → Option (g_S)) (hk6 : ∀ (σ : g_S) (x0 : Nat) (x2 : Int32) (x3 : Int32) (x4 : Int32) (x5 : Int32) (H : Heap) (locs : List Loc) (ls : Array Slot), g_H D σ H → va_S (g_A D) s.heap H locs → lv_has ls 6 [(0, .ref x0), (2, .int x2), (3, .int x3), (4, .int x4), (5, .int x5)] → k6 σ x0 x2 x3 x4 x5 = some out → W p l e rmX6_appendGroup s m args below meth c H locs 0 0 (MQ below (g_Q D out (none)) args s 0 0 (g_A D)) (F0 m 6 ls [])) : ∀ (σ : g_S) (x0 : Nat) (x2 : Int32) (x3 : Int32) (x4 : Int32) (x5 : Int32) (H : Heap) (locs : List Loc) (ls : Array Slot), g_H D σ H → va_S (g_A D) s.heap H locs → lv_has ls 6 [(0, .ref x0), (2, .int x2), (3, .int x3), (4, .int x4), (5, .int x5)] → BX6_appendGroup_27 k6 σ x0 x2 x3 x4 x5 = some out → W p l e rmX6_appendGroup s m args below meth c H locs 0 0 (MQ below (g_Q D out (none)) args s 0 0 (g_A D)) (F0 m 27 ls []) := by
  obtain ⟨hx, hb, hml, hown, hts, hr, hlocks, hin⟩ := id C
  intro σ x0 x2 x3 x4 x5 H locs ls hG hS hl hf
  unfold BX6_appendGroup_27 at hf
  refine lv_aload_n hx hb dX6_appendGroup_27 rfl (lv_at hl 0 rfl) ?_
  refine va_ldcS hx hb hown hK.2.2.1 dX6_appendGroup_28 ?_
  refine lv_iload hx hb dX6_appendGroup_30 (lv_at hl 3 rfl) ?_
  refine lv_iload_n hx hb dX6_appendGroup_32 rfl (lv_at hl 1 rfl) ?_
  obtain ⟨h3, hf⟩ := g_if_spec hf
  refine lv_irem hx hb dX6_appendGroup_33 h3 ?_
  refine g_topi (y := g_irem x4 x2) rfl ?_
  obtain ⟨v4, hv4, hf⟩ := g_bind hf
  refine g_callT hx hb hml hl.1 hts hown hK hG hS (As := [.int (g_irem x4 x2)]) (rest := [.ref x0]) (tJ0_charAt_5068e l D hv4) vJ0_charAt_5068e rfl mlX6_73 rfl rfl ⟨Nat.le_of_ble_eq_true rfl, Nat.le_of_ble_eq_true rfl⟩ rfl rfl (Nat.le_of_ble_eq_true rfl) ⟨Nat.le_of_ble_eq_true rfl, Nat.le_of_ble_eq_true rfl⟩ dX6_appendGroup_34 (fun H locs hG hS => ?_)
  obtain ⟨o5, ho5, hf⟩ := g_bind hf
  obtain ⟨r6, hr6, hf⟩ := g_bind hf
  refine g_callV hx hb hml hl.1 hts hown hK hG hS (As := [.int v4]) (rest := []) (tX6_append l D hr6) vX6_append mlX6_34 ho5 rfl rfl rfl rfl ⟨Nat.le_of_ble_eq_true rfl, Nat.le_of_ble_eq_true rfl⟩ rfl rfl (Nat.le_of_ble_eq_true rfl) ⟨Nat.le_of_ble_eq_true rfl, Nat.le_of_ble_eq_true rfl⟩ dX6_appendGroup_37 (fun H locs hG hS => ?_)
  refine lv_iload hx hb dX6_appendGroup_40 (lv_at hl 3 rfl) ?_
  refine lv_iload_n hx hb dX6_appendGroup_42 rfl (lv_at hl 1 rfl) ?_
  obtain ⟨h7, hf⟩ := g_if_spec hf
  refine lv_idiv hx hb dX6_appendGroup_43 h7 ?_
  obtain ⟨v8, ev8, hf⟩ := g_let_spec hf
  refine g_topi ev8 ?_
  refine lv_istore (lv' := [(4, .int v8), (0, .ref x0), (2, .int x2), (3, .int x3), (5, .int x5)]) hx hb dX6_appendGroup_44 hl (by decide) rfl (fun ls hl => ?_)
  obtain ⟨v9, ev9, hf⟩ := g_let_spec hf
  refine lv_iinc (v := v9) (lv' := [(5, .int v9), (4, .int v8), (0, .ref x0), (2, .int x2), (3, .int x3)]) hx hb dX6_appendGroup_46 hl (k := 4) rfl (by rw [← ev9]; rfl) (by decide) rfl (fun ls hl => ?_)
  refine lv_goto (tgt := 6) hx hb dX6_appendGroup_49 (by decide) ?_
  exact hk6 _ _ _ _ _ _ _ _ _ hG hS (lv_sub hl [2, 3, 4, 1, 0] rfl) hf

set_option maxHeartbeats 4000000 in
set_option maxRecDepth 100000 in
theorem tLX6_appendGroup_6 {p : Program} {l : Launch} {e : Env} {s : State} {m : MethodId} {args : Array Value} {below : List Frame} {meth : Method} {c : Code} {D : g_D} {out : g_S} (C : g_C RX6 cX6_appendGroup 6 none True p s m args meth c) (hK : g_K D s)  : ∀ (n : Nat) (σ : g_S) (x0 : Nat) (x2 : Int32) (x3 : Int32) (x4 : Int32) (x5 : Int32) (H : Heap) (locs : List Loc) (ls : Array Slot), g_H D σ H → va_S (g_A D) s.heap H locs → lv_has ls 6 [(0, .ref x0), (2, .int x2), (3, .int x3), (4, .int x4), (5, .int x5)] → LX6_appendGroup_6  n σ x0 x2 x3 x4 x5 = some out → W p l e rmX6_appendGroup s m args below meth c H locs 0 0 (MQ below (g_Q D out (none)) args s 0 0 (g_A D)) (F0 m 6 ls [])  := by
  obtain ⟨hx, hb, hml, hown, hts, hr, hlocks, hin⟩ := id C
  intro n
  induction n with
  | zero => intro σ x0 x2 x3 x4 x5 H locs ls hG hS hl hf; cases hf
  | succ n ih =>
    intro σ x0 x2 x3 x4 x5 H locs ls hG hS hl hf
    have hf : (if x3 ≤ x5 then (BX6_appendGroup_52 σ) else (if 0 < x4 then (BX6_appendGroup_27 (LX6_appendGroup_6  n) σ x0 x2 x3 x4 x5) else ((g_fr σ 6 x0 2).bind fun v10 => (g_o σ 3 v10).bind fun o11 => (fX3_isZero σ v10).bind fun r12 => if r12.1 = 0 then (BX6_appendGroup_27 (LX6_appendGroup_6  n) r12.2 x0 x2 x3 x4 x5) else (BX6_appendGroup_52 r12.2)))) = some out := hf
    have hk6 := ih
    refine lv_iload hx hb dX6_appendGroup_6 (lv_at hl 4 rfl) ?_
    refine lv_iload_n hx hb dX6_appendGroup_8 rfl (lv_at hl 2 rfl) ?_
    refine lv_icmp_ge (tgt := 52) hx hb dX6_appendGroup_9 (by decide) (fun c1 => ?_) (fun c1 => ?_)
    · rw [if_pos c1] at hf
      exact tBX6_appendGroup_52 C hK   _  _ _ _ hG hS (lv_sub hl [] rfl) hf
    · rw [if_neg c1] at hf
      refine lv_iload hx hb dX6_appendGroup_12 (lv_at hl 3 rfl) ?_
      refine lv_if_gt (tgt := 27) hx hb dX6_appendGroup_14 (by decide) (fun c2 => ?_) (fun c2 => ?_)
      · rw [if_pos c2] at hf
        exact tBX6_appendGroup_27 C hK (LX6_appendGroup_6  n) hk6  _ _ _ _ _ _ _ _ _ hG hS (lv_sub hl [0, 1, 2, 3, 4] rfl) hf
      · rw [if_neg c2] at hf
        refine lv_aload_n hx hb dX6_appendGroup_17 rfl (lv_at hl 0 rfl) ?_
        obtain ⟨v10, hv10, hf⟩ := g_bind hf
        refine g_getr hx hb hts hown hK hG hv10 rfl iX6 (by decide) flX6_20 dX6_appendGroup_18 ?_
        obtain ⟨o11, ho11, hf⟩ := g_bind hf
        obtain ⟨r12, hr12, hf⟩ := g_bind hf
        refine g_callV hx hb hml hl.1 hts hown hK hG hS (As := []) (rest := []) (tX3_isZero l D hr12) vX3_isZero mlX6_52 ho11 rfl rfl rfl rfl ⟨Nat.le_of_ble_eq_true rfl, Nat.le_of_ble_eq_true rfl⟩ rfl rfl (Nat.le_of_ble_eq_true rfl) ⟨Nat.le_of_ble_eq_true rfl, Nat.le_of_ble_eq_true rfl⟩ dX6_appendGroup_21 (fun H locs hG hS => ?_)
        refine lv_if_ne (tgt := 52) hx hb dX6_appendGroup_24 (by decide) (fun c13 => ?_) (fun c13 => ?_)
        · rw [if_neg c13] at hf
          exact tBX6_appendGroup_52 C hK   _  _ _ _ hG hS (lv_sub hl [] rfl) hf
        · rw [if_pos c13] at hf
          exact tBX6_appendGroup_27 C hK (LX6_appendGroup_6  n) hk6  _ _ _ _ _ _ _ _ _ hG hS (lv_sub hl [0, 1, 2, 3, 4] rfl) hf

set_option maxHeartbeats 4000000 in
set_option maxRecDepth 100000 in
theorem tX6_appendGroup (l : Launch) (D : g_D) {σ : g_S} {x0 : Nat} {x1 : Int32} {x2 : Int32} {x3 : Int32} {out : g_S} (hf : fX6_appendGroup σ x0 x1 x2 x3 = some out) : Met l yX6_appendGroup (Cond.code yX6_appendGroup cX6_appendGroup 6 none :: lw_g) rmX6_appendGroup (g_P D σ [.ref x0, .int x1, .int x2, .int x3]) (g_Q D out (none)) 0 0 (g_A D) := by
  refine Met.ofW (cc := cX6_appendGroup) (maxL := 6) (ret := none) (by decide +kernel) rfl ?_
  intro p e s m args below meth c s₁ B hml hv
  obtain ⟨rfl, hG, hK⟩ := hv
  have hts : ∀ w ∈ lw_g, w.before _ s = true := fun w h => atoms_spec (ws := (Cond.code yX6_appendGroup cX6_appendGroup 6 none :: lw_g)) B.pre w (List.mem_cons_of_mem _ h)
  have C : g_C RX6 cX6_appendGroup 6 none True p s m _ meth c := ⟨B.exec, B.bytes, hml, findClass_of_methodNamed B.named, hts, B.returns, B.notSynchronized, trivial⟩
  obtain ⟨hx, hb, hml, hown, hts, hr, hlocks, hin⟩ := id C
  have hS : va_S (g_A D) s.heap s.heap [] := va_S.rf
  have hl := lv_entry ([.ref x0, .int x1, .int x2, .int x3]) (n := 6) (Nat.le_of_ble_eq_true rfl)
  rw [lg_entry_eq]
  generalize (lg_sl ([.ref x0, .int x1, .int x2, .int x3]) ++ List.replicate (6 - (lg_sl ([.ref x0, .int x1, .int x2, .int x3])).length) Slot.unset).toArray = ls at hl ⊢
  have hl : lv_has ls 6 [(0, .ref x0), (1, .int x1), (2, .int x2), (3, .int x3)] := hl
  unfold fX6_appendGroup at hf
  refine lv_iload_n hx hb dX6_appendGroup_0 rfl (lv_at hl 1 rfl) ?_
  refine lv_istore (lv' := [(4, .int x1), (0, .ref x0), (1, .int x1), (2, .int x2), (3, .int x3)]) hx hb dX6_appendGroup_1 hl (by decide) rfl (fun ls hl => ?_)
  refine lv_iconst (v := 0) hx hb dX6_appendGroup_3 (by decide +kernel) ?_
  refine lv_istore (lv' := [(5, .int 0), (4, .int x1), (0, .ref x0), (1, .int x1), (2, .int x2), (3, .int x3)]) hx hb dX6_appendGroup_4 hl (by decide) rfl (fun ls hl => ?_)
  exact tLX6_appendGroup_6 C hK  g_fuel _ _ _ _ _ _ _ _ _ hG hS (lv_sub hl [2, 4, 5, 1, 0] rfl) hf

def rmX6_turn : Room := { frames := 0, cells := 0, slots := 0, locals := 0 }
noncomputable def LX6_turn_9  : Nat → g_S → Nat → Int32 → Int32 → Option (g_S)
  | 0, _, _, _, _ => none
  | n + 1, σ, x0, x2, x3 => if x3 ≤ x2 then (some σ) else ((g_fr σ 6 x0 0).bind fun v4 => (g_li σ 2 v4 x2).bind fun v5 => (g_fr σ 6 x0 0).bind fun v6 => (g_fr σ 6 x0 0).bind fun v7 => (g_li σ 2 v7 x3).bind fun v8 => (g_si σ 2 v6 x2 (vp_nar .char v8)).bind fun σ9 => (g_fr σ9 6 x0 0).bind fun v10 => (g_si σ9 2 v10 x3 (vp_nar .char v5)).bind fun σ11 => g_let (x2 + 1) fun v12 => g_let (x3 + (-1)) fun v13 => (LX6_turn_9  n) σ11 x0 v12 v13)
noncomputable def fX6_turn (σ : g_S) (x0 : Nat) (x1 : Int32) : Option (g_S) := (g_fi σ 6 x0 1).bind fun v1 => g_let (v1 - 1) fun v2 => LX6_turn_9 g_fuel σ x0 x1 v2
set_option maxHeartbeats 4000000 in
set_option maxRecDepth 100000 in
theorem tLX6_turn_9 {p : Program} {l : Launch} {e : Env} {s : State} {m : MethodId} {args : Array Value} {below : List Frame} {meth : Method} {c : Code} {D : g_D} {out : g_S} (C : g_C RX6 cX6_turn 5 none True p s m args meth c) (hK : g_K D s)  : ∀ (n : Nat) (σ : g_S) (x0 : Nat) (x2 : Int32) (x3 : Int32) (H : Heap) (locs : List Loc) (ls : Array Slot), g_H D σ H → va_S (g_A D) s.heap H locs → lv_has ls 5 [(0, .ref x0), (2, .int x2), (3, .int x3)] → LX6_turn_9  n σ x0 x2 x3 = some out → W p l e rmX6_turn s m args below meth c H locs 0 0 (MQ below (g_Q D out (none)) args s 0 0 (g_A D)) (F0 m 9 ls [])  := by
  obtain ⟨hx, hb, hml, hown, hts, hr, hlocks, hin⟩ := id C
  intro n
  induction n with
  | zero => intro σ x0 x2 x3 H locs ls hG hS hl hf; cases hf
  | succ n ih =>
    intro σ x0 x2 x3 H locs ls hG hS hl hf
    have hf : (if x3 ≤ x2 then (some σ) else ((g_fr σ 6 x0 0).bind fun v4 => (g_li σ 2 v4 x2).bind fun v5 => (g_fr σ 6 x0 0).bind fun v6 => (g_fr σ 6 x0 0).bind fun v7 => (g_li σ 2 v7 x3).bind fun v8 => (g_si σ 2 v6 x2 (vp_nar .char v8)).bind fun σ9 => (g_fr σ9 6 x0 0).bind fun v10 => (g_si σ9 2 v10 x3 (vp_nar .char v5)).bind fun σ11 => g_let (x2 + 1) fun v12 => g_let (x3 + (-1)) fun v13 => (LX6_turn_9  n) σ11 x0 v12 v13)) = some out := hf
    have hk9 := ih
    refine lv_iload_n hx hb dX6_turn_9 rfl (lv_at hl 1 rfl) ?_
    refine lv_iload_n hx hb dX6_turn_10 rfl (lv_at hl 2 rfl) ?_
    refine lv_icmp_ge (tgt := 51) hx hb dX6_turn_11 (by decide) (fun c3 => ?_) (fun c3 => ?_)
    · rw [if_pos c3] at hf
      cases hf
      exact g_vret hx hb hr hlocks hG hS dX6_turn_51
    · rw [if_neg c3] at hf
      refine lv_aload_n hx hb dX6_turn_14 rfl (lv_at hl 0 rfl) ?_
      obtain ⟨v4, hv4, hf⟩ := g_bind hf
      refine g_getr hx hb hts hown hK hG hv4 rfl iX6 (by decide) flX6_9 dX6_turn_15 ?_
      refine lv_iload_n hx hb dX6_turn_18 rfl (lv_at hl 1 rfl) ?_
      obtain ⟨v5, hv5, hf⟩ := g_bind hf
      refine g_cald hx hb hK hG hv5 rfl dX6_turn_19 ?_
      refine lv_istore (lv' := [(4, .int v5), (0, .ref x0), (2, .int x2), (3, .int x3)]) hx hb dX6_turn_20 hl (by decide) rfl (fun ls hl => ?_)
      refine lv_aload_n hx hb dX6_turn_22 rfl (lv_at hl 1 rfl) ?_
      obtain ⟨v6, hv6, hf⟩ := g_bind hf
      refine g_getr hx hb hts hown hK hG hv6 rfl iX6 (by decide) flX6_9 dX6_turn_23 ?_
      refine lv_iload_n hx hb dX6_turn_26 rfl (lv_at hl 2 rfl) ?_
      refine lv_aload_n hx hb dX6_turn_27 rfl (lv_at hl 1 rfl) ?_
      obtain ⟨v7, hv7, hf⟩ := g_bind hf
      refine g_getr hx hb hts hown hK hG hv7 rfl iX6 (by decide) flX6_9 dX6_turn_28 ?_
      refine lv_iload_n hx hb dX6_turn_31 rfl (lv_at hl 3 rfl) ?_
      obtain ⟨v8, hv8, hf⟩ := g_bind hf
      refine g_cald hx hb hK hG hv8 rfl dX6_turn_32 ?_
      obtain ⟨σ9, hσ9, hf⟩ := g_bind hf
      refine g_cast hx hb hK hG hS hσ9 rfl dX6_turn_33 (fun H locs hG hS => ?_)
      refine lv_aload_n hx hb dX6_turn_34 rfl (lv_at hl 1 rfl) ?_
      obtain ⟨v10, hv10, hf⟩ := g_bind hf
      refine g_getr hx hb hts hown hK hG hv10 rfl iX6 (by decide) flX6_9 dX6_turn_35 ?_
      refine lv_iload_n hx hb dX6_turn_38 rfl (lv_at hl 3 rfl) ?_
      refine lv_iload hx hb dX6_turn_39 (lv_at hl 0 rfl) ?_
      obtain ⟨σ11, hσ11, hf⟩ := g_bind hf
      refine g_cast hx hb hK hG hS hσ11 rfl dX6_turn_41 (fun H locs hG hS => ?_)
      obtain ⟨v12, ev12, hf⟩ := g_let_spec hf
      refine lv_iinc (v := v12) (lv' := [(2, .int v12), (4, .int v5), (0, .ref x0), (3, .int x3)]) hx hb dX6_turn_42 hl (k := 2) rfl (by rw [← ev12]; rfl) (by decide) rfl (fun ls hl => ?_)
      obtain ⟨v13, ev13, hf⟩ := g_let_spec hf
      refine lv_iinc (v := v13) (lv' := [(3, .int v13), (2, .int v12), (4, .int v5), (0, .ref x0)]) hx hb dX6_turn_45 hl (k := 3) rfl (by rw [← ev13]; rfl) (by decide) rfl (fun ls hl => ?_)
      refine lv_goto (tgt := 9) hx hb dX6_turn_48 (by decide) ?_
      exact hk9 _ _ _ _ _ _ _ hG hS (lv_sub hl [3, 1, 0] rfl) hf

set_option maxHeartbeats 4000000 in
set_option maxRecDepth 100000 in
theorem tX6_turn (l : Launch) (D : g_D) {σ : g_S} {x0 : Nat} {x1 : Int32} {out : g_S} (hf : fX6_turn σ x0 x1 = some out) : Met l yX6_turn (Cond.code yX6_turn cX6_turn 5 none :: lw_g) rmX6_turn (g_P D σ [.ref x0, .int x1]) (g_Q D out (none)) 0 0 (g_A D) := by
  refine Met.ofW (cc := cX6_turn) (maxL := 5) (ret := none) (by decide +kernel) rfl ?_
  intro p e s m args below meth c s₁ B hml hv
  obtain ⟨rfl, hG, hK⟩ := hv
  have hts : ∀ w ∈ lw_g, w.before _ s = true := fun w h => atoms_spec (ws := (Cond.code yX6_turn cX6_turn 5 none :: lw_g)) B.pre w (List.mem_cons_of_mem _ h)
  have C : g_C RX6 cX6_turn 5 none True p s m _ meth c := ⟨B.exec, B.bytes, hml, findClass_of_methodNamed B.named, hts, B.returns, B.notSynchronized, trivial⟩
  obtain ⟨hx, hb, hml, hown, hts, hr, hlocks, hin⟩ := id C
  have hS : va_S (g_A D) s.heap s.heap [] := va_S.rf
  have hl := lv_entry ([.ref x0, .int x1]) (n := 5) (Nat.le_of_ble_eq_true rfl)
  rw [lg_entry_eq]
  generalize (lg_sl ([.ref x0, .int x1]) ++ List.replicate (5 - (lg_sl ([.ref x0, .int x1])).length) Slot.unset).toArray = ls at hl ⊢
  have hl : lv_has ls 5 [(0, .ref x0), (1, .int x1)] := hl
  unfold fX6_turn at hf
  refine lv_iload_n hx hb dX6_turn_0 rfl (lv_at hl 1 rfl) ?_
  refine lv_istore_n (lv' := [(2, .int x1), (0, .ref x0), (1, .int x1)]) hx hb dX6_turn_1 rfl hl (by decide) rfl (fun ls hl => ?_)
  refine lv_aload_n hx hb dX6_turn_2 rfl (lv_at hl 1 rfl) ?_
  obtain ⟨v1, hv1, hf⟩ := g_bind hf
  refine g_geti hx hb hts hown hK hG hv1 rfl iX6 (by decide) flX6_24 dX6_turn_3 ?_
  refine lv_iconst (v := 1) hx hb dX6_turn_6 (by decide +kernel) ?_
  refine lv_isub hx hb dX6_turn_7 ?_
  obtain ⟨v2, ev2, hf⟩ := g_let_spec hf
  refine g_topi ev2 ?_
  refine lv_istore_n (lv' := [(3, .int v2), (2, .int x1), (0, .ref x0), (1, .int x1)]) hx hb dX6_turn_8 rfl hl (by decide) rfl (fun ls hl => ?_)
  exact tLX6_turn_9 C hK  g_fuel _ _ _ _ _ _ _ hG hS (lv_sub hl [2, 1, 0] rfl) hf

def rmX6_appendNatural : Room := { frames := 5, cells := 0, slots := 0, locals := 110 }
noncomputable def BX6_appendNatural_100  (σ : g_S) (x0 : Nat) (x5 : Int32) : Option (g_S) := (g_o σ 6 x0).bind fun o10 => (fX6_turn σ x0 x5).bind fun r11 => some r11
noncomputable def LX6_appendNatural_61  : Nat → g_S → Nat → Int32 → Int32 → Int32 → Int32 → Int32 → Option (g_S)
  | 0, _, _, _, _, _, _, _ => none
  | n + 1, σ, x0, x2, x3, x4, x5, x6 => if 2048 ≤ x6 then (BX6_appendNatural_100 σ x0 x5) else ((g_fr σ 6 x0 2).bind fun v12 => (g_o σ 3 v12).bind fun o13 => (fX3_isZero σ v12).bind fun r14 => if r14.1 = 0 then ((g_fr r14.2 6 x0 2).bind fun v16 => (g_o r14.2 3 v16).bind fun o17 => (fX3_divideBy r14.2 v16 x3).bind fun r18 => (g_o r18.2 6 x0).bind fun o19 => (fX6_appendGroup r18.2 x0 r18.1 x2 x4).bind fun r20 => g_let (x6 + 1) fun v21 => (LX6_appendNatural_61  n) r20 x0 x2 x3 x4 x5 v21) else (BX6_appendNatural_100 r14.2 x0 x5))
noncomputable def BX6_appendNatural_44  (σ : g_S) (x0 : Nat) (x1 : Nat) (x2 : Int32) (x3 : Int32) (x4 : Int32) : Option (g_S) := (g_fi σ 6 x0 1).bind fun v5 => (g_fr σ 6 x0 2).bind fun v6 => (g_o σ 3 v6).bind fun o7 => (fX3_become σ v6 x1).bind fun r8 => LX6_appendNatural_61 g_fuel r8 x0 x2 x3 x4 v5 0
noncomputable def LX6_appendNatural_19  : Nat → g_S → Nat → Nat → Int32 → Int32 → Int32 → Option (g_S)
  | 0, _, _, _, _, _, _ => none
  | n + 1, σ, x0, x1, x2, x3, x4 => if 31 ≤ x4 then (BX6_appendNatural_44 σ x0 x1 x2 x3 x4) else (g_if (¬ x2 = 0) <| if (2147483647 / x2) < x3 then (BX6_appendNatural_44 σ x0 x1 x2 x3 x4) else (g_let (x3 * x2) fun v24 => g_let (x4 + 1) fun v25 => (LX6_appendNatural_19  n) σ x0 x1 x2 v24 v25))
noncomputable def fX6_appendNatural (σ : g_S) (x0 : Nat) (x1 : Nat) (x2 : Int32) : Option (g_S) := (g_o σ 3 x1).bind fun o1 => (fX3_isZero σ x1).bind fun r2 => if r2.1 = 0 then (LX6_appendNatural_19 g_fuel r2.2 x0 x1 x2 x2 1) else ((g_o r2.2 6 x0).bind fun o26 => (fX6_append r2.2 x0 48).bind fun r27 => some r27)
set_option maxHeartbeats 4000000 in
set_option maxRecDepth 100000 in
theorem tBX6_appendNatural_100 {p : Program} {l : Launch} {e : Env} {s : State} {m : MethodId} {args : Array Value} {below : List Frame} {meth : Method} {c : Code} {D : g_D} {out : g_S} (C : g_C RX6 cX6_appendNatural 7 none True p s m args meth c) (hK : g_K D s)  : ∀ (σ : g_S) (x0 : Nat) (x5 : Int32) (H : Heap) (locs : List Loc) (ls : Array Slot), g_H D σ H → va_S (g_A D) s.heap H locs → lv_has ls 7 [(0, .ref x0), (5, .int x5)] → BX6_appendNatural_100  σ x0 x5 = some out → W p l e rmX6_appendNatural s m args below meth c H locs 0 0 (MQ below (g_Q D out (none)) args s 0 0 (g_A D)) (F0 m 100 ls []) := by
  obtain ⟨hx, hb, hml, hown, hts, hr, hlocks, hin⟩ := id C
  intro σ x0 x5 H locs ls hG hS hl hf
  unfold BX6_appendNatural_100 at hf
  refine lv_aload_n hx hb dX6_appendNatural_100 rfl (lv_at hl 0 rfl) ?_
  refine lv_iload hx hb dX6_appendNatural_101 (lv_at hl 1 rfl) ?_
  obtain ⟨o10, ho10, hf⟩ := g_bind hf
  obtain ⟨r11, hr11, hf⟩ := g_bind hf
  refine g_callV hx hb hml hl.1 hts hown hK hG hS (As := [.int x5]) (rest := []) (tX6_turn l D hr11) vX6_turn mlX6_68 ho10 rfl rfl rfl rfl ⟨Nat.le_of_ble_eq_true rfl, Nat.le_of_ble_eq_true rfl⟩ rfl rfl (Nat.le_of_ble_eq_true rfl) ⟨Nat.le_of_ble_eq_true rfl, Nat.le_of_ble_eq_true rfl⟩ dX6_appendNatural_103 (fun H locs hG hS => ?_)
  cases hf
  exact g_vret hx hb hr hlocks hG hS dX6_appendNatural_106

set_option maxHeartbeats 4000000 in
set_option maxRecDepth 100000 in
theorem tLX6_appendNatural_61 {p : Program} {l : Launch} {e : Env} {s : State} {m : MethodId} {args : Array Value} {below : List Frame} {meth : Method} {c : Code} {D : g_D} {out : g_S} (C : g_C RX6 cX6_appendNatural 7 none True p s m args meth c) (hK : g_K D s)  : ∀ (n : Nat) (σ : g_S) (x0 : Nat) (x2 : Int32) (x3 : Int32) (x4 : Int32) (x5 : Int32) (x6 : Int32) (H : Heap) (locs : List Loc) (ls : Array Slot), g_H D σ H → va_S (g_A D) s.heap H locs → lv_has ls 7 [(0, .ref x0), (2, .int x2), (3, .int x3), (4, .int x4), (5, .int x5), (6, .int x6)] → LX6_appendNatural_61  n σ x0 x2 x3 x4 x5 x6 = some out → W p l e rmX6_appendNatural s m args below meth c H locs 0 0 (MQ below (g_Q D out (none)) args s 0 0 (g_A D)) (F0 m 61 ls [])  := by
  obtain ⟨hx, hb, hml, hown, hts, hr, hlocks, hin⟩ := id C
  intro n
  induction n with
  | zero => intro σ x0 x2 x3 x4 x5 x6 H locs ls hG hS hl hf; cases hf
  | succ n ih =>
    intro σ x0 x2 x3 x4 x5 x6 H locs ls hG hS hl hf
    have hf : (if 2048 ≤ x6 then (BX6_appendNatural_100 σ x0 x5) else ((g_fr σ 6 x0 2).bind fun v12 => (g_o σ 3 v12).bind fun o13 => (fX3_isZero σ v12).bind fun r14 => if r14.1 = 0 then ((g_fr r14.2 6 x0 2).bind fun v16 => (g_o r14.2 3 v16).bind fun o17 => (fX3_divideBy r14.2 v16 x3).bind fun r18 => (g_o r18.2 6 x0).bind fun o19 => (fX6_appendGroup r18.2 x0 r18.1 x2 x4).bind fun r20 => g_let (x6 + 1) fun v21 => (LX6_appendNatural_61  n) r20 x0 x2 x3 x4 x5 v21) else (BX6_appendNatural_100 r14.2 x0 x5))) = some out := hf
    have hk61 := ih
    refine lv_iload hx hb dX6_appendNatural_61 (lv_at hl 5 rfl) ?_
    refine lv_sipush (v := 2048) hx hb dX6_appendNatural_63 (by decide +kernel) ?_
    refine lv_icmp_ge (tgt := 100) hx hb dX6_appendNatural_66 (by decide) (fun c9 => ?_) (fun c9 => ?_)
    · rw [if_pos c9] at hf
      exact tBX6_appendNatural_100 C hK   _ _ _ _ _ _ hG hS (lv_sub hl [0, 4] rfl) hf
    · rw [if_neg c9] at hf
      refine lv_aload_n hx hb dX6_appendNatural_69 rfl (lv_at hl 0 rfl) ?_
      obtain ⟨v12, hv12, hf⟩ := g_bind hf
      refine g_getr hx hb hts hown hK hG hv12 rfl iX6 (by decide) flX6_20 dX6_appendNatural_70 ?_
      obtain ⟨o13, ho13, hf⟩ := g_bind hf
      obtain ⟨r14, hr14, hf⟩ := g_bind hf
      refine g_callV hx hb hml hl.1 hts hown hK hG hS (As := []) (rest := []) (tX3_isZero l D hr14) vX3_isZero mlX6_52 ho13 rfl rfl rfl rfl ⟨Nat.le_of_ble_eq_true rfl, Nat.le_of_ble_eq_true rfl⟩ rfl rfl (Nat.le_of_ble_eq_true rfl) ⟨Nat.le_of_ble_eq_true rfl, Nat.le_of_ble_eq_true rfl⟩ dX6_appendNatural_73 (fun H locs hG hS => ?_)
      refine lv_if_ne (tgt := 100) hx hb dX6_appendNatural_76 (by decide) (fun c15 => ?_) (fun c15 => ?_)
      · rw [if_neg c15] at hf
        exact tBX6_appendNatural_100 C hK   _ _ _ _ _ _ hG hS (lv_sub hl [0, 4] rfl) hf
      · rw [if_pos c15] at hf
        refine lv_aload_n hx hb dX6_appendNatural_79 rfl (lv_at hl 0 rfl) ?_
        refine lv_aload_n hx hb dX6_appendNatural_80 rfl (lv_at hl 0 rfl) ?_
        obtain ⟨v16, hv16, hf⟩ := g_bind hf
        refine g_getr hx hb hts hown hK hG hv16 rfl iX6 (by decide) flX6_20 dX6_appendNatural_81 ?_
        refine lv_iload_n hx hb dX6_appendNatural_84 rfl (lv_at hl 2 rfl) ?_
        obtain ⟨o17, ho17, hf⟩ := g_bind hf
        obtain ⟨r18, hr18, hf⟩ := g_bind hf
        refine g_callV hx hb hml hl.1 hts hown hK hG hS (As := [.int x3]) (rest := [.ref x0]) (tX3_divideBy l D hr18) vX3_divideBy mlX6_60 ho17 rfl rfl rfl rfl ⟨Nat.le_of_ble_eq_true rfl, Nat.le_of_ble_eq_true rfl⟩ rfl rfl (Nat.le_of_ble_eq_true rfl) ⟨Nat.le_of_ble_eq_true rfl, Nat.le_of_ble_eq_true rfl⟩ dX6_appendNatural_85 (fun H locs hG hS => ?_)
        refine lv_iload_n hx hb dX6_appendNatural_88 rfl (lv_at hl 1 rfl) ?_
        refine lv_iload hx hb dX6_appendNatural_89 (lv_at hl 3 rfl) ?_
        obtain ⟨o19, ho19, hf⟩ := g_bind hf
        obtain ⟨r20, hr20, hf⟩ := g_bind hf
        refine g_callV hx hb hml hl.1 hts hown hK hG hS (As := [.int r18.1, .int x2, .int x4]) (rest := []) (tX6_appendGroup l D hr20) vX6_appendGroup mlX6_64 ho19 rfl rfl rfl rfl ⟨Nat.le_of_ble_eq_true rfl, Nat.le_of_ble_eq_true rfl⟩ rfl rfl (Nat.le_of_ble_eq_true rfl) ⟨Nat.le_of_ble_eq_true rfl, Nat.le_of_ble_eq_true rfl⟩ dX6_appendNatural_91 (fun H locs hG hS => ?_)
        obtain ⟨v21, ev21, hf⟩ := g_let_spec hf
        refine lv_iinc (v := v21) (lv' := [(6, .int v21), (0, .ref x0), (2, .int x2), (3, .int x3), (4, .int x4), (5, .int x5)]) hx hb dX6_appendNatural_94 hl (k := 5) rfl (by rw [← ev21]; rfl) (by decide) rfl (fun ls hl => ?_)
        refine lv_goto (tgt := 61) hx hb dX6_appendNatural_97 (by decide) ?_
        exact hk61 _ _ _ _ _ _ _ _ _ _ hG hS (lv_sub hl [1, 2, 3, 4, 5, 0] rfl) hf

set_option maxHeartbeats 4000000 in
set_option maxRecDepth 100000 in
theorem tBX6_appendNatural_44 {p : Program} {l : Launch} {e : Env} {s : State} {m : MethodId} {args : Array Value} {below : List Frame} {meth : Method} {c : Code} {D : g_D} {out : g_S} (C : g_C RX6 cX6_appendNatural 7 none True p s m args meth c) (hK : g_K D s)  : ∀ (σ : g_S) (x0 : Nat) (x1 : Nat) (x2 : Int32) (x3 : Int32) (x4 : Int32) (H : Heap) (locs : List Loc) (ls : Array Slot), g_H D σ H → va_S (g_A D) s.heap H locs → lv_has ls 7 [(0, .ref x0), (1, .ref x1), (2, .int x2), (3, .int x3), (4, .int x4)] → BX6_appendNatural_44  σ x0 x1 x2 x3 x4 = some out → W p l e rmX6_appendNatural s m args below meth c H locs 0 0 (MQ below (g_Q D out (none)) args s 0 0 (g_A D)) (F0 m 44 ls []) := by
  obtain ⟨hx, hb, hml, hown, hts, hr, hlocks, hin⟩ := id C
  intro σ x0 x1 x2 x3 x4 H locs ls hG hS hl hf
  unfold BX6_appendNatural_44 at hf
  refine lv_aload_n hx hb dX6_appendNatural_44 rfl (lv_at hl 0 rfl) ?_
  obtain ⟨v5, hv5, hf⟩ := g_bind hf
  refine g_geti hx hb hts hown hK hG hv5 rfl iX6 (by decide) flX6_24 dX6_appendNatural_45 ?_
  refine lv_istore (lv' := [(5, .int v5), (0, .ref x0), (1, .ref x1), (2, .int x2), (3, .int x3), (4, .int x4)]) hx hb dX6_appendNatural_48 hl (by decide) rfl (fun ls hl => ?_)
  refine lv_aload_n hx hb dX6_appendNatural_50 rfl (lv_at hl 1 rfl) ?_
  obtain ⟨v6, hv6, hf⟩ := g_bind hf
  refine g_getr hx hb hts hown hK hG hv6 rfl iX6 (by decide) flX6_20 dX6_appendNatural_51 ?_
  refine lv_aload_n hx hb dX6_appendNatural_54 rfl (lv_at hl 2 rfl) ?_
  obtain ⟨o7, ho7, hf⟩ := g_bind hf
  obtain ⟨r8, hr8, hf⟩ := g_bind hf
  refine g_callV hx hb hml hl.1 hts hown hK hG hS (As := [.ref x1]) (rest := []) (tX3_become l D hr8) vX3_become mlX6_56 ho7 rfl rfl rfl rfl ⟨Nat.le_of_ble_eq_true rfl, Nat.le_of_ble_eq_true rfl⟩ rfl rfl (Nat.le_of_ble_eq_true rfl) ⟨Nat.le_of_ble_eq_true rfl, Nat.le_of_ble_eq_true rfl⟩ dX6_appendNatural_55 (fun H locs hG hS => ?_)
  refine lv_iconst (v := 0) hx hb dX6_appendNatural_58 (by decide +kernel) ?_
  refine lv_istore (lv' := [(6, .int 0), (5, .int v5), (0, .ref x0), (1, .ref x1), (2, .int x2), (3, .int x3), (4, .int x4)]) hx hb dX6_appendNatural_59 hl (by decide) rfl (fun ls hl => ?_)
  exact tLX6_appendNatural_61 C hK  g_fuel _ _ _ _ _ _ _ _ _ _ hG hS (lv_sub hl [2, 4, 5, 6, 1, 0] rfl) hf

set_option maxHeartbeats 4000000 in
set_option maxRecDepth 100000 in
theorem tLX6_appendNatural_19 {p : Program} {l : Launch} {e : Env} {s : State} {m : MethodId} {args : Array Value} {below : List Frame} {meth : Method} {c : Code} {D : g_D} {out : g_S} (C : g_C RX6 cX6_appendNatural 7 none True p s m args meth c) (hK : g_K D s)  : ∀ (n : Nat) (σ : g_S) (x0 : Nat) (x1 : Nat) (x2 : Int32) (x3 : Int32) (x4 : Int32) (H : Heap) (locs : List Loc) (ls : Array Slot), g_H D σ H → va_S (g_A D) s.heap H locs → lv_has ls 7 [(0, .ref x0), (1, .ref x1), (2, .int x2), (3, .int x3), (4, .int x4)] → LX6_appendNatural_19  n σ x0 x1 x2 x3 x4 = some out → W p l e rmX6_appendNatural s m args below meth c H locs 0 0 (MQ below (g_Q D out (none)) args s 0 0 (g_A D)) (F0 m 19 ls [])  := by
  obtain ⟨hx, hb, hml, hown, hts, hr, hlocks, hin⟩ := id C
  intro n
  induction n with
  | zero => intro σ x0 x1 x2 x3 x4 H locs ls hG hS hl hf; cases hf
  | succ n ih =>
    intro σ x0 x1 x2 x3 x4 H locs ls hG hS hl hf
    have hf : (if 31 ≤ x4 then (BX6_appendNatural_44 σ x0 x1 x2 x3 x4) else (g_if (¬ x2 = 0) <| if (2147483647 / x2) < x3 then (BX6_appendNatural_44 σ x0 x1 x2 x3 x4) else (g_let (x3 * x2) fun v24 => g_let (x4 + 1) fun v25 => (LX6_appendNatural_19  n) σ x0 x1 x2 v24 v25))) = some out := hf
    have hk19 := ih
    refine lv_iload hx hb dX6_appendNatural_19 (lv_at hl 4 rfl) ?_
    refine lv_bipush (v := 31) hx hb dX6_appendNatural_21 (by decide +kernel) ?_
    refine lv_icmp_ge (tgt := 44) hx hb dX6_appendNatural_23 (by decide) (fun c4 => ?_) (fun c4 => ?_)
    · rw [if_pos c4] at hf
      exact tBX6_appendNatural_44 C hK   _ _ _ _ _ _ _ _ _ hG hS (lv_sub hl [0, 1, 2, 3, 4] rfl) hf
    · rw [if_neg c4] at hf
      refine lv_iload_n hx hb dX6_appendNatural_26 rfl (lv_at hl 3 rfl) ?_
      refine lv_ldc (v := 2147483647) hx hb hown (hts _ coX6_55) dX6_appendNatural_27 ?_
      refine lv_iload_n hx hb dX6_appendNatural_29 rfl (lv_at hl 2 rfl) ?_
      obtain ⟨h22, hf⟩ := g_if_spec hf
      refine lv_idiv hx hb dX6_appendNatural_30 h22 ?_
      refine lv_icmp_gt (tgt := 44) hx hb dX6_appendNatural_31 (by decide) (fun c23 => ?_) (fun c23 => ?_)
      · rw [if_pos c23] at hf
        exact tBX6_appendNatural_44 C hK   _ _ _ _ _ _ _ _ _ hG hS (lv_sub hl [0, 1, 2, 3, 4] rfl) hf
      · rw [if_neg c23] at hf
        refine lv_iload_n hx hb dX6_appendNatural_34 rfl (lv_at hl 3 rfl) ?_
        refine lv_iload_n hx hb dX6_appendNatural_35 rfl (lv_at hl 2 rfl) ?_
        refine lv_imul hx hb dX6_appendNatural_36 ?_
        obtain ⟨v24, ev24, hf⟩ := g_let_spec hf
        refine g_topi ev24 ?_
        refine lv_istore_n (lv' := [(3, .int v24), (0, .ref x0), (1, .ref x1), (2, .int x2), (4, .int x4)]) hx hb dX6_appendNatural_37 rfl hl (by decide) rfl (fun ls hl => ?_)
        obtain ⟨v25, ev25, hf⟩ := g_let_spec hf
        refine lv_iinc (v := v25) (lv' := [(4, .int v25), (3, .int v24), (0, .ref x0), (1, .ref x1), (2, .int x2)]) hx hb dX6_appendNatural_38 hl (k := 4) rfl (by rw [← ev25]; rfl) (by decide) rfl (fun ls hl => ?_)
        refine lv_goto (tgt := 19) hx hb dX6_appendNatural_41 (by decide) ?_
        exact hk19 _ _ _ _ _ _ _ _ _ hG hS (lv_sub hl [2, 3, 4, 1, 0] rfl) hf

set_option maxHeartbeats 4000000 in
set_option maxRecDepth 100000 in
theorem tX6_appendNatural (l : Launch) (D : g_D) {σ : g_S} {x0 : Nat} {x1 : Nat} {x2 : Int32} {out : g_S} (hf : fX6_appendNatural σ x0 x1 x2 = some out) : Met l yX6_appendNatural (Cond.code yX6_appendNatural cX6_appendNatural 7 none :: lw_g) rmX6_appendNatural (g_P D σ [.ref x0, .ref x1, .int x2]) (g_Q D out (none)) 0 0 (g_A D) := by
  refine Met.ofW (cc := cX6_appendNatural) (maxL := 7) (ret := none) (by decide +kernel) rfl ?_
  intro p e s m args below meth c s₁ B hml hv
  obtain ⟨rfl, hG, hK⟩ := hv
  have hts : ∀ w ∈ lw_g, w.before _ s = true := fun w h => atoms_spec (ws := (Cond.code yX6_appendNatural cX6_appendNatural 7 none :: lw_g)) B.pre w (List.mem_cons_of_mem _ h)
  have C : g_C RX6 cX6_appendNatural 7 none True p s m _ meth c := ⟨B.exec, B.bytes, hml, findClass_of_methodNamed B.named, hts, B.returns, B.notSynchronized, trivial⟩
  obtain ⟨hx, hb, hml, hown, hts, hr, hlocks, hin⟩ := id C
  have hS : va_S (g_A D) s.heap s.heap [] := va_S.rf
  have hl := lv_entry ([.ref x0, .ref x1, .int x2]) (n := 7) (Nat.le_of_ble_eq_true rfl)
  rw [lg_entry_eq]
  generalize (lg_sl ([.ref x0, .ref x1, .int x2]) ++ List.replicate (7 - (lg_sl ([.ref x0, .ref x1, .int x2])).length) Slot.unset).toArray = ls at hl ⊢
  have hl : lv_has ls 7 [(0, .ref x0), (1, .ref x1), (2, .int x2)] := hl
  unfold fX6_appendNatural at hf
  refine lv_aload_n hx hb dX6_appendNatural_0 rfl (lv_at hl 1 rfl) ?_
  obtain ⟨o1, ho1, hf⟩ := g_bind hf
  obtain ⟨r2, hr2, hf⟩ := g_bind hf
  refine g_callV hx hb hml hl.1 hts hown hK hG hS (As := []) (rest := []) (tX3_isZero l D hr2) vX3_isZero mlX6_52 ho1 rfl rfl rfl rfl ⟨Nat.le_of_ble_eq_true rfl, Nat.le_of_ble_eq_true rfl⟩ rfl rfl (Nat.le_of_ble_eq_true rfl) ⟨Nat.le_of_ble_eq_true rfl, Nat.le_of_ble_eq_true rfl⟩ dX6_appendNatural_1 (fun H locs hG hS => ?_)
  refine lv_if_eq (tgt := 14) hx hb dX6_appendNatural_4 (by decide) (fun c3 => ?_) (fun c3 => ?_)
  · rw [if_pos c3] at hf
    refine lv_iload_n hx hb dX6_appendNatural_14 rfl (lv_at hl 2 rfl) ?_
    refine lv_istore_n (lv' := [(3, .int x2), (0, .ref x0), (1, .ref x1), (2, .int x2)]) hx hb dX6_appendNatural_15 rfl hl (by decide) rfl (fun ls hl => ?_)
    refine lv_iconst (v := 1) hx hb dX6_appendNatural_16 (by decide +kernel) ?_
    refine lv_istore (lv' := [(4, .int 1), (3, .int x2), (0, .ref x0), (1, .ref x1), (2, .int x2)]) hx hb dX6_appendNatural_17 hl (by decide) rfl (fun ls hl => ?_)
    exact tLX6_appendNatural_19 C hK  g_fuel _ _ _ _ _ _ _ _ _ hG hS (lv_sub hl [2, 3, 4, 1, 0] rfl) hf
  · rw [if_neg c3] at hf
    refine lv_aload_n hx hb dX6_appendNatural_7 rfl (lv_at hl 0 rfl) ?_
    refine lv_bipush (v := 48) hx hb dX6_appendNatural_8 (by decide +kernel) ?_
    obtain ⟨o26, ho26, hf⟩ := g_bind hf
    obtain ⟨r27, hr27, hf⟩ := g_bind hf
    refine g_callV hx hb hml hl.1 hts hown hK hG hS (As := [.int 48]) (rest := []) (tX6_append l D hr27) vX6_append mlX6_34 ho26 rfl rfl rfl rfl ⟨Nat.le_of_ble_eq_true rfl, Nat.le_of_ble_eq_true rfl⟩ rfl rfl (Nat.le_of_ble_eq_true rfl) ⟨Nat.le_of_ble_eq_true rfl, Nat.le_of_ble_eq_true rfl⟩ dX6_appendNatural_10 (fun H locs hG hS => ?_)
    cases hf
    exact g_vret hx hb hr hlocks hG hS dX6_appendNatural_13

def rmX6_become : Room := { frames := 6, cells := 0, slots := 0, locals := 136 }
noncomputable def BX6_become_49  (σ : g_S)  : Option (g_S) := some σ
noncomputable def BX6_become_18  (σ : g_S) (x0 : Nat) (x1 : Nat) (x2 : Int32) : Option (g_S) := (g_fr σ 2 x1 0).bind fun v4 => (g_o σ 6 x0).bind fun o5 => (fX6_appendNatural σ x0 v4 x2).bind fun r6 => (g_o r6 2 x1).bind fun o7 => (fX2_isWhole r6 x1).bind fun r8 => if r8.1 = 0 then ((g_o r8.2 6 x0).bind fun o10 => (fX6_append r8.2 x0 47).bind fun r11 => (g_fr r11 2 x1 1).bind fun v12 => (g_o r11 6 x0).bind fun o13 => (fX6_appendNatural r11 x0 v12 x2).bind fun r14 => BX6_become_49 r14) else (BX6_become_49 r8.2)
noncomputable def fX6_become (σ : g_S) (x0 : Nat) (x1 : Nat) (x2 : Int32) : Option (g_S) := (g_p σ 6 x0 1 (.int 0)).bind fun σ1 => (g_fi σ1 2 x1 2).bind fun v2 => if v2 = 0 then (BX6_become_18 σ1 x0 x1 x2) else ((g_o σ1 6 x0).bind fun o15 => (fX6_append σ1 x0 45).bind fun r16 => BX6_become_18 r16 x0 x1 x2)
set_option maxHeartbeats 4000000 in
set_option maxRecDepth 100000 in
theorem tBX6_become_49 {p : Program} {l : Launch} {e : Env} {s : State} {m : MethodId} {args : Array Value} {below : List Frame} {meth : Method} {c : Code} {D : g_D} {out : g_S} (C : g_C RX6 cX6_become 3 none True p s m args meth c) (hK : g_K D s)  : ∀ (σ : g_S)  (H : Heap) (locs : List Loc) (ls : Array Slot), g_H D σ H → va_S (g_A D) s.heap H locs → lv_has ls 3 [] → BX6_become_49  σ  = some out → W p l e rmX6_become s m args below meth c H locs 0 0 (MQ below (g_Q D out (none)) args s 0 0 (g_A D)) (F0 m 49 ls []) := by
  obtain ⟨hx, hb, hml, hown, hts, hr, hlocks, hin⟩ := id C
  intro σ  H locs ls hG hS hl hf
  unfold BX6_become_49 at hf
  cases hf
  exact g_vret hx hb hr hlocks hG hS dX6_become_49

set_option maxHeartbeats 4000000 in
set_option maxRecDepth 100000 in
theorem tBX6_become_18 {p : Program} {l : Launch} {e : Env} {s : State} {m : MethodId} {args : Array Value} {below : List Frame} {meth : Method} {c : Code} {D : g_D} {out : g_S} (C : g_C RX6 cX6_become 3 none True p s m args meth c) (hK : g_K D s)  : ∀ (σ : g_S) (x0 : Nat) (x1 : Nat) (x2 : Int32) (H : Heap) (locs : List Loc) (ls : Array Slot), g_H D σ H → va_S (g_A D) s.heap H locs → lv_has ls 3 [(0, .ref x0), (1, .ref x1), (2, .int x2)] → BX6_become_18  σ x0 x1 x2 = some out → W p l e rmX6_become s m args below meth c H locs 0 0 (MQ below (g_Q D out (none)) args s 0 0 (g_A D)) (F0 m 18 ls []) := by
  obtain ⟨hx, hb, hml, hown, hts, hr, hlocks, hin⟩ := id C
  intro σ x0 x1 x2 H locs ls hG hS hl hf
  unfold BX6_become_18 at hf
  refine lv_aload_n hx hb dX6_become_18 rfl (lv_at hl 0 rfl) ?_
  refine lv_aload_n hx hb dX6_become_19 rfl (lv_at hl 1 rfl) ?_
  obtain ⟨v4, hv4, hf⟩ := g_bind hf
  refine g_getr hx hb hts hown hK hG hv4 rfl iX2 (by decide) flX6_38 dX6_become_20 ?_
  refine lv_iload_n hx hb dX6_become_23 rfl (lv_at hl 2 rfl) ?_
  obtain ⟨o5, ho5, hf⟩ := g_bind hf
  obtain ⟨r6, hr6, hf⟩ := g_bind hf
  refine g_callV hx hb hml hl.1 hts hown hK hG hS (As := [.ref v4, .int x2]) (rest := []) (tX6_appendNatural l D hr6) vX6_appendNatural mlX6_41 ho5 rfl rfl rfl rfl ⟨Nat.le_of_ble_eq_true rfl, Nat.le_of_ble_eq_true rfl⟩ rfl rfl (Nat.le_of_ble_eq_true rfl) ⟨Nat.le_of_ble_eq_true rfl, Nat.le_of_ble_eq_true rfl⟩ dX6_become_24 (fun H locs hG hS => ?_)
  refine lv_aload_n hx hb dX6_become_27 rfl (lv_at hl 1 rfl) ?_
  obtain ⟨o7, ho7, hf⟩ := g_bind hf
  obtain ⟨r8, hr8, hf⟩ := g_bind hf
  refine g_callV hx hb hml hl.1 hts hown hK hG hS (As := []) (rest := []) (tX2_isWhole l D hr8) vX2_isWhole mlX6_45 ho7 rfl rfl rfl rfl ⟨Nat.le_of_ble_eq_true rfl, Nat.le_of_ble_eq_true rfl⟩ rfl rfl (Nat.le_of_ble_eq_true rfl) ⟨Nat.le_of_ble_eq_true rfl, Nat.le_of_ble_eq_true rfl⟩ dX6_become_28 (fun H locs hG hS => ?_)
  refine lv_if_ne (tgt := 49) hx hb dX6_become_31 (by decide) (fun c9 => ?_) (fun c9 => ?_)
  · rw [if_neg c9] at hf
    exact tBX6_become_49 C hK   _  _ _ _ hG hS (lv_sub hl [] rfl) hf
  · rw [if_pos c9] at hf
    refine lv_aload_n hx hb dX6_become_34 rfl (lv_at hl 0 rfl) ?_
    refine lv_bipush (v := 47) hx hb dX6_become_35 (by decide +kernel) ?_
    obtain ⟨o10, ho10, hf⟩ := g_bind hf
    obtain ⟨r11, hr11, hf⟩ := g_bind hf
    refine g_callV hx hb hml hl.1 hts hown hK hG hS (As := [.int 47]) (rest := []) (tX6_append l D hr11) vX6_append mlX6_34 ho10 rfl rfl rfl rfl ⟨Nat.le_of_ble_eq_true rfl, Nat.le_of_ble_eq_true rfl⟩ rfl rfl (Nat.le_of_ble_eq_true rfl) ⟨Nat.le_of_ble_eq_true rfl, Nat.le_of_ble_eq_true rfl⟩ dX6_become_37 (fun H locs hG hS => ?_)
    refine lv_aload_n hx hb dX6_become_40 rfl (lv_at hl 0 rfl) ?_
    refine lv_aload_n hx hb dX6_become_41 rfl (lv_at hl 1 rfl) ?_
    obtain ⟨v12, hv12, hf⟩ := g_bind hf
    refine g_getr hx hb hts hown hK hG hv12 rfl iX2 (by decide) flX6_49 dX6_become_42 ?_
    refine lv_iload_n hx hb dX6_become_45 rfl (lv_at hl 2 rfl) ?_
    obtain ⟨o13, ho13, hf⟩ := g_bind hf
    obtain ⟨r14, hr14, hf⟩ := g_bind hf
    refine g_callV hx hb hml hl.1 hts hown hK hG hS (As := [.ref v12, .int x2]) (rest := []) (tX6_appendNatural l D hr14) vX6_appendNatural mlX6_41 ho13 rfl rfl rfl rfl ⟨Nat.le_of_ble_eq_true rfl, Nat.le_of_ble_eq_true rfl⟩ rfl rfl (Nat.le_of_ble_eq_true rfl) ⟨Nat.le_of_ble_eq_true rfl, Nat.le_of_ble_eq_true rfl⟩ dX6_become_46 (fun H locs hG hS => ?_)
    exact tBX6_become_49 C hK   _  _ _ _ hG hS (lv_sub hl [] rfl) hf

set_option maxHeartbeats 4000000 in
set_option maxRecDepth 100000 in
theorem tX6_become (l : Launch) (D : g_D) {σ : g_S} {x0 : Nat} {x1 : Nat} {x2 : Int32} {out : g_S} (hf : fX6_become σ x0 x1 x2 = some out) : Met l yX6_become (Cond.code yX6_become cX6_become 3 none :: lw_g) rmX6_become (g_P D σ [.ref x0, .ref x1, .int x2]) (g_Q D out (none)) 0 0 (g_A D) := by
  refine Met.ofW (cc := cX6_become) (maxL := 3) (ret := none) (by decide +kernel) rfl ?_
  intro p e s m args below meth c s₁ B hml hv
  obtain ⟨rfl, hG, hK⟩ := hv
  have hts : ∀ w ∈ lw_g, w.before _ s = true := fun w h => atoms_spec (ws := (Cond.code yX6_become cX6_become 3 none :: lw_g)) B.pre w (List.mem_cons_of_mem _ h)
  have C : g_C RX6 cX6_become 3 none True p s m _ meth c := ⟨B.exec, B.bytes, hml, findClass_of_methodNamed B.named, hts, B.returns, B.notSynchronized, trivial⟩
  obtain ⟨hx, hb, hml, hown, hts, hr, hlocks, hin⟩ := id C
  have hS : va_S (g_A D) s.heap s.heap [] := va_S.rf
  have hl := lv_entry ([.ref x0, .ref x1, .int x2]) (n := 3) (Nat.le_of_ble_eq_true rfl)
  rw [lg_entry_eq]
  generalize (lg_sl ([.ref x0, .ref x1, .int x2]) ++ List.replicate (3 - (lg_sl ([.ref x0, .ref x1, .int x2])).length) Slot.unset).toArray = ls at hl ⊢
  have hl : lv_has ls 3 [(0, .ref x0), (1, .ref x1), (2, .int x2)] := hl
  unfold fX6_become at hf
  refine lv_aload_n hx hb dX6_become_0 rfl (lv_at hl 0 rfl) ?_
  refine lv_iconst (v := 0) hx hb dX6_become_1 (by decide +kernel) ?_
  obtain ⟨σ1, hσ1, hf⟩ := g_bind hf
  refine g_put hx hb hts hown hK hG hS hσ1 rfl iX6 tyX6 tyX6_ok nmX6 (by decide) flX6_24 rfl rfl rfl dX6_become_2 (fun H locs hG hS => ?_)
  refine lv_aload_n hx hb dX6_become_5 rfl (lv_at hl 1 rfl) ?_
  obtain ⟨v2, hv2, hf⟩ := g_bind hf
  refine g_geti hx hb hts hown hK hG hv2 rfl iX2 (by decide) flX6_28 dX6_become_6 ?_
  refine lv_if_eq (tgt := 18) hx hb dX6_become_9 (by decide) (fun c3 => ?_) (fun c3 => ?_)
  · rw [if_pos c3] at hf
    exact tBX6_become_18 C hK   _ _ _ _ _ _ _ hG hS (lv_sub hl [0, 1, 2] rfl) hf
  · rw [if_neg c3] at hf
    refine lv_aload_n hx hb dX6_become_12 rfl (lv_at hl 0 rfl) ?_
    refine lv_bipush (v := 45) hx hb dX6_become_13 (by decide +kernel) ?_
    obtain ⟨o15, ho15, hf⟩ := g_bind hf
    obtain ⟨r16, hr16, hf⟩ := g_bind hf
    refine g_callV hx hb hml hl.1 hts hown hK hG hS (As := [.int 45]) (rest := []) (tX6_append l D hr16) vX6_append mlX6_34 ho15 rfl rfl rfl rfl ⟨Nat.le_of_ble_eq_true rfl, Nat.le_of_ble_eq_true rfl⟩ rfl rfl (Nat.le_of_ble_eq_true rfl) ⟨Nat.le_of_ble_eq_true rfl, Nat.le_of_ble_eq_true rfl⟩ dX6_become_15 (fun H locs hG hS => ?_)
    exact tBX6_become_18 C hK   _ _ _ _ _ _ _ hG hS (lv_sub hl [0, 1, 2] rfl) hf

