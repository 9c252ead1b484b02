def rmX5_init : Room := { frames := 1, cells := 1, slots := 1400, locals := 20 }
noncomputable def fX5_init (σ : g_S) (x0 : Nat) : Option (g_S) := g_let σ.2 fun a2 => g_let (g_mk σ (.inl (1, 1400, .inl (fun _ => 0)))) fun σ1 => (g_p σ1 5 x0 0 (.ref a2)).bind fun σ3 => some σ3
set_option maxHeartbeats 4000000 in
set_option maxRecDepth 100000 in
theorem tX5_init (l : Launch) (D : g_D) {σ : g_S} {x0 : Nat} {out : g_S} (hf : fX5_init σ x0 = some out) : Met l yX5_init (Cond.code yX5_init cX5_init 1 none :: lw_g) rmX5_init (g_P D σ [.ref x0]) (g_Q D out (none)) 1 1400 (g_A D) := by
  refine Met.ofW (cc := cX5_init) (maxL := 1) (ret := none) (by decide +kernel) rfl ?_
  intro p e s m args below meth c s₁ B hml hv
  obtain ⟨rfl, hG, hK⟩ := hv
  have hts : ∀ w ∈ lw_g, w.before _ s = true := fun w h => atoms_spec (ws := (Cond.code yX5_init cX5_init 1 none :: lw_g)) B.pre w (List.mem_cons_of_mem _ h)
  have C : g_C RX5 cX5_init 1 none (meth.name = "<init>") p s m _ meth c := ⟨B.exec, B.bytes, hml, findClass_of_methodNamed B.named, hts, B.returns, B.notSynchronized, (name_of_methodNamed B.named B.method).1⟩
  obtain ⟨hx, hb, hml, hown, hts, hr, hlocks, hin⟩ := id C
  have hS : va_S (g_A D) s.heap s.heap [] := va_S.rf
  have hl := lv_entry ([.ref x0]) (n := 1) (Nat.le_of_ble_eq_true rfl)
  rw [lg_entry_eq]
  generalize (lg_sl ([.ref x0]) ++ List.replicate (1 - (lg_sl ([.ref x0])).length) Slot.unset).toArray = ls at hl ⊢
  have hl : lv_has ls 1 [(0, .ref x0)] := hl
  unfold fX5_init at hf
  refine lv_aload_n hx hb dX5_init_0 rfl (lv_at hl 0 rfl) ?_
  refine W.objInit hx hb hown (hts _ oi_lX5) (hts _ oi_i) (hts _ oi_c) rfl (by rw [hml]; exact hl.1) rfl dX5_init_1 (Nat.le_of_ble_eq_true rfl) (Nat.le_of_ble_eq_true rfl) ?_
  refine W.eq (g2 := F0 m 4 ls []) rfl ?_
  refine lv_aload_n hx hb dX5_init_4 rfl (lv_at hl 0 rfl) ?_
  refine lv_sipush (v := 1400) hx hb dX5_init_5 (by decide +kernel) ?_
  obtain ⟨a2, ea2, hf⟩ := g_let_spec hf
  obtain ⟨σ1, eσ1, hf⟩ := g_let_spec hf
  refine g_newa (N := 1400) (t := 1) (f := .inl (fun _ => 0)) (atype := .byte) hx hb hts hK hG hS ac_byte (fun _ => rfl) rfl (fun _ => rfl) (by decide) rfl (Nat.le_of_ble_eq_true rfl) (Nat.le_of_ble_eq_true rfl) (Nat.le_of_ble_eq_true rfl) dX5_init_8 (fun H hG hS => ?_)
  rw [eσ1] at hG
  rw [ea2]
  refine W.cs (cells' := 1) (slots' := 1400) rfl rfl ?_
  obtain ⟨σ3, hσ3, hf⟩ := g_bind hf
  refine g_putF hx hb hts hown hin hK hG hS hσ3 rfl iX5 tyX5 tyX5_ok nmX5 (by decide) flX5_9 rfl rfl rfl rfl dX5_init_10 (fun H locs hG hS => ?_)
  cases hf
  exact g_vret hx hb hr hlocks hG hS dX5_init_13

def rmX5_append : Room := { frames := 0, cells := 0, slots := 0, locals := 0 }
noncomputable def LX5_append_3  : Nat → g_S → Nat → Int32 → Int32 → Option (g_S)
  | 0, _, _, _, _ => none
  | n + 1, σ, x0, x1, x2 => if x2 < 0 then (some σ) else ((g_fr σ 5 x0 0).bind fun v2 => (g_fi σ 5 x0 1).bind fun v3 => (g_si σ 1 v2 v3 (vp_nar .byte ((g_ishr x1 x2).toInt8.toInt32))).bind fun σ4 => (g_fi σ4 5 x0 1).bind fun v5 => (g_p σ4 5 x0 1 (.int (v5 + 1))).bind fun σ6 => g_let (x2 + (-8)) fun v7 => (LX5_append_3  n) σ6 x0 x1 v7)
noncomputable def fX5_append (σ : g_S) (x0 : Nat) (x1 : Int32) : Option (g_S) := LX5_append_3 g_fuel σ x0 x1 24
set_option maxHeartbeats 4000000 in
set_option maxRecDepth 100000 in
theorem tLX5_append_3 {p : Program} {l : Launch} {e : Env} {s : State} {m : MethodId} {args : Array Value} {below : List Frame} {meth : Method} {c : Code} {D : g_D} {out : g_S} (C : g_C RX5 cX5_append 3 none True p s m args meth c) (hK : g_K D s)  : ∀ (n : Nat) (σ : g_S) (x0 : Nat) (x1 : Int32) (x2 : Int32) (H : Heap) (locs : List Loc) (ls : Array Slot), g_H D σ H → va_S (g_A D) s.heap H locs → lv_has ls 3 [(0, .ref x0), (1, .int x1), (2, .int x2)] → LX5_append_3  n σ x0 x1 x2 = some out → W p l e rmX5_append s m args below meth c H locs 0 0 (MQ below (g_Q D out (none)) args s 0 0 (g_A D)) (F0 m 3 ls [])  := by
  obtain ⟨hx, hb, hml, hown, hts, hr, hlocks, hin⟩ := id C
  intro n
  induction n with
  | zero => intro σ x0 x1 x2 H locs ls hG hS hl hf; cases hf
  | succ n ih =>
    intro σ x0 x1 x2 H locs ls hG hS hl hf
    have hf : (if x2 < 0 then (some σ) else ((g_fr σ 5 x0 0).bind fun v2 => (g_fi σ 5 x0 1).bind fun v3 => (g_si σ 1 v2 v3 (vp_nar .byte ((g_ishr x1 x2).toInt8.toInt32))).bind fun σ4 => (g_fi σ4 5 x0 1).bind fun v5 => (g_p σ4 5 x0 1 (.int (v5 + 1))).bind fun σ6 => g_let (x2 + (-8)) fun v7 => (LX5_append_3  n) σ6 x0 x1 v7)) = some out := hf
    have hk3 := ih
    refine lv_iload_n hx hb dX5_append_3 rfl (lv_at hl 2 rfl) ?_
    refine lv_if_lt (tgt := 36) hx hb dX5_append_4 (by decide) (fun c1 => ?_) (fun c1 => ?_)
    · rw [if_pos c1] at hf
      cases hf
      exact g_vret hx hb hr hlocks hG hS dX5_append_36
    · rw [if_neg c1] at hf
      refine lv_aload_n hx hb dX5_append_7 rfl (lv_at hl 0 rfl) ?_
      obtain ⟨v2, hv2, hf⟩ := g_bind hf
      refine g_getr hx hb hts hown hK hG hv2 rfl iX5 (by decide) flX5_9 dX5_append_8 ?_
      refine lv_aload_n hx hb dX5_append_11 rfl (lv_at hl 0 rfl) ?_
      obtain ⟨v3, hv3, hf⟩ := g_bind hf
      refine g_geti hx hb hts hown hK hG hv3 rfl iX5 (by decide) flX5_15 dX5_append_12 ?_
      refine lv_iload_n hx hb dX5_append_15 rfl (lv_at hl 1 rfl) ?_
      refine lv_iload_n hx hb dX5_append_16 rfl (lv_at hl 2 rfl) ?_
      refine lv_ishr hx hb dX5_append_17 ?_
      refine g_topi (y := g_ishr x1 x2) rfl ?_
      refine lv_i2b (v := (g_ishr x1 x2).toInt8.toInt32) hx hb dX5_append_18 rfl ?_
      obtain ⟨σ4, hσ4, hf⟩ := g_bind hf
      refine g_bast hx hb hK hG hS hσ4 rfl dX5_append_19 (fun H locs hG hS => ?_)
      refine lv_aload_n hx hb dX5_append_20 rfl (lv_at hl 0 rfl) ?_
      refine lv_dup hx hb dX5_append_21 rfl ?_
      obtain ⟨v5, hv5, hf⟩ := g_bind hf
      refine g_geti hx hb hts hown hK hG hv5 rfl iX5 (by decide) flX5_15 dX5_append_22 ?_
      refine lv_iconst (v := 1) hx hb dX5_append_25 (by decide +kernel) ?_
      refine lv_iadd hx hb dX5_append_26 ?_
      obtain ⟨σ6, hσ6, hf⟩ := g_bind hf
      refine g_put hx hb hts hown hK hG hS hσ6 rfl iX5 tyX5 tyX5_ok nmX5 (by decide) flX5_15 rfl rfl rfl dX5_append_27 (fun H locs hG hS => ?_)
      obtain ⟨v7, ev7, hf⟩ := g_let_spec hf
      refine lv_iinc (v := v7) (lv' := [(2, .int v7), (0, .ref x0), (1, .int x1)]) hx hb dX5_append_30 hl (k := 2) rfl (by rw [← ev7]; rfl) (by decide) rfl (fun ls hl => ?_)
      refine lv_goto (tgt := 3) hx hb dX5_append_33 (by decide) ?_
      exact hk3 _ _ _ _ _ _ _ hG hS (lv_sub hl [1, 2, 0] rfl) hf

set_option maxHeartbeats 4000000 in
set_option maxRecDepth 100000 in
theorem tX5_append (l : Launch) (D : g_D) {σ : g_S} {x0 : Nat} {x1 : Int32} {out : g_S} (hf : fX5_append σ x0 x1 = some out) : Met l yX5_append (Cond.code yX5_append cX5_append 3 none :: lw_g) rmX5_append (g_P D σ [.ref x0, .int x1]) (g_Q D out (none)) 0 0 (g_A D) := by
  refine Met.ofW (cc := cX5_append) (maxL := 3) (ret := none) (by decide +kernel) rfl ?_
  intro p e s m args below meth c s₁ B hml hv
  obtain ⟨rfl, hG, hK⟩ := hv
  have hts : ∀ w ∈ lw_g, w.before _ s = true := fun w h => atoms_spec (ws := (Cond.code yX5_append cX5_append 3 none :: lw_g)) B.pre w (List.mem_cons_of_mem _ h)
  have C : g_C RX5 cX5_append 3 none True p s m _ meth c := ⟨B.exec, B.bytes, hml, findClass_of_methodNamed B.named, hts, B.returns, B.notSynchronized, trivial⟩
  obtain ⟨hx, hb, hml, hown, hts, hr, hlocks, hin⟩ := id C
  have hS : va_S (g_A D) s.heap s.heap [] := va_S.rf
  have hl := lv_entry ([.ref x0, .int x1]) (n := 3) (Nat.le_of_ble_eq_true rfl)
  rw [lg_entry_eq]
  generalize (lg_sl ([.ref x0, .int x1]) ++ List.replicate (3 - (lg_sl ([.ref x0, .int x1])).length) Slot.unset).toArray = ls at hl ⊢
  have hl : lv_has ls 3 [(0, .ref x0), (1, .int x1)] := hl
  unfold fX5_append at hf
  refine lv_bipush (v := 24) hx hb dX5_append_0 (by decide +kernel) ?_
  refine lv_istore_n (lv' := [(2, .int 24), (0, .ref x0), (1, .int x1)]) hx hb dX5_append_2 rfl hl (by decide) rfl (fun ls hl => ?_)
  exact tLX5_append_3 C hK  g_fuel _ _ _ _ _ _ _ hG hS (lv_sub hl [1, 2, 0] rfl) hf

def rmX5_take : Room := { frames := 0, cells := 0, slots := 0, locals := 0 }
noncomputable def BX5_take_36  (σ : g_S)  : Option (Int32 × g_S) := some (0, σ)
noncomputable def fX5_take (σ : g_S) (x0 : Nat) (x1 : Int32) : Option (Int32 × g_S) := (g_fi σ 5 x0 2).bind fun v1 => (g_fi σ 5 x0 1).bind fun v2 => if v2 ≤ v1 then (BX5_take_36 σ) else ((g_fr σ 5 x0 0).bind fun v4 => (g_fi σ 5 x0 2).bind fun v5 => (g_li σ 1 v4 v5).bind fun v6 => if v6 = x1 then ((g_fi σ 5 x0 2).bind fun v8 => (g_p σ 5 x0 2 (.int (v8 + 1))).bind fun σ9 => some (1, σ9)) else (BX5_take_36 σ))
set_option maxHeartbeats 4000000 in
set_option maxRecDepth 100000 in
theorem tBX5_take_36 {p : Program} {l : Launch} {e : Env} {s : State} {m : MethodId} {args : Array Value} {below : List Frame} {meth : Method} {c : Code} {D : g_D} {out : Int32 × g_S} (C : g_C RX5 cX5_take 2 (some .boolean) True p s m args meth c) (hK : g_K D s)  : ∀ (σ : g_S)  (H : Heap) (locs : List Loc) (ls : Array Slot), g_H D σ H → va_S (g_A D) s.heap H locs → lv_has ls 2 [] → BX5_take_36  σ  = some out → W p l e rmX5_take s m args below meth c H locs 0 0 (MQ below (g_Q D out.2 (some (.int out.1))) args s 0 0 (g_A D)) (F0 m 36 ls []) := by
  obtain ⟨hx, hb, hml, hown, hts, hr, hlocks, hin⟩ := id C
  intro σ  H locs ls hG hS hl hf
  unfold BX5_take_36 at hf
  refine lv_iconst (v := 0) hx hb dX5_take_36 (by decide +kernel) ?_
  cases hf
  exact g_zret hx hb hr hlocks (Or.inl rfl) hG hS dX5_take_37

set_option maxHeartbeats 4000000 in
set_option maxRecDepth 100000 in
theorem tX5_take (l : Launch) (D : g_D) {σ : g_S} {x0 : Nat} {x1 : Int32} {out : Int32 × g_S} (hf : fX5_take σ x0 x1 = some out) : Met l yX5_take (Cond.code yX5_take cX5_take 2 (some .boolean) :: lw_g) rmX5_take (g_P D σ [.ref x0, .int x1]) (g_Q D out.2 (some (.int out.1))) 0 0 (g_A D) := by
  refine Met.ofW (cc := cX5_take) (maxL := 2) (ret := (some .boolean)) (by decide +kernel) rfl ?_
  intro p e s m args below meth c s₁ B hml hv
  obtain ⟨rfl, hG, hK⟩ := hv
  have hts : ∀ w ∈ lw_g, w.before _ s = true := fun w h => atoms_spec (ws := (Cond.code yX5_take cX5_take 2 (some .boolean) :: lw_g)) B.pre w (List.mem_cons_of_mem _ h)
  have C : g_C RX5 cX5_take 2 (some .boolean) True p s m _ meth c := ⟨B.exec, B.bytes, hml, findClass_of_methodNamed B.named, hts, B.returns, B.notSynchronized, trivial⟩
  obtain ⟨hx, hb, hml, hown, hts, hr, hlocks, hin⟩ := id C
  have hS : va_S (g_A D) s.heap s.heap [] := va_S.rf
  have hl := lv_entry ([.ref x0, .int x1]) (n := 2) (Nat.le_of_ble_eq_true rfl)
  rw [lg_entry_eq]
  generalize (lg_sl ([.ref x0, .int x1]) ++ List.replicate (2 - (lg_sl ([.ref x0, .int x1])).length) Slot.unset).toArray = ls at hl ⊢
  have hl : lv_has ls 2 [(0, .ref x0), (1, .int x1)] := hl
  unfold fX5_take at hf
  refine lv_aload_n hx hb dX5_take_0 rfl (lv_at hl 0 rfl) ?_
  obtain ⟨v1, hv1, hf⟩ := g_bind hf
  refine g_geti hx hb hts hown hK hG hv1 rfl iX5 (by decide) flX5_19 dX5_take_1 ?_
  refine lv_aload_n hx hb dX5_take_4 rfl (lv_at hl 0 rfl) ?_
  obtain ⟨v2, hv2, hf⟩ := g_bind hf
  refine g_geti hx hb hts hown hK hG hv2 rfl iX5 (by decide) flX5_15 dX5_take_5 ?_
  refine lv_icmp_ge (tgt := 36) hx hb dX5_take_8 (by decide) (fun c3 => ?_) (fun c3 => ?_)
  · rw [if_pos c3] at hf
    exact tBX5_take_36 C hK   _  _ _ _ hG hS (lv_sub hl [] rfl) hf
  · rw [if_neg c3] at hf
    refine lv_aload_n hx hb dX5_take_11 rfl (lv_at hl 0 rfl) ?_
    obtain ⟨v4, hv4, hf⟩ := g_bind hf
    refine g_getr hx hb hts hown hK hG hv4 rfl iX5 (by decide) flX5_9 dX5_take_12 ?_
    refine lv_aload_n hx hb dX5_take_15 rfl (lv_at hl 0 rfl) ?_
    obtain ⟨v5, hv5, hf⟩ := g_bind hf
    refine g_geti hx hb hts hown hK hG hv5 rfl iX5 (by decide) flX5_19 dX5_take_16 ?_
    obtain ⟨v6, hv6, hf⟩ := g_bind hf
    refine g_bald hx hb hK hG hv6 rfl dX5_take_19 ?_
    refine lv_iload_n hx hb dX5_take_20 rfl (lv_at hl 1 rfl) ?_
    refine lv_icmp_ne (tgt := 36) hx hb dX5_take_21 (by decide) (fun c7 => ?_) (fun c7 => ?_)
    · rw [if_neg c7] at hf
      exact tBX5_take_36 C hK   _  _ _ _ hG hS (lv_sub hl [] rfl) hf
    · rw [if_pos c7] at hf
      refine lv_aload_n hx hb dX5_take_24 rfl (lv_at hl 0 rfl) ?_
      refine lv_dup hx hb dX5_take_25 rfl ?_
      obtain ⟨v8, hv8, hf⟩ := g_bind hf
      refine g_geti hx hb hts hown hK hG hv8 rfl iX5 (by decide) flX5_19 dX5_take_26 ?_
      refine lv_iconst (v := 1) hx hb dX5_take_29 (by decide +kernel) ?_
      refine lv_iadd hx hb dX5_take_30 ?_
      obtain ⟨σ9, hσ9, hf⟩ := g_bind hf
      refine g_put hx hb hts hown hK hG hS hσ9 rfl iX5 tyX5 tyX5_ok nmX5 (by decide) flX5_19 rfl rfl rfl dX5_take_31 (fun H locs hG hS => ?_)
      refine lv_iconst (v := 1) hx hb dX5_take_34 (by decide +kernel) ?_
      cases hf
      exact g_zret hx hb hr hlocks (Or.inr rfl) hG hS dX5_take_35

def rmX5_isAtDigit : Room := { frames := 0, cells := 0, slots := 0, locals := 0 }
noncomputable def BX5_isAtDigit_44  (σ : g_S) (y0 : Int32) : Option (Int32 × g_S) := g_if (y0 = 0 ∨ y0 = 1) <| some (y0, σ)
noncomputable def BX5_isAtDigit_43  (σ : g_S)  : Option (Int32 × g_S) := BX5_isAtDigit_44 σ 0
noncomputable def fX5_isAtDigit (σ : g_S) (x0 : Nat) : Option (Int32 × g_S) := (g_fi σ 5 x0 2).bind fun v1 => (g_fi σ 5 x0 1).bind fun v2 => if v2 ≤ v1 then (BX5_isAtDigit_43 σ) else ((g_fr σ 5 x0 0).bind fun v5 => (g_fi σ 5 x0 2).bind fun v6 => (g_li σ 1 v5 v6).bind fun v7 => if v7 < 48 then (BX5_isAtDigit_43 σ) else ((g_fr σ 5 x0 0).bind fun v9 => (g_fi σ 5 x0 2).bind fun v10 => (g_li σ 1 v9 v10).bind fun v11 => if 57 < v11 then (BX5_isAtDigit_43 σ) else (BX5_isAtDigit_44 σ 1)))
set_option maxHeartbeats 4000000 in
set_option maxRecDepth 100000 in
theorem tBX5_isAtDigit_44 {p : Program} {l : Launch} {e : Env} {s : State} {m : MethodId} {args : Array Value} {below : List Frame} {meth : Method} {c : Code} {D : g_D} {out : Int32 × g_S} (C : g_C RX5 cX5_isAtDigit 1 (some .boolean) True p s m args meth c) (hK : g_K D s)  : ∀ (σ : g_S) (y0 : Int32) (H : Heap) (locs : List Loc) (ls : Array Slot), g_H D σ H → va_S (g_A D) s.heap H locs → lv_has ls 1 [] → BX5_isAtDigit_44  σ y0 = some out → W p l e rmX5_isAtDigit s m args below meth c H locs 0 0 (MQ below (g_Q D out.2 (some (.int out.1))) args s 0 0 (g_A D)) (F0 m 44 ls [.int y0]) := by
  obtain ⟨hx, hb, hml, hown, hts, hr, hlocks, hin⟩ := id C
  intro σ y0 H locs ls hG hS hl hf
  unfold BX5_isAtDigit_44 at hf
  obtain ⟨z4, hf⟩ := g_if_spec hf
  cases hf
  exact g_zret hx hb hr hlocks z4 hG hS dX5_isAtDigit_44

set_option maxHeartbeats 4000000 in
set_option maxRecDepth 100000 in
theorem tBX5_isAtDigit_43 {p : Program} {l : Launch} {e : Env} {s : State} {m : MethodId} {args : Array Value} {below : List Frame} {meth : Method} {c : Code} {D : g_D} {out : Int32 × g_S} (C : g_C RX5 cX5_isAtDigit 1 (some .boolean) True p s m args meth c) (hK : g_K D s)  : ∀ (σ : g_S)  (H : Heap) (locs : List Loc) (ls : Array Slot), g_H D σ H → va_S (g_A D) s.heap H locs → lv_has ls 1 [] → BX5_isAtDigit_43  σ  = some out → W p l e rmX5_isAtDigit s m args below meth c H locs 0 0 (MQ below (g_Q D out.2 (some (.int out.1))) args s 0 0 (g_A D)) (F0 m 43 ls []) := by
  obtain ⟨hx, hb, hml, hown, hts, hr, hlocks, hin⟩ := id C
  intro σ  H locs ls hG hS hl hf
  unfold BX5_isAtDigit_43 at hf
  refine lv_iconst (v := 0) hx hb dX5_isAtDigit_43 (by decide +kernel) ?_
  exact tBX5_isAtDigit_44 C hK   _ _ _ _ _ hG hS (lv_sub hl [] rfl) hf

set_option maxHeartbeats 4000000 in
set_option maxRecDepth 100000 in
theorem tX5_isAtDigit (l : Launch) (D : g_D) {σ : g_S} {x0 : Nat} {out : Int32 × g_S} (hf : fX5_isAtDigit σ x0 = some out) : Met l yX5_isAtDigit (Cond.code yX5_isAtDigit cX5_isAtDigit 1 (some .boolean) :: lw_g) rmX5_isAtDigit (g_P D σ [.ref x0]) (g_Q D out.2 (some (.int out.1))) 0 0 (g_A D) := by
  refine Met.ofW (cc := cX5_isAtDigit) (maxL := 1) (ret := (some .boolean)) (by decide +kernel) rfl ?_
  intro p e s m args below meth c s₁ B hml hv
  obtain ⟨rfl, hG, hK⟩ := hv
  have hts : ∀ w ∈ lw_g, w.before _ s = true := fun w h => atoms_spec (ws := (Cond.code yX5_isAtDigit cX5_isAtDigit 1 (some .boolean) :: lw_g)) B.pre w (List.mem_cons_of_mem _ h)
  have C : g_C RX5 cX5_isAtDigit 1 (some .boolean) True p s m _ meth c := ⟨B.exec, B.bytes, hml, findClass_of_methodNamed B.named, hts, B.returns, B.notSynchronized, trivial⟩
  obtain ⟨hx, hb, hml, hown, hts, hr, hlocks, hin⟩ := id C
  have hS : va_S (g_A D) s.heap s.heap [] := va_S.rf
  have hl := lv_entry ([.ref x0]) (n := 1) (Nat.le_of_ble_eq_true rfl)
  rw [lg_entry_eq]
  generalize (lg_sl ([.ref x0]) ++ List.replicate (1 - (lg_sl ([.ref x0])).length) Slot.unset).toArray = ls at hl ⊢
  have hl : lv_has ls 1 [(0, .ref x0)] := hl
  unfold fX5_isAtDigit at hf
  refine lv_aload_n hx hb dX5_isAtDigit_0 rfl (lv_at hl 0 rfl) ?_
  obtain ⟨v1, hv1, hf⟩ := g_bind hf
  refine g_geti hx hb hts hown hK hG hv1 rfl iX5 (by decide) flX5_19 dX5_isAtDigit_1 ?_
  refine lv_aload_n hx hb dX5_isAtDigit_4 rfl (lv_at hl 0 rfl) ?_
  obtain ⟨v2, hv2, hf⟩ := g_bind hf
  refine g_geti hx hb hts hown hK hG hv2 rfl iX5 (by decide) flX5_15 dX5_isAtDigit_5 ?_
  refine lv_icmp_ge (tgt := 43) hx hb dX5_isAtDigit_8 (by decide) (fun c3 => ?_) (fun c3 => ?_)
  · rw [if_pos c3] at hf
    exact tBX5_isAtDigit_43 C hK   _  _ _ _ hG hS (lv_sub hl [] rfl) hf
  · rw [if_neg c3] at hf
    refine lv_aload_n hx hb dX5_isAtDigit_11 rfl (lv_at hl 0 rfl) ?_
    obtain ⟨v5, hv5, hf⟩ := g_bind hf
    refine g_getr hx hb hts hown hK hG hv5 rfl iX5 (by decide) flX5_9 dX5_isAtDigit_12 ?_
    refine lv_aload_n hx hb dX5_isAtDigit_15 rfl (lv_at hl 0 rfl) ?_
    obtain ⟨v6, hv6, hf⟩ := g_bind hf
    refine g_geti hx hb hts hown hK hG hv6 rfl iX5 (by decide) flX5_19 dX5_isAtDigit_16 ?_
    obtain ⟨v7, hv7, hf⟩ := g_bind hf
    refine g_bald hx hb hK hG hv7 rfl dX5_isAtDigit_19 ?_
    refine lv_bipush (v := 48) hx hb dX5_isAtDigit_20 (by decide +kernel) ?_
    refine lv_icmp_lt (tgt := 43) hx hb dX5_isAtDigit_22 (by decide) (fun c8 => ?_) (fun c8 => ?_)
    · rw [if_pos c8] at hf
      exact tBX5_isAtDigit_43 C hK   _  _ _ _ hG hS (lv_sub hl [] rfl) hf
    · rw [if_neg c8] at hf
      refine lv_aload_n hx hb dX5_isAtDigit_25 rfl (lv_at hl 0 rfl) ?_
      obtain ⟨v9, hv9, hf⟩ := g_bind hf
      refine g_getr hx hb hts hown hK hG hv9 rfl iX5 (by decide) flX5_9 dX5_isAtDigit_26 ?_
      refine lv_aload_n hx hb dX5_isAtDigit_29 rfl (lv_at hl 0 rfl) ?_
      obtain ⟨v10, hv10, hf⟩ := g_bind hf
      refine g_geti hx hb hts hown hK hG hv10 rfl iX5 (by decide) flX5_19 dX5_isAtDigit_30 ?_
      obtain ⟨v11, hv11, hf⟩ := g_bind hf
      refine g_bald hx hb hK hG hv11 rfl dX5_isAtDigit_33 ?_
      refine lv_bipush (v := 57) hx hb dX5_isAtDigit_34 (by decide +kernel) ?_
      refine lv_icmp_gt (tgt := 43) hx hb dX5_isAtDigit_36 (by decide) (fun c12 => ?_) (fun c12 => ?_)
      · rw [if_pos c12] at hf
        exact tBX5_isAtDigit_43 C hK   _  _ _ _ hG hS (lv_sub hl [] rfl) hf
      · rw [if_neg c12] at hf
        refine lv_iconst (v := 1) hx hb dX5_isAtDigit_39 (by decide +kernel) ?_
        refine lv_goto (tgt := 44) hx hb dX5_isAtDigit_40 (by decide) ?_
        exact tBX5_isAtDigit_44 C hK   _ _ _ _ _ hG hS (lv_sub hl [] rfl) hf

def rmX5_takeGroup : Room := { frames := 2, cells := 0, slots := 0, locals := 46 }
noncomputable def BX5_takeGroup_60  (σ : g_S) (x1 : Nat) (x2 : Int32) (x3 : Int32) : Option (g_S) := (g_o σ 3 x1).bind fun o2 => (fX3_multiplyAndAdd σ x1 x3 x2).bind fun r3 => some r3
noncomputable def LX5_takeGroup_7  : Nat → g_S → Nat → Nat → Int32 → Int32 → Int32 → Option (g_S)
  | 0, _, _, _, _, _, _ => none
  | n + 1, σ, x0, x1, x2, x3, x4 => if 9 ≤ x4 then (BX5_takeGroup_60 σ x1 x2 x3) else ((g_o σ 5 x0).bind fun o4 => (fX5_isAtDigit σ x0).bind fun r5 => if r5.1 = 0 then (BX5_takeGroup_60 r5.2 x1 x2 x3) else ((g_fr r5.2 5 x0 0).bind fun v7 => (g_fi r5.2 5 x0 2).bind fun v8 => (g_li r5.2 1 v7 v8).bind fun v9 => g_let (((10 * x2) + v9) - 48) fun v10 => g_let (x3 * 10) fun v11 => (g_fi r5.2 5 x0 2).bind fun v12 => (g_p r5.2 5 x0 2 (.int (v12 + 1))).bind fun σ13 => g_let (x4 + 1) fun v14 => (LX5_takeGroup_7  n) σ13 x0 x1 v10 v11 v14))
noncomputable def fX5_takeGroup (σ : g_S) (x0 : Nat) (x1 : Nat) : Option (g_S) := LX5_takeGroup_7 g_fuel σ x0 x1 0 1 0
set_option maxHeartbeats 4000000 in
set_option maxRecDepth 100000 in
theorem tBX5_takeGroup_60 {p : Program} {l : Launch} {e : Env} {s : State} {m : MethodId} {args : Array Value} {below : List Frame} {meth : Method} {c : Code} {D : g_D} {out : g_S} (C : g_C RX5 cX5_takeGroup 5 none True p s m args meth c) (hK : g_K D s)  : ∀ (σ : g_S) (x1 : Nat) (x2 : Int32) (x3 : Int32) (H : Heap) (locs : List Loc) (ls : Array Slot), g_H D σ H → va_S (g_A D) s.heap H locs → lv_has ls 5 [(1, .ref x1), (2, .int x2), (3, .int x3)] → BX5_takeGroup_60  σ x1 x2 x3 = some out → W p l e rmX5_takeGroup s m args below meth c H locs 0 0 (MQ below (g_Q D out (none)) args s 0 0 (g_A D)) (F0 m 60 ls []) := by
  obtain ⟨hx, hb, hml, hown, hts, hr, hlocks, hin⟩ := id C
  intro σ x1 x2 x3 H locs ls hG hS hl hf
  unfold BX5_takeGroup_60 at hf
  refine lv_aload_n hx hb dX5_takeGroup_60 rfl (lv_at hl 0 rfl) ?_
  refine lv_iload_n hx hb dX5_takeGroup_61 rfl (lv_at hl 2 rfl) ?_
  refine lv_iload_n hx hb dX5_takeGroup_62 rfl (lv_at hl 1 rfl) ?_
  obtain ⟨o2, ho2, hf⟩ := g_bind hf
  obtain ⟨r3, hr3, hf⟩ := g_bind hf
  refine g_callV hx hb hml hl.1 hts hown hK hG hS (As := [.int x3, .int x2]) (rest := []) (tX3_multiplyAndAdd l D hr3) vX3_multiplyAndAdd mlX5_66 ho2 rfl rfl rfl rfl ⟨Nat.le_of_ble_eq_true rfl, Nat.le_of_ble_eq_true rfl⟩ rfl rfl (Nat.le_of_ble_eq_true rfl) ⟨Nat.le_of_ble_eq_true rfl, Nat.le_of_ble_eq_true rfl⟩ dX5_takeGroup_63 (fun H locs hG hS => ?_)
  cases hf
  exact g_vret hx hb hr hlocks hG hS dX5_takeGroup_66

set_option maxHeartbeats 4000000 in
set_option maxRecDepth 100000 in
theorem tLX5_takeGroup_7 {p : Program} {l : Launch} {e : Env} {s : State} {m : MethodId} {args : Array Value} {below : List Frame} {meth : Method} {c : Code} {D : g_D} {out : g_S} (C : g_C RX5 cX5_takeGroup 5 none True p s m args meth c) (hK : g_K D s)  : ∀ (n : Nat) (σ : g_S) (x0 : Nat) (x1 : Nat) (x2 : Int32) (x3 : Int32) (x4 : Int32) (H : Heap) (locs : List Loc) (ls : Array Slot), g_H D σ H → va_S (g_A D) s.heap H locs → lv_has ls 5 [(0, .ref x0), (1, .ref x1), (2, .int x2), (3, .int x3), (4, .int x4)] → LX5_takeGroup_7  n σ x0 x1 x2 x3 x4 = some out → W p l e rmX5_takeGroup s m args below meth c H locs 0 0 (MQ below (g_Q D out (none)) args s 0 0 (g_A D)) (F0 m 7 ls [])  := by
  obtain ⟨hx, hb, hml, hown, hts, hr, hlocks, hin⟩ := id C
  intro n
  induction n with
  | zero => intro σ x0 x1 x2 x3 x4 H locs ls hG hS hl hf; cases hf
  | succ n ih =>
    intro σ x0 x1 x2 x3 x4 H locs ls hG hS hl hf
    have hf : (if 9 ≤ x4 then (BX5_takeGroup_60 σ x1 x2 x3) else ((g_o σ 5 x0).bind fun o4 => (fX5_isAtDigit σ x0).bind fun r5 => if r5.1 = 0 then (BX5_takeGroup_60 r5.2 x1 x2 x3) else ((g_fr r5.2 5 x0 0).bind fun v7 => (g_fi r5.2 5 x0 2).bind fun v8 => (g_li r5.2 1 v7 v8).bind fun v9 => g_let (((10 * x2) + v9) - 48) fun v10 => g_let (x3 * 10) fun v11 => (g_fi r5.2 5 x0 2).bind fun v12 => (g_p r5.2 5 x0 2 (.int (v12 + 1))).bind fun σ13 => g_let (x4 + 1) fun v14 => (LX5_takeGroup_7  n) σ13 x0 x1 v10 v11 v14))) = some out := hf
    have hk7 := ih
    refine lv_iload hx hb dX5_takeGroup_7 (lv_at hl 4 rfl) ?_
    refine lv_bipush (v := 9) hx hb dX5_takeGroup_9 (by decide +kernel) ?_
    refine lv_icmp_ge (tgt := 60) hx hb dX5_takeGroup_11 (by decide) (fun c1 => ?_) (fun c1 => ?_)
    · rw [if_pos c1] at hf
      exact tBX5_takeGroup_60 C hK   _ _ _ _ _ _ _ hG hS (lv_sub hl [1, 2, 3] rfl) hf
    · rw [if_neg c1] at hf
      refine lv_aload_n hx hb dX5_takeGroup_14 rfl (lv_at hl 0 rfl) ?_
      obtain ⟨o4, ho4, hf⟩ := g_bind hf
      obtain ⟨r5, hr5, hf⟩ := g_bind hf
      refine g_callV hx hb hml hl.1 hts hown hK hG hS (As := []) (rest := []) (tX5_isAtDigit l D hr5) vX5_isAtDigit mlX5_56 ho4 rfl rfl rfl rfl ⟨Nat.le_of_ble_eq_true rfl, Nat.le_of_ble_eq_true rfl⟩ rfl rfl (Nat.le_of_ble_eq_true rfl) ⟨Nat.le_of_ble_eq_true rfl, Nat.le_of_ble_eq_true rfl⟩ dX5_takeGroup_15 (fun H locs hG hS => ?_)
      refine lv_if_eq (tgt := 60) hx hb dX5_takeGroup_18 (by decide) (fun c6 => ?_) (fun c6 => ?_)
      · rw [if_pos c6] at hf
        exact tBX5_takeGroup_60 C hK   _ _ _ _ _ _ _ hG hS (lv_sub hl [1, 2, 3] rfl) hf
      · rw [if_neg c6] at hf
        refine lv_bipush (v := 10) hx hb dX5_takeGroup_21 (by decide +kernel) ?_
        refine lv_iload_n hx hb dX5_takeGroup_23 rfl (lv_at hl 2 rfl) ?_
        refine lv_imul hx hb dX5_takeGroup_24 ?_
        refine lv_aload_n hx hb dX5_takeGroup_25 rfl (lv_at hl 0 rfl) ?_
        obtain ⟨v7, hv7, hf⟩ := g_bind hf
        refine g_getr hx hb hts hown hK hG hv7 rfl iX5 (by decide) flX5_9 dX5_takeGroup_26 ?_
        refine lv_aload_n hx hb dX5_takeGroup_29 rfl (lv_at hl 0 rfl) ?_
        obtain ⟨v8, hv8, hf⟩ := g_bind hf
        refine g_geti hx hb hts hown hK hG hv8 rfl iX5 (by decide) flX5_19 dX5_takeGroup_30 ?_
        obtain ⟨v9, hv9, hf⟩ := g_bind hf
        refine g_bald hx hb hK hG hv9 rfl dX5_takeGroup_33 ?_
        refine lv_iadd hx hb dX5_takeGroup_34 ?_
        refine lv_bipush (v := 48) hx hb dX5_takeGroup_35 (by decide +kernel) ?_
        refine lv_isub hx hb dX5_takeGroup_37 ?_
        obtain ⟨v10, ev10, hf⟩ := g_let_spec hf
        refine g_topi ev10 ?_
        refine lv_istore_n (lv' := [(2, .int v10), (0, .ref x0), (1, .ref x1), (3, .int x3), (4, .int x4)]) hx hb dX5_takeGroup_38 rfl hl (by decide) rfl (fun ls hl => ?_)
        refine lv_iload_n hx hb dX5_takeGroup_39 rfl (lv_at hl 3 rfl) ?_
        refine lv_bipush (v := 10) hx hb dX5_takeGroup_40 (by decide +kernel) ?_
        refine lv_imul hx hb dX5_takeGroup_42 ?_
        obtain ⟨v11, ev11, hf⟩ := g_let_spec hf
        refine g_topi ev11 ?_
        refine lv_istore_n (lv' := [(3, .int v11), (2, .int v10), (0, .ref x0), (1, .ref x1), (4, .int x4)]) hx hb dX5_takeGroup_43 rfl hl (by decide) rfl (fun ls hl => ?_)
        refine lv_aload_n hx hb dX5_takeGroup_44 rfl (lv_at hl 2 rfl) ?_
        refine lv_dup hx hb dX5_takeGroup_45 rfl ?_
        obtain ⟨v12, hv12, hf⟩ := g_bind hf
        refine g_geti hx hb hts hown hK hG hv12 rfl iX5 (by decide) flX5_19 dX5_takeGroup_46 ?_
        refine lv_iconst (v := 1) hx hb dX5_takeGroup_49 (by decide +kernel) ?_
        refine lv_iadd hx hb dX5_takeGroup_50 ?_
        obtain ⟨σ13, hσ13, hf⟩ := g_bind hf
        refine g_put hx hb hts hown hK hG hS hσ13 rfl iX5 tyX5 tyX5_ok nmX5 (by decide) flX5_19 rfl rfl rfl dX5_takeGroup_51 (fun H locs hG hS => ?_)
        obtain ⟨v14, ev14, hf⟩ := g_let_spec hf
        refine lv_iinc (v := v14) (lv' := [(4, .int v14), (3, .int v11), (2, .int v10), (0, .ref x0), (1, .ref x1)]) hx hb dX5_takeGroup_54 hl (k := 4) rfl (by rw [← ev14]; rfl) (by decide) rfl (fun ls hl => ?_)
        refine lv_goto (tgt := 7) hx hb dX5_takeGroup_57 (by decide) ?_
        exact hk7 _ _ _ _ _ _ _ _ _ hG hS (lv_sub hl [3, 4, 2, 1, 0] rfl) hf

set_option maxHeartbeats 4000000 in
set_option maxRecDepth 100000 in
theorem tX5_takeGroup (l : Launch) (D : g_D) {σ : g_S} {x0 : Nat} {x1 : Nat} {out : g_S} (hf : fX5_takeGroup σ x0 x1 = some out) : Met l yX5_takeGroup (Cond.code yX5_takeGroup cX5_takeGroup 5 none :: lw_g) rmX5_takeGroup (g_P D σ [.ref x0, .ref x1]) (g_Q D out (none)) 0 0 (g_A D) := by
  refine Met.ofW (cc := cX5_takeGroup) (maxL := 5) (ret := none) (by decide +kernel) rfl ?_
  intro p e s m args below meth c s₁ B hml hv
  obtain ⟨rfl, hG, hK⟩ := hv
  have hts : ∀ w ∈ lw_g, w.before _ s = true := fun w h => atoms_spec (ws := (Cond.code yX5_takeGroup cX5_takeGroup 5 none :: lw_g)) B.pre w (List.mem_cons_of_mem _ h)
  have C : g_C RX5 cX5_takeGroup 5 none True p s m _ meth c := ⟨B.exec, B.bytes, hml, findClass_of_methodNamed B.named, hts, B.returns, B.notSynchronized, trivial⟩
  obtain ⟨hx, hb, hml, hown, hts, hr, hlocks, hin⟩ := id C
  have hS : va_S (g_A D) s.heap s.heap [] := va_S.rf
  have hl := lv_entry ([.ref x0, .ref x1]) (n := 5) (Nat.le_of_ble_eq_true rfl)
  rw [lg_entry_eq]
  generalize (lg_sl ([.ref x0, .ref x1]) ++ List.replicate (5 - (lg_sl ([.ref x0, .ref x1])).length) Slot.unset).toArray = ls at hl ⊢
  have hl : lv_has ls 5 [(0, .ref x0), (1, .ref x1)] := hl
  unfold fX5_takeGroup at hf
  refine lv_iconst (v := 0) hx hb dX5_takeGroup_0 (by decide +kernel) ?_
  refine lv_istore_n (lv' := [(2, .int 0), (0, .ref x0), (1, .ref x1)]) hx hb dX5_takeGroup_1 rfl hl (by decide) rfl (fun ls hl => ?_)
  refine lv_iconst (v := 1) hx hb dX5_takeGroup_2 (by decide +kernel) ?_
  refine lv_istore_n (lv' := [(3, .int 1), (2, .int 0), (0, .ref x0), (1, .ref x1)]) hx hb dX5_takeGroup_3 rfl hl (by decide) rfl (fun ls hl => ?_)
  refine lv_iconst (v := 0) hx hb dX5_takeGroup_4 (by decide +kernel) ?_
  refine lv_istore (lv' := [(4, .int 0), (3, .int 1), (2, .int 0), (0, .ref x0), (1, .ref x1)]) hx hb dX5_takeGroup_5 hl (by decide) rfl (fun ls hl => ?_)
  exact tLX5_takeGroup_7 C hK  g_fuel _ _ _ _ _ _ _ _ _ hG hS (lv_sub hl [3, 4, 2, 1, 0] rfl) hf

def rmX5_takeNatural : Room := { frames := 3, cells := 0, slots := 0, locals := 70 }
noncomputable def BX5_takeNatural_64  (σ : g_S) (y0 : Int32) : Option (Int32 × g_S) := g_if (y0 = 0 ∨ y0 = 1) <| some (y0, σ)
noncomputable def BX5_takeNatural_63  (σ : g_S)  : Option (Int32 × g_S) := BX5_takeNatural_64 σ 0
noncomputable def BX5_takeNatural_44  (σ : g_S) (x0 : Nat) (x1 : Nat) (x2 : Int32) : Option (Int32 × g_S) := (g_fi σ 5 x0 2).bind fun v4 => if v4 ≤ x2 then (BX5_takeNatural_63 σ) else ((g_o σ 3 x1).bind fun o7 => (fX3_fits σ x1).bind fun r8 => if r8.1 = 0 then (BX5_takeNatural_63 r8.2) else (BX5_takeNatural_64 r8.2 1))
noncomputable def LX5_takeNatural_12  : Nat → g_S → Nat → Nat → Int32 → Int32 → Option (Int32 × g_S)
  | 0, _, _, _, _, _ => none
  | n + 1, σ, x0, x1, x2, x3 => if 1400 ≤ x3 then (BX5_takeNatural_44 σ x0 x1 x2) else ((g_o σ 5 x0).bind fun o10 => (fX5_isAtDigit σ x0).bind fun r11 => if r11.1 = 0 then (BX5_takeNatural_44 r11.2 x0 x1 x2) else ((g_o r11.2 3 x1).bind fun o13 => (fX3_fits r11.2 x1).bind fun r14 => if r14.1 = 0 then (BX5_takeNatural_44 r14.2 x0 x1 x2) else ((g_o r14.2 5 x0).bind fun o16 => (fX5_takeGroup r14.2 x0 x1).bind fun r17 => g_let (x3 + 1) fun v18 => (LX5_takeNatural_12  n) r17 x0 x1 x2 v18)))
noncomputable def fX5_takeNatural (σ : g_S) (x0 : Nat) (x1 : Nat) : Option (Int32 × g_S) := (g_fi σ 5 x0 2).bind fun v1 => (g_p σ 3 x1 1 (.int 0)).bind fun σ2 => LX5_takeNatural_12 g_fuel σ2 x0 x1 v1 0
set_option maxHeartbeats 4000000 in
set_option maxRecDepth 100000 in
theorem tBX5_takeNatural_64 {p : Program} {l : Launch} {e : Env} {s : State} {m : MethodId} {args : Array Value} {below : List Frame} {meth : Method} {c : Code} {D : g_D} {out : Int32 × g_S} (C : g_C RX5 cX5_takeNatural 4 (some .boolean) True p s m args meth c) (hK : g_K D s)  : ∀ (σ : g_S) (y0 : Int32) (H : Heap) (locs : List Loc) (ls : Array Slot), g_H D σ H → va_S (g_A D) s.heap H locs → lv_has ls 4 [] → BX5_takeNatural_64  σ y0 = some out → W p l e rmX5_takeNatural s m args below meth c H locs 0 0 (MQ below (g_Q D out.2 (some (.int out.1))) args s 0 0 (g_A D)) (F0 m 64 ls [.int y0]) := by
  obtain ⟨hx, hb, hml, hown, hts, hr, hlocks, hin⟩ := id C
  intro σ y0 H locs ls hG hS hl hf
  unfold BX5_takeNatural_64 at hf
  obtain ⟨z6, hf⟩ := g_if_spec hf
  cases hf
  exact g_zret hx hb hr hlocks z6 hG hS dX5_takeNatural_64

set_option maxHeartbeats 4000000 in
set_option maxRecDepth 100000 in
theorem tBX5_takeNatural_63 {p : Program} {l : Launch} {e : Env} {s : State} {m : MethodId} {args : Array Value} {below : List Frame} {meth : Method} {c : Code} {D : g_D} {out : Int32 × g_S} (C : g_C RX5 cX5_takeNatural 4 (some .boolean) True p s m args meth c) (hK : g_K D s)  : ∀ (σ : g_S)  (H : Heap) (locs : List Loc) (ls : Array Slot), g_H D σ H → va_S (g_A D) s.heap H locs → lv_has ls 4 [] → BX5_takeNatural_63  σ  = some out → W p l e rmX5_takeNatural s m args below meth c H locs 0 0 (MQ below (g_Q D out.2 (some (.int out.1))) args s 0 0 (g_A D)) (F0 m 63 ls []) := by
  obtain ⟨hx, hb, hml, hown, hts, hr, hlocks, hin⟩ := id C
  intro σ  H locs ls hG hS hl hf
  unfold BX5_takeNatural_63 at hf
  refine lv_iconst (v := 0) hx hb dX5_takeNatural_63 (by decide +kernel) ?_
  exact tBX5_takeNatural_64 C hK   _ _ _ _ _ hG hS (lv_sub hl [] rfl) hf

set_option maxHeartbeats 4000000 in
set_option maxRecDepth 100000 in
theorem tBX5_takeNatural_44 {p : Program} {l : Launch} {e : Env} {s : State} {m : MethodId} {args : Array Value} {below : List Frame} {meth : Method} {c : Code} {D : g_D} {out : Int32 × g_S} (C : g_C RX5 cX5_takeNatural 4 (some .boolean) True p s m args meth c) (hK : g_K D s)  : ∀ (σ : g_S) (x0 : Nat) (x1 : Nat) (x2 : Int32) (H : Heap) (locs : List Loc) (ls : Array Slot), g_H D σ H → va_S (g_A D) s.heap H locs → lv_has ls 4 [(0, .ref x0), (1, .ref x1), (2, .int x2)] → BX5_takeNatural_44  σ x0 x1 x2 = some out → W p l e rmX5_takeNatural s m args below meth c H locs 0 0 (MQ below (g_Q D out.2 (some (.int out.1))) args s 0 0 (g_A D)) (F0 m 44 ls []) := by
  obtain ⟨hx, hb, hml, hown, hts, hr, hlocks, hin⟩ := id C
  intro σ x0 x1 x2 H locs ls hG hS hl hf
  unfold BX5_takeNatural_44 at hf
  refine lv_aload_n hx hb dX5_takeNatural_44 rfl (lv_at hl 0 rfl) ?_
  obtain ⟨v4, hv4, hf⟩ := g_bind hf
  refine g_geti hx hb hts hown hK hG hv4 rfl iX5 (by decide) flX5_19 dX5_takeNatural_45 ?_
  refine lv_iload_n hx hb dX5_takeNatural_48 rfl (lv_at hl 2 rfl) ?_
  refine lv_icmp_le (tgt := 63) hx hb dX5_takeNatural_49 (by decide) (fun c5 => ?_) (fun c5 => ?_)
  · rw [if_pos c5] at hf
    exact tBX5_takeNatural_63 C hK   _  _ _ _ hG hS (lv_sub hl [] rfl) hf
  · rw [if_neg c5] at hf
    refine lv_aload_n hx hb dX5_takeNatural_52 rfl (lv_at hl 1 rfl) ?_
    obtain ⟨o7, ho7, hf⟩ := g_bind hf
    obtain ⟨r8, hr8, hf⟩ := g_bind hf
    refine g_callV hx hb hml hl.1 hts hown hK hG hS (As := []) (rest := []) (tX3_fits l D hr8) vX3_fits mlX5_59 ho7 rfl rfl rfl rfl ⟨Nat.le_of_ble_eq_true rfl, Nat.le_of_ble_eq_true rfl⟩ rfl rfl (Nat.le_of_ble_eq_true rfl) ⟨Nat.le_of_ble_eq_true rfl, Nat.le_of_ble_eq_true rfl⟩ dX5_takeNatural_53 (fun H locs hG hS => ?_)
    refine lv_if_eq (tgt := 63) hx hb dX5_takeNatural_56 (by decide) (fun c9 => ?_) (fun c9 => ?_)
    · rw [if_pos c9] at hf
      exact tBX5_takeNatural_63 C hK   _  _ _ _ hG hS (lv_sub hl [] rfl) hf
    · rw [if_neg c9] at hf
      refine lv_iconst (v := 1) hx hb dX5_takeNatural_59 (by decide +kernel) ?_
      refine lv_goto (tgt := 64) hx hb dX5_takeNatural_60 (by decide) ?_
      exact tBX5_takeNatural_64 C hK   _ _ _ _ _ hG hS (lv_sub hl [] rfl) hf

set_option maxHeartbeats 4000000 in
set_option maxRecDepth 100000 in
theorem tLX5_takeNatural_12 {p : Program} {l : Launch} {e : Env} {s : State} {m : MethodId} {args : Array Value} {below : List Frame} {meth : Method} {c : Code} {D : g_D} {out : Int32 × g_S} (C : g_C RX5 cX5_takeNatural 4 (some .boolean) True p s m args meth c) (hK : g_K D s)  : ∀ (n : Nat) (σ : g_S) (x0 : Nat) (x1 : Nat) (x2 : Int32) (x3 : Int32) (H : Heap) (locs : List Loc) (ls : Array Slot), g_H D σ H → va_S (g_A D) s.heap H locs → lv_has ls 4 [(0, .ref x0), (1, .ref x1), (2, .int x2), (3, .int x3)] → LX5_takeNatural_12  n σ x0 x1 x2 x3 = some out → W p l e rmX5_takeNatural s m args below meth c H locs 0 0 (MQ below (g_Q D out.2 (some (.int out.1))) args s 0 0 (g_A D)) (F0 m 12 ls [])  := by
  obtain ⟨hx, hb, hml, hown, hts, hr, hlocks, hin⟩ := id C
  intro n
  induction n with
  | zero => intro σ x0 x1 x2 x3 H locs ls hG hS hl hf; cases hf
  | succ n ih =>
    intro σ x0 x1 x2 x3 H locs ls hG hS hl hf
    have hf : (if 1400 ≤ x3 then (BX5_takeNatural_44 σ x0 x1 x2) else ((g_o σ 5 x0).bind fun o10 => (fX5_isAtDigit σ x0).bind fun r11 => if r11.1 = 0 then (BX5_takeNatural_44 r11.2 x0 x1 x2) else ((g_o r11.2 3 x1).bind fun o13 => (fX3_fits r11.2 x1).bind fun r14 => if r14.1 = 0 then (BX5_takeNatural_44 r14.2 x0 x1 x2) else ((g_o r14.2 5 x0).bind fun o16 => (fX5_takeGroup r14.2 x0 x1).bind fun r17 => g_let (x3 + 1) fun v18 => (LX5_takeNatural_12  n) r17 x0 x1 x2 v18)))) = some out := hf
    have hk12 := ih
    refine lv_iload_n hx hb dX5_takeNatural_12 rfl (lv_at hl 3 rfl) ?_
    refine lv_sipush (v := 1400) hx hb dX5_takeNatural_13 (by decide +kernel) ?_
    refine lv_icmp_ge (tgt := 44) hx hb dX5_takeNatural_16 (by decide) (fun c3 => ?_) (fun c3 => ?_)
    · rw [if_pos c3] at hf
      exact tBX5_takeNatural_44 C hK   _ _ _ _ _ _ _ hG hS (lv_sub hl [0, 1, 2] rfl) hf
    · rw [if_neg c3] at hf
      refine lv_aload_n hx hb dX5_takeNatural_19 rfl (lv_at hl 0 rfl) ?_
      obtain ⟨o10, ho10, hf⟩ := g_bind hf
      obtain ⟨r11, hr11, hf⟩ := g_bind hf
      refine g_callV hx hb hml hl.1 hts hown hK hG hS (As := []) (rest := []) (tX5_isAtDigit l D hr11) vX5_isAtDigit mlX5_56 ho10 rfl rfl rfl rfl ⟨Nat.le_of_ble_eq_true rfl, Nat.le_of_ble_eq_true rfl⟩ rfl rfl (Nat.le_of_ble_eq_true rfl) ⟨Nat.le_of_ble_eq_true rfl, Nat.le_of_ble_eq_true rfl⟩ dX5_takeNatural_20 (fun H locs hG hS => ?_)
      refine lv_if_eq (tgt := 44) hx hb dX5_takeNatural_23 (by decide) (fun c12 => ?_) (fun c12 => ?_)
      · rw [if_pos c12] at hf
        exact tBX5_takeNatural_44 C hK   _ _ _ _ _ _ _ hG hS (lv_sub hl [0, 1, 2] rfl) hf
      · rw [if_neg c12] at hf
        refine lv_aload_n hx hb dX5_takeNatural_26 rfl (lv_at hl 1 rfl) ?_
        obtain ⟨o13, ho13, hf⟩ := g_bind hf
        obtain ⟨r14, hr14, hf⟩ := g_bind hf
        refine g_callV hx hb hml hl.1 hts hown hK hG hS (As := []) (rest := []) (tX3_fits l D hr14) vX3_fits mlX5_59 ho13 rfl rfl rfl rfl ⟨Nat.le_of_ble_eq_true rfl, Nat.le_of_ble_eq_true rfl⟩ rfl rfl (Nat.le_of_ble_eq_true rfl) ⟨Nat.le_of_ble_eq_true rfl, Nat.le_of_ble_eq_true rfl⟩ dX5_takeNatural_27 (fun H locs hG hS => ?_)
        refine lv_if_eq (tgt := 44) hx hb dX5_takeNatural_30 (by decide) (fun c15 => ?_) (fun c15 => ?_)
        · rw [if_pos c15] at hf
          exact tBX5_takeNatural_44 C hK   _ _ _ _ _ _ _ hG hS (lv_sub hl [0, 1, 2] rfl) hf
        · rw [if_neg c15] at hf
          refine lv_aload_n hx hb dX5_takeNatural_33 rfl (lv_at hl 0 rfl) ?_
          refine lv_aload_n hx hb dX5_takeNatural_34 rfl (lv_at hl 1 rfl) ?_
          obtain ⟨o16, ho16, hf⟩ := g_bind hf
          obtain ⟨r17, hr17, hf⟩ := g_bind hf
          refine g_callV hx hb hml hl.1 hts hown hK hG hS (As := [.ref x1]) (rest := []) (tX5_takeGroup l D hr17) vX5_takeGroup mlX5_62 ho16 rfl rfl rfl rfl ⟨Nat.le_of_ble_eq_true rfl, Nat.le_of_ble_eq_true rfl⟩ rfl rfl (Nat.le_of_ble_eq_true rfl) ⟨Nat.le_of_ble_eq_true rfl, Nat.le_of_ble_eq_true rfl⟩ dX5_takeNatural_35 (fun H locs hG hS => ?_)
          obtain ⟨v18, ev18, hf⟩ := g_let_spec hf
          refine lv_iinc (v := v18) (lv' := [(3, .int v18), (0, .ref x0), (1, .ref x1), (2, .int x2)]) hx hb dX5_takeNatural_38 hl (k := 3) rfl (by rw [← ev18]; rfl) (by decide) rfl (fun ls hl => ?_)
          refine lv_goto (tgt := 12) hx hb dX5_takeNatural_41 (by decide) ?_
          exact hk12 _ _ _ _ _ _ _ _ hG hS (lv_sub hl [1, 2, 3, 0] rfl) hf

set_option maxHeartbeats 4000000 in
set_option maxRecDepth 100000 in
theorem tX5_takeNatural (l : Launch) (D : g_D) {σ : g_S} {x0 : Nat} {x1 : Nat} {out : Int32 × g_S} (hf : fX5_takeNatural σ x0 x1 = some out) : Met l yX5_takeNatural (Cond.code yX5_takeNatural cX5_takeNatural 4 (some .boolean) :: lw_g) rmX5_takeNatural (g_P D σ [.ref x0, .ref x1]) (g_Q D out.2 (some (.int out.1))) 0 0 (g_A D) := by
  refine Met.ofW (cc := cX5_takeNatural) (maxL := 4) (ret := (some .boolean)) (by decide +kernel) rfl ?_
  intro p e s m args below meth c s₁ B hml hv
  obtain ⟨rfl, hG, hK⟩ := hv
  have hts : ∀ w ∈ lw_g, w.before _ s = true := fun w h => atoms_spec (ws := (Cond.code yX5_takeNatural cX5_takeNatural 4 (some .boolean) :: lw_g)) B.pre w (List.mem_cons_of_mem _ h)
  have C : g_C RX5 cX5_takeNatural 4 (some .boolean) True p s m _ meth c := ⟨B.exec, B.bytes, hml, findClass_of_methodNamed B.named, hts, B.returns, B.notSynchronized, trivial⟩
  obtain ⟨hx, hb, hml, hown, hts, hr, hlocks, hin⟩ := id C
  have hS : va_S (g_A D) s.heap s.heap [] := va_S.rf
  have hl := lv_entry ([.ref x0, .ref x1]) (n := 4) (Nat.le_of_ble_eq_true rfl)
  rw [lg_entry_eq]
  generalize (lg_sl ([.ref x0, .ref x1]) ++ List.replicate (4 - (lg_sl ([.ref x0, .ref x1])).length) Slot.unset).toArray = ls at hl ⊢
  have hl : lv_has ls 4 [(0, .ref x0), (1, .ref x1)] := hl
  unfold fX5_takeNatural at hf
  refine lv_aload_n hx hb dX5_takeNatural_0 rfl (lv_at hl 0 rfl) ?_
  obtain ⟨v1, hv1, hf⟩ := g_bind hf
  refine g_geti hx hb hts hown hK hG hv1 rfl iX5 (by decide) flX5_19 dX5_takeNatural_1 ?_
  refine lv_istore_n (lv' := [(2, .int v1), (0, .ref x0), (1, .ref x1)]) hx hb dX5_takeNatural_4 rfl hl (by decide) rfl (fun ls hl => ?_)
  refine lv_aload_n hx hb dX5_takeNatural_5 rfl (lv_at hl 2 rfl) ?_
  refine lv_iconst (v := 0) hx hb dX5_takeNatural_6 (by decide +kernel) ?_
  obtain ⟨σ2, hσ2, hf⟩ := g_bind hf
  refine g_put hx hb hts hown hK hG hS hσ2 rfl iX3 tyX3 tyX3_ok nmX3 (by decide) flX5_53 rfl rfl rfl dX5_takeNatural_7 (fun H locs hG hS => ?_)
  refine lv_iconst (v := 0) hx hb dX5_takeNatural_10 (by decide +kernel) ?_
  refine lv_istore_n (lv' := [(3, .int 0), (2, .int v1), (0, .ref x0), (1, .ref x1)]) hx hb dX5_takeNatural_11 rfl hl (by decide) rfl (fun ls hl => ?_)
  exact tLX5_takeNatural_12 C hK  g_fuel _ _ _ _ _ _ _ _ hG hS (lv_sub hl [2, 3, 1, 0] rfl) hf

def rmX5_takeFraction : Room := { frames := 4, cells := 0, slots := 0, locals := 93 }
noncomputable def BX5_takeFraction_86  (σ : g_S) (y0 : Int32) : Option (Int32 × g_S) := g_if (y0 = 0 ∨ y0 = 1) <| some (y0, σ)
noncomputable def BX5_takeFraction_70  (σ : g_S) (x0 : Nat) : Option (Int32 × g_S) := (g_fi σ 5 x0 2).bind fun v16 => (g_fi σ 5 x0 1).bind fun v17 => if v16 = v17 then (BX5_takeFraction_86 σ 1) else (BX5_takeFraction_86 σ 0)
noncomputable def BX5_takeFraction_68  (σ : g_S)  : Option (Int32 × g_S) := some (0, σ)
noncomputable def fX5_takeFraction (σ : g_S) (x0 : Nat) (x1 : Nat) : Option (Int32 × g_S) := (g_p σ 5 x0 2 (.int 0)).bind fun σ1 => (g_o σ1 5 x0).bind fun o2 => (fX5_take σ1 x0 45).bind fun r3 => (g_fr r3.2 2 x1 0).bind fun v4 => (g_o r3.2 5 x0).bind fun o5 => (fX5_takeNatural r3.2 x0 v4).bind fun r6 => if r6.1 = 0 then (some (0, r6.2)) else ((g_o r6.2 2 x1).bind fun o8 => (fX2_sign r6.2 x1 r3.1).bind fun r9 => (g_fr r9 2 x1 1).bind fun v10 => (g_o r9 3 v10).bind fun o11 => (fX3_becomeUnsigned r9 v10 1).bind fun r12 => (g_o r12 5 x0).bind fun o13 => (fX5_take r12 x0 47).bind fun r14 => if r14.1 = 0 then (BX5_takeFraction_70 r14.2 x0) else ((g_fr r14.2 2 x1 1).bind fun v20 => (g_o r14.2 5 x0).bind fun o21 => (fX5_takeNatural r14.2 x0 v20).bind fun r22 => if r22.1 = 0 then (BX5_takeFraction_68 r22.2) else ((g_fr r22.2 2 x1 1).bind fun v24 => (g_o r22.2 3 v24).bind fun o25 => (fX3_isZero r22.2 v24).bind fun r26 => if r26.1 = 0 then (BX5_takeFraction_70 r26.2 x0) else (BX5_takeFraction_68 r26.2))))
set_option maxHeartbeats 4000000 in
set_option maxRecDepth 100000 in
theorem tBX5_takeFraction_86 {p : Program} {l : Launch} {e : Env} {s : State} {m : MethodId} {args : Array Value} {below : List Frame} {meth : Method} {c : Code} {D : g_D} {out : Int32 × g_S} (C : g_C RX5 cX5_takeFraction 3 (some .boolean) True p s m args meth c) (hK : g_K D s)  : ∀ (σ : g_S) (y0 : Int32) (H : Heap) (locs : List Loc) (ls : Array Slot), g_H D σ H → va_S (g_A D) s.heap H locs → lv_has ls 3 [] → BX5_takeFraction_86  σ y0 = some out → W p l e rmX5_takeFraction s m args below meth c H locs 0 0 (MQ below (g_Q D out.2 (some (.int out.1))) args s 0 0 (g_A D)) (F0 m 86 ls [.int y0]) := by
  obtain ⟨hx, hb, hml, hown, hts, hr, hlocks, hin⟩ := id C
  intro σ y0 H locs ls hG hS hl hf
  unfold BX5_takeFraction_86 at hf
  obtain ⟨z19, hf⟩ := g_if_spec hf
  cases hf
  exact g_zret hx hb hr hlocks z19 hG hS dX5_takeFraction_86

set_option maxHeartbeats 4000000 in
set_option maxRecDepth 100000 in
theorem tBX5_takeFraction_70 {p : Program} {l : Launch} {e : Env} {s : State} {m : MethodId} {args : Array Value} {below : List Frame} {meth : Method} {c : Code} {D : g_D} {out : Int32 × g_S} (C : g_C RX5 cX5_takeFraction 3 (some .boolean) True p s m args meth c) (hK : g_K D s)  : ∀ (σ : g_S) (x0 : Nat) (H : Heap) (locs : List Loc) (ls : Array Slot), g_H D σ H → va_S (g_A D) s.heap H locs → lv_has ls 3 [(0, .ref x0)] → BX5_takeFraction_70  σ x0 = some out → W p l e rmX5_takeFraction s m args below meth c H locs 0 0 (MQ below (g_Q D out.2 (some (.int out.1))) args s 0 0 (g_A D)) (F0 m 70 ls []) := by
  obtain ⟨hx, hb, hml, hown, hts, hr, hlocks, hin⟩ := id C
  intro σ x0 H locs ls hG hS hl hf
  unfold BX5_takeFraction_70 at hf
  refine lv_aload_n hx hb dX5_takeFraction_70 rfl (lv_at hl 0 rfl) ?_
  obtain ⟨v16, hv16, hf⟩ := g_bind hf
  refine g_geti hx hb hts hown hK hG hv16 rfl iX5 (by decide) flX5_19 dX5_takeFraction_71 ?_
  refine lv_aload_n hx hb dX5_takeFraction_74 rfl (lv_at hl 0 rfl) ?_
  obtain ⟨v17, hv17, hf⟩ := g_bind hf
  refine g_geti hx hb hts hown hK hG hv17 rfl iX5 (by decide) flX5_15 dX5_takeFraction_75 ?_
  refine lv_icmp_ne (tgt := 85) hx hb dX5_takeFraction_78 (by decide) (fun c18 => ?_) (fun c18 => ?_)
  · rw [if_neg c18] at hf
    refine lv_iconst (v := 0) hx hb dX5_takeFraction_85 (by decide +kernel) ?_
    exact tBX5_takeFraction_86 C hK   _ _ _ _ _ hG hS (lv_sub hl [] rfl) hf
  · rw [if_pos c18] at hf
    refine lv_iconst (v := 1) hx hb dX5_takeFraction_81 (by decide +kernel) ?_
    refine lv_goto (tgt := 86) hx hb dX5_takeFraction_82 (by decide) ?_
    exact tBX5_takeFraction_86 C hK   _ _ _ _ _ hG hS (lv_sub hl [] rfl) hf

set_option maxHeartbeats 4000000 in
set_option maxRecDepth 100000 in
theorem tBX5_takeFraction_68 {p : Program} {l : Launch} {e : Env} {s : State} {m : MethodId} {args : Array Value} {below : List Frame} {meth : Method} {c : Code} {D : g_D} {out : Int32 × g_S} (C : g_C RX5 cX5_takeFraction 3 (some .boolean) True p s m args meth c) (hK : g_K D s)  : ∀ (σ : g_S)  (H : Heap) (locs : List Loc) (ls : Array Slot), g_H D σ H → va_S (g_A D) s.heap H locs → lv_has ls 3 [] → BX5_takeFraction_68  σ  = some out → W p l e rmX5_takeFraction s m args below meth c H locs 0 0 (MQ below (g_Q D out.2 (some (.int out.1))) args s 0 0 (g_A D)) (F0 m 68 ls []) := by
  obtain ⟨hx, hb, hml, hown, hts, hr, hlocks, hin⟩ := id C
  intro σ  H locs ls hG hS hl hf
  unfold BX5_takeFraction_68 at hf
  refine lv_iconst (v := 0) hx hb dX5_takeFraction_68 (by decide +kernel) ?_
  cases hf
  exact g_zret hx hb hr hlocks (Or.inl rfl) hG hS dX5_takeFraction_69

set_option maxHeartbeats 4000000 in
set_option maxRecDepth 100000 in
theorem tX5_takeFraction (l : Launch) (D : g_D) {σ : g_S} {x0 : Nat} {x1 : Nat} {out : Int32 × g_S} (hf : fX5_takeFraction σ x0 x1 = some out) : Met l yX5_takeFraction (Cond.code yX5_takeFraction cX5_takeFraction 3 (some .boolean) :: lw_g) rmX5_takeFraction (g_P D σ [.ref x0, .ref x1]) (g_Q D out.2 (some (.int out.1))) 0 0 (g_A D) := by
  refine Met.ofW (cc := cX5_takeFraction) (maxL := 3) (ret := (some .boolean)) (by decide +kernel) rfl ?_
  intro p e s m args below meth c s₁ B hml hv
  obtain ⟨rfl, hG, hK⟩ := hv
  have hts : ∀ w ∈ lw_g, w.before _ s = true := fun w h => atoms_spec (ws := (Cond.code yX5_takeFraction cX5_takeFraction 3 (some .boolean) :: lw_g)) B.pre w (List.mem_cons_of_mem _ h)
  have C : g_C RX5 cX5_takeFraction 3 (some .boolean) True p s m _ meth c := ⟨B.exec, B.bytes, hml, findClass_of_methodNamed B.named, hts, B.returns, B.notSynchronized, trivial⟩
  obtain ⟨hx, hb, hml, hown, hts, hr, hlocks, hin⟩ := id C
  have hS : va_S (g_A D) s.heap s.heap [] := va_S.rf
  have hl := lv_entry ([.ref x0, .ref x1]) (n := 3) (Nat.le_of_ble_eq_true rfl)
  rw [lg_entry_eq]
  generalize (lg_sl ([.ref x0, .ref x1]) ++ List.replicate (3 - (lg_sl ([.ref x0, .ref x1])).length) Slot.unset).toArray = ls at hl ⊢
  have hl : lv_has ls 3 [(0, .ref x0), (1, .ref x1)] := hl
  unfold fX5_takeFraction at hf
  refine lv_aload_n hx hb dX5_takeFraction_0 rfl (lv_at hl 0 rfl) ?_
  refine lv_iconst (v := 0) hx hb dX5_takeFraction_1 (by decide +kernel) ?_
  obtain ⟨σ1, hσ1, hf⟩ := g_bind hf
  refine g_put hx hb hts hown hK hG hS hσ1 rfl iX5 tyX5 tyX5_ok nmX5 (by decide) flX5_19 rfl rfl rfl dX5_takeFraction_2 (fun H locs hG hS => ?_)
  refine lv_aload_n hx hb dX5_takeFraction_5 rfl (lv_at hl 0 rfl) ?_
  refine lv_bipush (v := 45) hx hb dX5_takeFraction_6 (by decide +kernel) ?_
  obtain ⟨o2, ho2, hf⟩ := g_bind hf
  obtain ⟨r3, hr3, hf⟩ := g_bind hf
  refine g_callV hx hb hml hl.1 hts hown hK hG hS (As := [.int 45]) (rest := []) (tX5_take l D hr3) vX5_take mlX5_22 ho2 rfl rfl rfl rfl ⟨Nat.le_of_ble_eq_true rfl, Nat.le_of_ble_eq_true rfl⟩ rfl rfl (Nat.le_of_ble_eq_true rfl) ⟨Nat.le_of_ble_eq_true rfl, Nat.le_of_ble_eq_true rfl⟩ dX5_takeFraction_8 (fun H locs hG hS => ?_)
  refine lv_istore_n (lv' := [(2, .int r3.1), (0, .ref x0), (1, .ref x1)]) hx hb dX5_takeFraction_11 rfl hl (by decide) rfl (fun ls hl => ?_)
  refine lv_aload_n hx hb dX5_takeFraction_12 rfl (lv_at hl 1 rfl) ?_
  refine lv_aload_n hx hb dX5_takeFraction_13 rfl (lv_at hl 2 rfl) ?_
  obtain ⟨v4, hv4, hf⟩ := g_bind hf
  refine g_getr hx hb hts hown hK hG hv4 rfl iX2 (by decide) flX5_26 dX5_takeFraction_14 ?_
  obtain ⟨o5, ho5, hf⟩ := g_bind hf
  obtain ⟨r6, hr6, hf⟩ := g_bind hf
  refine g_callV hx hb hml hl.1 hts hown hK hG hS (As := [.ref v4]) (rest := []) (tX5_takeNatural l D hr6) vX5_takeNatural mlX5_32 ho5 rfl rfl rfl rfl ⟨Nat.le_of_ble_eq_true rfl, Nat.le_of_ble_eq_true rfl⟩ rfl rfl (Nat.le_of_ble_eq_true rfl) ⟨Nat.le_of_ble_eq_true rfl, Nat.le_of_ble_eq_true rfl⟩ dX5_takeFraction_17 (fun H locs hG hS => ?_)
  refine lv_if_ne (tgt := 25) hx hb dX5_takeFraction_20 (by decide) (fun c7 => ?_) (fun c7 => ?_)
  · rw [if_neg c7] at hf
    refine lv_aload_n hx hb dX5_takeFraction_25 rfl (lv_at hl 2 rfl) ?_
    refine lv_iload_n hx hb dX5_takeFraction_26 rfl (lv_at hl 0 rfl) ?_
    obtain ⟨o8, ho8, hf⟩ := g_bind hf
    obtain ⟨r9, hr9, hf⟩ := g_bind hf
    refine g_callV hx hb hml hl.1 hts hown hK hG hS (As := [.int r3.1]) (rest := []) (tX2_sign l D hr9) vX2_sign mlX5_36 ho8 rfl rfl rfl rfl ⟨Nat.le_of_ble_eq_true rfl, Nat.le_of_ble_eq_true rfl⟩ rfl rfl (Nat.le_of_ble_eq_true rfl) ⟨Nat.le_of_ble_eq_true rfl, Nat.le_of_ble_eq_true rfl⟩ dX5_takeFraction_27 (fun H locs hG hS => ?_)
    refine lv_aload_n hx hb dX5_takeFraction_30 rfl (lv_at hl 2 rfl) ?_
    obtain ⟨v10, hv10, hf⟩ := g_bind hf
    refine g_getr hx hb hts hown hK hG hv10 rfl iX2 (by decide) flX5_40 dX5_takeFraction_31 ?_
    refine lv_lconst (v := 1) hx hb dX5_takeFraction_34 (by decide +kernel) ?_
    obtain ⟨o11, ho11, hf⟩ := g_bind hf
    obtain ⟨r12, hr12, hf⟩ := g_bind hf
    refine g_callV hx hb hml hl.1 hts hown hK hG hS (As := [.long 1]) (rest := []) (tX3_becomeUnsigned l D hr12) vX3_becomeUnsigned mlX5_43 ho11 rfl rfl rfl rfl ⟨Nat.le_of_ble_eq_true rfl, Nat.le_of_ble_eq_true rfl⟩ rfl rfl (Nat.le_of_ble_eq_true rfl) ⟨Nat.le_of_ble_eq_true rfl, Nat.le_of_ble_eq_true rfl⟩ dX5_takeFraction_35 (fun H locs hG hS => ?_)
    refine lv_aload_n hx hb dX5_takeFraction_38 rfl (lv_at hl 1 rfl) ?_
    refine lv_bipush (v := 47) hx hb dX5_takeFraction_39 (by decide +kernel) ?_
    obtain ⟨o13, ho13, hf⟩ := g_bind hf
    obtain ⟨r14, hr14, hf⟩ := g_bind hf
    refine g_callV hx hb hml hl.1 hts hown hK hG hS (As := [.int 47]) (rest := []) (tX5_take l D hr14) vX5_take mlX5_22 ho13 rfl rfl rfl rfl ⟨Nat.le_of_ble_eq_true rfl, Nat.le_of_ble_eq_true rfl⟩ rfl rfl (Nat.le_of_ble_eq_true rfl) ⟨Nat.le_of_ble_eq_true rfl, Nat.le_of_ble_eq_true rfl⟩ dX5_takeFraction_41 (fun H locs hG hS => ?_)
    refine lv_if_eq (tgt := 70) hx hb dX5_takeFraction_44 (by decide) (fun c15 => ?_) (fun c15 => ?_)
    · rw [if_pos c15] at hf
      exact tBX5_takeFraction_70 C hK   _ _ _ _ _ hG hS (lv_sub hl [1] rfl) hf
    · rw [if_neg c15] at hf
      refine lv_aload_n hx hb dX5_takeFraction_47 rfl (lv_at hl 1 rfl) ?_
      refine lv_aload_n hx hb dX5_takeFraction_48 rfl (lv_at hl 2 rfl) ?_
      obtain ⟨v20, hv20, hf⟩ := g_bind hf
      refine g_getr hx hb hts hown hK hG hv20 rfl iX2 (by decide) flX5_40 dX5_takeFraction_49 ?_
      obtain ⟨o21, ho21, hf⟩ := g_bind hf
      obtain ⟨r22, hr22, hf⟩ := g_bind hf
      refine g_callV hx hb hml hl.1 hts hown hK hG hS (As := [.ref v20]) (rest := []) (tX5_takeNatural l D hr22) vX5_takeNatural mlX5_32 ho21 rfl rfl rfl rfl ⟨Nat.le_of_ble_eq_true rfl, Nat.le_of_ble_eq_true rfl⟩ rfl rfl (Nat.le_of_ble_eq_true rfl) ⟨Nat.le_of_ble_eq_true rfl, Nat.le_of_ble_eq_true rfl⟩ dX5_takeFraction_52 (fun H locs hG hS => ?_)
      refine lv_if_eq (tgt := 68) hx hb dX5_takeFraction_55 (by decide) (fun c23 => ?_) (fun c23 => ?_)
      · rw [if_pos c23] at hf
        exact tBX5_takeFraction_68 C hK   _  _ _ _ hG hS (lv_sub hl [] rfl) hf
      · rw [if_neg c23] at hf
        refine lv_aload_n hx hb dX5_takeFraction_58 rfl (lv_at hl 2 rfl) ?_
        obtain ⟨v24, hv24, hf⟩ := g_bind hf
        refine g_getr hx hb hts hown hK hG hv24 rfl iX2 (by decide) flX5_40 dX5_takeFraction_59 ?_
        obtain ⟨o25, ho25, hf⟩ := g_bind hf
        obtain ⟨r26, hr26, hf⟩ := g_bind hf
        refine g_callV hx hb hml hl.1 hts hown hK hG hS (As := []) (rest := []) (tX3_isZero l D hr26) vX3_isZero mlX5_49 ho25 rfl rfl rfl rfl ⟨Nat.le_of_ble_eq_true rfl, Nat.le_of_ble_eq_true rfl⟩ rfl rfl (Nat.le_of_ble_eq_true rfl) ⟨Nat.le_of_ble_eq_true rfl, Nat.le_of_ble_eq_true rfl⟩ dX5_takeFraction_62 (fun H locs hG hS => ?_)
        refine lv_if_eq (tgt := 70) hx hb dX5_takeFraction_65 (by decide) (fun c27 => ?_) (fun c27 => ?_)
        · rw [if_pos c27] at hf
          exact tBX5_takeFraction_70 C hK   _ _ _ _ _ hG hS (lv_sub hl [1] rfl) hf
        · rw [if_neg c27] at hf
          exact tBX5_takeFraction_68 C hK   _  _ _ _ hG hS (lv_sub hl [] rfl) hf
  · rw [if_pos c7] at hf
    refine lv_iconst (v := 0) hx hb dX5_takeFraction_23 (by decide +kernel) ?_
    cases hf
    exact g_zret hx hb hr hlocks (Or.inl rfl) hG hS dX5_takeFraction_24

