def rmX8_puts : Room := { frames := 0, cells := 0, slots := 0, locals := 0 }
noncomputable def fX8_puts (σ : g_S) (x0 : Nat) (x1 : Int32) (x2 : Int32) (x3 : Int32) : Option (g_S) := (g_fr σ 8 x0 1).bind fun v1 => (g_si σ 0 v1 ((264 * x1) + x2) x3).bind fun σ2 => some σ2
set_option maxHeartbeats 4000000 in
set_option maxRecDepth 100000 in
theorem tX8_puts (l : Launch) (D : g_D) {σ : g_S} {x0 : Nat} {x1 : Int32} {x2 : Int32} {x3 : Int32} {out : g_S} (hf : fX8_puts σ x0 x1 x2 x3 = some out) : Met l yX8_puts (Cond.code yX8_puts cX8_puts 4 none :: lw_g) rmX8_puts (g_P D σ [.ref x0, .int x1, .int x2, .int x3]) (g_Q D out (none)) 0 0 (g_A D) := by
  refine Met.ofW (cc := cX8_puts) (maxL := 4) (ret := none) (by decide +kernel) rfl ?_
  intro p e s m args below meth c s₁ B hml hv
  obtain ⟨rfl, hG, hK⟩ := hv
  have hts : ∀ w ∈ lw_g, w.before _ s = true := fun w h => atoms_spec (ws := (Cond.code yX8_puts cX8_puts 4 none :: lw_g)) B.pre w (List.mem_cons_of_mem _ h)
  have C : g_C RX8 cX8_puts 4 none True p s m _ meth c := ⟨B.exec, B.bytes, hml, findClass_of_methodNamed B.named, hts, B.returns, B.notSynchronized, trivial⟩
  obtain ⟨hx, hb, hml, hown, hts, hr, hlocks, hin⟩ := id C
  have hS : va_S (g_A D) s.heap s.heap [] := va_S.rf
  have hl := lv_entry ([.ref x0, .int x1, .int x2, .int x3]) (n := 4) (Nat.le_of_ble_eq_true rfl)
  rw [lg_entry_eq]
  generalize (lg_sl ([.ref x0, .int x1, .int x2, .int x3]) ++ List.replicate (4 - (lg_sl ([.ref x0, .int x1, .int x2, .int x3])).length) Slot.unset).toArray = ls at hl ⊢
  have hl : lv_has ls 4 [(0, .ref x0), (1, .int x1), (2, .int x2), (3, .int x3)] := hl
  unfold fX8_puts at hf
  refine lv_aload_n hx hb dX8_puts_0 rfl (lv_at hl 0 rfl) ?_
  obtain ⟨v1, hv1, hf⟩ := g_bind hf
  refine g_getr hx hb hts hown hK hG hv1 rfl iX8 (by decide) flX8_7 dX8_puts_1 ?_
  refine lv_sipush (v := 264) hx hb dX8_puts_4 (by decide +kernel) ?_
  refine lv_iload_n hx hb dX8_puts_7 rfl (lv_at hl 1 rfl) ?_
  refine lv_imul hx hb dX8_puts_8 ?_
  refine lv_iload_n hx hb dX8_puts_9 rfl (lv_at hl 2 rfl) ?_
  refine lv_iadd hx hb dX8_puts_10 ?_
  refine lv_iload_n hx hb dX8_puts_11 rfl (lv_at hl 3 rfl) ?_
  obtain ⟨σ2, hσ2, hf⟩ := g_bind hf
  refine g_iast hx hb hK hG hS hσ2 rfl dX8_puts_12 (fun H locs hG hS => ?_)
  cases hf
  exact g_vret hx hb hr hlocks hG hS dX8_puts_13

def rmX8_trim : Room := { frames := 0, cells := 0, slots := 0, locals := 0 }
noncomputable def BX8_trim_29  (σ : g_S) (x0 : Nat) (x1 : Int32) (x3 : Int32) : Option (g_S) := (g_fr σ 8 x0 2).bind fun v2 => (g_si σ 0 v2 x1 x3).bind fun σ3 => some σ3
noncomputable def LX8_trim_2  : Nat → g_S → Nat → Int32 → Int32 → Option (g_S)
  | 0, _, _, _, _ => none
  | n + 1, σ, x0, x1, x3 => if x3 ≤ 0 then (BX8_trim_29 σ x0 x1 x3) else ((g_fr σ 8 x0 1).bind fun v4 => (g_li σ 0 v4 (((264 * x1) + x3) - 1)).bind fun v5 => if v5 = 0 then (g_let (x3 + (-1)) fun v7 => (LX8_trim_2  n) σ x0 x1 v7) else (BX8_trim_29 σ x0 x1 x3))
noncomputable def fX8_trim (σ : g_S) (x0 : Nat) (x1 : Int32) (x2 : Int32) : Option (g_S) := LX8_trim_2 g_fuel σ x0 x1 x2
set_option maxHeartbeats 4000000 in
set_option maxRecDepth 100000 in
theorem tBX8_trim_29 {p : Program} {l : Launch} {e : Env} {s : State} {m : MethodId} {args : Array Value} {below : List Frame} {meth : Method} {c : Code} {D : g_D} {out : g_S} (C : g_C RX8 cX8_trim 4 none True p s m args meth c) (hK : g_K D s)  : ∀ (σ : g_S) (x0 : Nat) (x1 : Int32) (x3 : Int32) (H : Heap) (locs : List Loc) (ls : Array Slot), g_H D σ H → va_S (g_A D) s.heap H locs → lv_has ls 4 [(0, .ref x0), (1, .int x1), (3, .int x3)] → BX8_trim_29  σ x0 x1 x3 = some out → W p l e rmX8_trim s m args below meth c H locs 0 0 (MQ below (g_Q D out (none)) args s 0 0 (g_A D)) (F0 m 29 ls []) := by
  obtain ⟨hx, hb, hml, hown, hts, hr, hlocks, hin⟩ := id C
  intro σ x0 x1 x3 H locs ls hG hS hl hf
  unfold BX8_trim_29 at hf
  refine lv_aload_n hx hb dX8_trim_29 rfl (lv_at hl 0 rfl) ?_
  obtain ⟨v2, hv2, hf⟩ := g_bind hf
  refine g_getr hx hb hts hown hK hG hv2 rfl iX8 (by decide) flX8_13 dX8_trim_30 ?_
  refine lv_iload_n hx hb dX8_trim_33 rfl (lv_at hl 1 rfl) ?_
  refine lv_iload_n hx hb dX8_trim_34 rfl (lv_at hl 2 rfl) ?_
  obtain ⟨σ3, hσ3, hf⟩ := g_bind hf
  refine g_iast hx hb hK hG hS hσ3 rfl dX8_trim_35 (fun H locs hG hS => ?_)
  cases hf
  exact g_vret hx hb hr hlocks hG hS dX8_trim_36

set_option maxHeartbeats 4000000 in
set_option maxRecDepth 100000 in
theorem tLX8_trim_2 {p : Program} {l : Launch} {e : Env} {s : State} {m : MethodId} {args : Array Value} {below : List Frame} {meth : Method} {c : Code} {D : g_D} {out : g_S} (C : g_C RX8 cX8_trim 4 none True p s m args meth c) (hK : g_K D s)  : ∀ (n : Nat) (σ : g_S) (x0 : Nat) (x1 : Int32) (x3 : Int32) (H : Heap) (locs : List Loc) (ls : Array Slot), g_H D σ H → va_S (g_A D) s.heap H locs → lv_has ls 4 [(0, .ref x0), (1, .int x1), (3, .int x3)] → LX8_trim_2  n σ x0 x1 x3 = some out → W p l e rmX8_trim s m args below meth c H locs 0 0 (MQ below (g_Q D out (none)) args s 0 0 (g_A D)) (F0 m 2 ls [])  := by
  obtain ⟨hx, hb, hml, hown, hts, hr, hlocks, hin⟩ := id C
  intro n
  induction n with
  | zero => intro σ x0 x1 x3 H locs ls hG hS hl hf; cases hf
  | succ n ih =>
    intro σ x0 x1 x3 H locs ls hG hS hl hf
    have hf : (if x3 ≤ 0 then (BX8_trim_29 σ x0 x1 x3) else ((g_fr σ 8 x0 1).bind fun v4 => (g_li σ 0 v4 (((264 * x1) + x3) - 1)).bind fun v5 => if v5 = 0 then (g_let (x3 + (-1)) fun v7 => (LX8_trim_2  n) σ x0 x1 v7) else (BX8_trim_29 σ x0 x1 x3))) = some out := hf
    have hk2 := ih
    refine lv_iload_n hx hb dX8_trim_2 rfl (lv_at hl 2 rfl) ?_
    refine lv_if_le (tgt := 29) hx hb dX8_trim_3 (by decide) (fun c1 => ?_) (fun c1 => ?_)
    · rw [if_pos c1] at hf
      exact tBX8_trim_29 C hK   _ _ _ _ _ _ _ hG hS (lv_sub hl [0, 1, 2] rfl) hf
    · rw [if_neg c1] at hf
      refine lv_aload_n hx hb dX8_trim_6 rfl (lv_at hl 0 rfl) ?_
      obtain ⟨v4, hv4, hf⟩ := g_bind hf
      refine g_getr hx hb hts hown hK hG hv4 rfl iX8 (by decide) flX8_7 dX8_trim_7 ?_
      refine lv_sipush (v := 264) hx hb dX8_trim_10 (by decide +kernel) ?_
      refine lv_iload_n hx hb dX8_trim_13 rfl (lv_at hl 1 rfl) ?_
      refine lv_imul hx hb dX8_trim_14 ?_
      refine lv_iload_n hx hb dX8_trim_15 rfl (lv_at hl 2 rfl) ?_
      refine lv_iadd hx hb dX8_trim_16 ?_
      refine lv_iconst (v := 1) hx hb dX8_trim_17 (by decide +kernel) ?_
      refine lv_isub hx hb dX8_trim_18 ?_
      obtain ⟨v5, hv5, hf⟩ := g_bind hf
      refine g_iald hx hb hK hG hv5 rfl dX8_trim_19 ?_
      refine lv_if_ne (tgt := 29) hx hb dX8_trim_20 (by decide) (fun c6 => ?_) (fun c6 => ?_)
      · rw [if_neg c6] at hf
        exact tBX8_trim_29 C hK   _ _ _ _ _ _ _ hG hS (lv_sub hl [0, 1, 2] rfl) hf
      · rw [if_pos c6] at hf
        obtain ⟨v7, ev7, hf⟩ := g_let_spec hf
        refine lv_iinc (v := v7) (lv' := [(3, .int v7), (0, .ref x0), (1, .int x1)]) hx hb dX8_trim_23 hl (k := 2) rfl (by rw [← ev7]; rfl) (by decide) rfl (fun ls hl => ?_)
        refine lv_goto (tgt := 2) hx hb dX8_trim_26 (by decide) ?_
        exact hk2 _ _ _ _ _ _ _ hG hS (lv_sub hl [1, 2, 0] rfl) hf

set_option maxHeartbeats 4000000 in
set_option maxRecDepth 100000 in
theorem tX8_trim (l : Launch) (D : g_D) {σ : g_S} {x0 : Nat} {x1 : Int32} {x2 : Int32} {out : g_S} (hf : fX8_trim σ x0 x1 x2 = some out) : Met l yX8_trim (Cond.code yX8_trim cX8_trim 4 none :: lw_g) rmX8_trim (g_P D σ [.ref x0, .int x1, .int x2]) (g_Q D out (none)) 0 0 (g_A D) := by
  refine Met.ofW (cc := cX8_trim) (maxL := 4) (ret := none) (by decide +kernel) rfl ?_
  intro p e s m args below meth c s₁ B hml hv
  obtain ⟨rfl, hG, hK⟩ := hv
  have hts : ∀ w ∈ lw_g, w.before _ s = true := fun w h => atoms_spec (ws := (Cond.code yX8_trim cX8_trim 4 none :: lw_g)) B.pre w (List.mem_cons_of_mem _ h)
  have C : g_C RX8 cX8_trim 4 none True p s m _ meth c := ⟨B.exec, B.bytes, hml, findClass_of_methodNamed B.named, hts, B.returns, B.notSynchronized, trivial⟩
  obtain ⟨hx, hb, hml, hown, hts, hr, hlocks, hin⟩ := id C
  have hS : va_S (g_A D) s.heap s.heap [] := va_S.rf
  have hl := lv_entry ([.ref x0, .int x1, .int x2]) (n := 4) (Nat.le_of_ble_eq_true rfl)
  rw [lg_entry_eq]
  generalize (lg_sl ([.ref x0, .int x1, .int x2]) ++ List.replicate (4 - (lg_sl ([.ref x0, .int x1, .int x2])).length) Slot.unset).toArray = ls at hl ⊢
  have hl : lv_has ls 4 [(0, .ref x0), (1, .int x1), (2, .int x2)] := hl
  unfold fX8_trim at hf
  refine lv_iload_n hx hb dX8_trim_0 rfl (lv_at hl 2 rfl) ?_
  refine lv_istore_n (lv' := [(3, .int x2), (0, .ref x0), (1, .int x1), (2, .int x2)]) hx hb dX8_trim_1 rfl hl (by decide) rfl (fun ls hl => ?_)
  exact tLX8_trim_2 C hK  g_fuel _ _ _ _ _ _ _ hG hS (lv_sub hl [1, 2, 0] rfl) hf

def rmX8_small : Room := { frames := 1, cells := 0, slots := 0, locals := 23 }
noncomputable def fX8_small (σ : g_S) (x0 : Nat) (x1 : Int32) (x2 : Int32) : Option (g_S) := (g_o σ 8 x0).bind fun o1 => (fX8_puts σ x0 x1 0 x2).bind fun r2 => (g_o r2 8 x0).bind fun o3 => (fX8_trim r2 x0 x1 1).bind fun r4 => some r4
set_option maxHeartbeats 4000000 in
set_option maxRecDepth 100000 in
theorem tX8_small (l : Launch) (D : g_D) {σ : g_S} {x0 : Nat} {x1 : Int32} {x2 : Int32} {out : g_S} (hf : fX8_small σ x0 x1 x2 = some out) : Met l yX8_small (Cond.code yX8_small cX8_small 3 none :: lw_g) rmX8_small (g_P D σ [.ref x0, .int x1, .int x2]) (g_Q D out (none)) 0 0 (g_A D) := by
  refine Met.ofW (cc := cX8_small) (maxL := 3) (ret := none) (by decide +kernel) rfl ?_
  intro p e s m args below meth c s₁ B hml hv
  obtain ⟨rfl, hG, hK⟩ := hv
  have hts : ∀ w ∈ lw_g, w.before _ s = true := fun w h => atoms_spec (ws := (Cond.code yX8_small cX8_small 3 none :: lw_g)) B.pre w (List.mem_cons_of_mem _ h)
  have C : g_C RX8 cX8_small 3 none True p s m _ meth c := ⟨B.exec, B.bytes, hml, findClass_of_methodNamed B.named, hts, B.returns, B.notSynchronized, trivial⟩
  obtain ⟨hx, hb, hml, hown, hts, hr, hlocks, hin⟩ := id C
  have hS : va_S (g_A D) s.heap s.heap [] := va_S.rf
  have hl := lv_entry ([.ref x0, .int x1, .int x2]) (n := 3) (Nat.le_of_ble_eq_true rfl)
  rw [lg_entry_eq]
  generalize (lg_sl ([.ref x0, .int x1, .int x2]) ++ List.replicate (3 - (lg_sl ([.ref x0, .int x1, .int x2])).length) Slot.unset).toArray = ls at hl ⊢
  have hl : lv_has ls 3 [(0, .ref x0), (1, .int x1), (2, .int x2)] := hl
  unfold fX8_small at hf
  refine lv_aload_n hx hb dX8_small_0 rfl (lv_at hl 0 rfl) ?_
  refine lv_iload_n hx hb dX8_small_1 rfl (lv_at hl 1 rfl) ?_
  refine lv_iconst (v := 0) hx hb dX8_small_2 (by decide +kernel) ?_
  refine lv_iload_n hx hb dX8_small_3 rfl (lv_at hl 2 rfl) ?_
  obtain ⟨o1, ho1, hf⟩ := g_bind hf
  obtain ⟨r2, hr2, hf⟩ := g_bind hf
  refine g_callV hx hb hml hl.1 hts hown hK hG hS (As := [.int x1, .int 0, .int x2]) (rest := []) (tX8_puts l D hr2) vX8_puts mlX8_34 ho1 rfl rfl rfl rfl ⟨Nat.le_of_ble_eq_true rfl, Nat.le_of_ble_eq_true rfl⟩ rfl rfl (Nat.le_of_ble_eq_true rfl) ⟨Nat.le_of_ble_eq_true rfl, Nat.le_of_ble_eq_true rfl⟩ dX8_small_4 (fun H locs hG hS => ?_)
  refine lv_aload_n hx hb dX8_small_7 rfl (lv_at hl 0 rfl) ?_
  refine lv_iload_n hx hb dX8_small_8 rfl (lv_at hl 1 rfl) ?_
  refine lv_iconst (v := 1) hx hb dX8_small_9 (by decide +kernel) ?_
  obtain ⟨o3, ho3, hf⟩ := g_bind hf
  obtain ⟨r4, hr4, hf⟩ := g_bind hf
  refine g_callV hx hb hml hl.1 hts hown hK hG hS (As := [.int x1, .int 1]) (rest := []) (tX8_trim l D hr4) vX8_trim mlX8_38 ho3 rfl rfl rfl rfl ⟨Nat.le_of_ble_eq_true rfl, Nat.le_of_ble_eq_true rfl⟩ rfl rfl (Nat.le_of_ble_eq_true rfl) ⟨Nat.le_of_ble_eq_true rfl, Nat.le_of_ble_eq_true rfl⟩ dX8_small_10 (fun H locs hG hS => ?_)
  cases hf
  exact g_vret hx hb hr hlocks hG hS dX8_small_13

def rmX8_init : Room := { frames := 2, cells := 5, slots := 17276, locals := 45 }
noncomputable def LX8_init_49  : Nat → g_S → Nat → Int32 → Option (g_S)
  | 0, _, _, _ => none
  | n + 1, σ, x0, x1 => if 16 ≤ x1 then ((g_o σ 8 x0).bind fun o17 => (fX8_small σ x0 42 1).bind fun r18 => some r18) else ((g_o σ 8 x0).bind fun o19 => (fX8_small σ x0 (2 * x1) 0).bind fun r20 => (g_o r20 8 x0).bind fun o21 => (fX8_small r20 x0 ((2 * x1) + 1) 1).bind fun r22 => g_let (x1 + 1) fun v23 => (LX8_init_49  n) r22 x0 v23)
noncomputable def fX8_init (σ : g_S) (x0 : Nat) : Option (g_S) := g_let σ.2 fun a2 => g_let (g_mk σ (.inl (0, 11616, .inl (fun _ => 0)))) fun σ1 => (g_p σ1 8 x0 1 (.ref a2)).bind fun σ3 => g_let σ3.2 fun a5 => g_let (g_mk σ3 (.inl (0, 44, .inl (fun _ => 0)))) fun σ4 => (g_p σ4 8 x0 2 (.ref a5)).bind fun σ6 => g_let σ6.2 fun a8 => g_let (g_mk σ6 (.inl (5, 16, .inl (fun _ => 0)))) fun σ7 => (g_p σ7 8 x0 3 (.ref a8)).bind fun σ9 => g_let σ9.2 fun a11 => g_let (g_mk σ9 (.inl (0, 1400, .inl (fun _ => 0)))) fun σ10 => (g_p σ10 8 x0 4 (.ref a11)).bind fun σ12 => g_let σ12.2 fun a14 => g_let (g_mk σ12 (.inl (0, 4200, .inl (fun _ => 0)))) fun σ13 => (g_p σ13 8 x0 6 (.ref a14)).bind fun σ15 => LX8_init_49 g_fuel σ15 x0 0
set_option maxHeartbeats 4000000 in
set_option maxRecDepth 100000 in
theorem tLX8_init_49 {p : Program} {l : Launch} {e : Env} {s : State} {m : MethodId} {args : Array Value} {below : List Frame} {meth : Method} {c : Code} {D : g_D} {out : g_S} (C : g_C RX8 cX8_init 2 none (meth.name = "<init>") p s m args meth c) (hK : g_K D s)  : ∀ (n : Nat) (σ : g_S) (x0 : Nat) (x1 : Int32) (H : Heap) (locs : List Loc) (ls : Array Slot), g_H D σ H → va_S (g_A D) s.heap H locs → lv_has ls 2 [(0, .ref x0), (1, .int x1)] → LX8_init_49  n σ x0 x1 = some out → W p l e rmX8_init s m args below meth c H locs 5 17276 (MQ below (g_Q D out (none)) args s 5 17276 (g_A D)) (F0 m 49 ls [])  := by
  obtain ⟨hx, hb, hml, hown, hts, hr, hlocks, hin⟩ := id C
  intro n
  induction n with
  | zero => intro σ x0 x1 H locs ls hG hS hl hf; cases hf
  | succ n ih =>
    intro σ x0 x1 H locs ls hG hS hl hf
    have hf : (if 16 ≤ x1 then ((g_o σ 8 x0).bind fun o17 => (fX8_small σ x0 42 1).bind fun r18 => some r18) else ((g_o σ 8 x0).bind fun o19 => (fX8_small σ x0 (2 * x1) 0).bind fun r20 => (g_o r20 8 x0).bind fun o21 => (fX8_small r20 x0 ((2 * x1) + 1) 1).bind fun r22 => g_let (x1 + 1) fun v23 => (LX8_init_49  n) r22 x0 v23)) = some out := hf
    have hk49 := ih
    refine lv_iload_n hx hb dX8_init_49 rfl (lv_at hl 1 rfl) ?_
    refine lv_bipush (v := 16) hx hb dX8_init_50 (by decide +kernel) ?_
    refine lv_icmp_ge (tgt := 79) hx hb dX8_init_52 (by decide) (fun c16 => ?_) (fun c16 => ?_)
    · rw [if_pos c16] at hf
      refine lv_aload_n hx hb dX8_init_79 rfl (lv_at hl 0 rfl) ?_
      refine lv_bipush (v := 42) hx hb dX8_init_80 (by decide +kernel) ?_
      refine lv_iconst (v := 1) hx hb dX8_init_82 (by decide +kernel) ?_
      obtain ⟨o17, ho17, hf⟩ := g_bind hf
      obtain ⟨r18, hr18, hf⟩ := g_bind hf
      refine g_callV hx hb hml hl.1 hts hown hK hG hS (As := [.int 42, .int 1]) (rest := []) (tX8_small l D hr18) vX8_small mlX8_26 ho17 rfl rfl rfl rfl ⟨Nat.le_of_ble_eq_true rfl, Nat.le_of_ble_eq_true rfl⟩ rfl rfl (Nat.le_of_ble_eq_true rfl) ⟨Nat.le_of_ble_eq_true rfl, Nat.le_of_ble_eq_true rfl⟩ dX8_init_83 (fun H locs hG hS => ?_)
      cases hf
      exact g_vret hx hb hr hlocks hG hS dX8_init_86
    · rw [if_neg c16] at hf
      refine lv_aload_n hx hb dX8_init_55 rfl (lv_at hl 0 rfl) ?_
      refine lv_iconst (v := 2) hx hb dX8_init_56 (by decide +kernel) ?_
      refine lv_iload_n hx hb dX8_init_57 rfl (lv_at hl 1 rfl) ?_
      refine lv_imul hx hb dX8_init_58 ?_
      refine lv_iconst (v := 0) hx hb dX8_init_59 (by decide +kernel) ?_
      obtain ⟨o19, ho19, hf⟩ := g_bind hf
      obtain ⟨r20, hr20, hf⟩ := g_bind hf
      refine g_callV hx hb hml hl.1 hts hown hK hG hS (As := [.int (2 * x1), .int 0]) (rest := []) (tX8_small l D hr20) vX8_small mlX8_26 ho19 rfl rfl rfl rfl ⟨Nat.le_of_ble_eq_true rfl, Nat.le_of_ble_eq_true rfl⟩ rfl rfl (Nat.le_of_ble_eq_true rfl) ⟨Nat.le_of_ble_eq_true rfl, Nat.le_of_ble_eq_true rfl⟩ dX8_init_60 (fun H locs hG hS => ?_)
      refine lv_aload_n hx hb dX8_init_63 rfl (lv_at hl 0 rfl) ?_
      refine lv_iconst (v := 2) hx hb dX8_init_64 (by decide +kernel) ?_
      refine lv_iload_n hx hb dX8_init_65 rfl (lv_at hl 1 rfl) ?_
      refine lv_imul hx hb dX8_init_66 ?_
      refine lv_iconst (v := 1) hx hb dX8_init_67 (by decide +kernel) ?_
      refine lv_iadd hx hb dX8_init_68 ?_
      refine lv_iconst (v := 1) hx hb dX8_init_69 (by decide +kernel) ?_
      obtain ⟨o21, ho21, hf⟩ := g_bind hf
      obtain ⟨r22, hr22, hf⟩ := g_bind hf
      refine g_callV hx hb hml hl.1 hts hown hK hG hS (As := [.int ((2 * x1) + 1), .int 1]) (rest := []) (tX8_small l D hr22) vX8_small mlX8_26 ho21 rfl rfl rfl rfl ⟨Nat.le_of_ble_eq_true rfl, Nat.le_of_ble_eq_true rfl⟩ rfl rfl (Nat.le_of_ble_eq_true rfl) ⟨Nat.le_of_ble_eq_true rfl, Nat.le_of_ble_eq_true rfl⟩ dX8_init_70 (fun H locs hG hS => ?_)
      obtain ⟨v23, ev23, hf⟩ := g_let_spec hf
      refine lv_iinc (v := v23) (lv' := [(1, .int v23), (0, .ref x0)]) hx hb dX8_init_73 hl (k := 1) rfl (by rw [← ev23]; rfl) (by decide) rfl (fun ls hl => ?_)
      refine lv_goto (tgt := 49) hx hb dX8_init_76 (by decide) ?_
      exact hk49 _ _ _ _ _ _ hG hS (lv_sub hl [1, 0] rfl) hf

set_option maxHeartbeats 4000000 in
set_option maxRecDepth 100000 in
theorem tX8_init (l : Launch) (D : g_D) {σ : g_S} {x0 : Nat} {out : g_S} (hf : fX8_init σ x0 = some out) : Met l yX8_init (Cond.code yX8_init cX8_init 2 none :: lw_g) rmX8_init (g_P D σ [.ref x0]) (g_Q D out (none)) 5 17276 (g_A D) := by
  refine Met.ofW (cc := cX8_init) (maxL := 2) (ret := none) (by decide +kernel) rfl ?_
  intro p e s m args below meth c s₁ B hml hv
  obtain ⟨rfl, hG, hK⟩ := hv
  have hts : ∀ w ∈ lw_g, w.before _ s = true := fun w h => atoms_spec (ws := (Cond.code yX8_init cX8_init 2 none :: lw_g)) B.pre w (List.mem_cons_of_mem _ h)
  have C : g_C RX8 cX8_init 2 none (meth.name = "<init>") p s m _ meth c := ⟨B.exec, B.bytes, hml, findClass_of_methodNamed B.named, hts, B.returns, B.notSynchronized, (name_of_methodNamed B.named B.method).1⟩
  obtain ⟨hx, hb, hml, hown, hts, hr, hlocks, hin⟩ := id C
  have hS : va_S (g_A D) s.heap s.heap [] := va_S.rf
  have hl := lv_entry ([.ref x0]) (n := 2) (Nat.le_of_ble_eq_true rfl)
  rw [lg_entry_eq]
  generalize (lg_sl ([.ref x0]) ++ List.replicate (2 - (lg_sl ([.ref x0])).length) Slot.unset).toArray = ls at hl ⊢
  have hl : lv_has ls 2 [(0, .ref x0)] := hl
  unfold fX8_init at hf
  refine lv_aload_n hx hb dX8_init_0 rfl (lv_at hl 0 rfl) ?_
  refine W.objInit hx hb hown (hts _ oi_lX8) (hts _ oi_i) (hts _ oi_c) rfl (by rw [hml]; exact hl.1) rfl dX8_init_1 (Nat.le_of_ble_eq_true rfl) (Nat.le_of_ble_eq_true rfl) ?_
  refine W.eq (g2 := F0 m 4 ls []) rfl ?_
  refine lv_aload_n hx hb dX8_init_4 rfl (lv_at hl 0 rfl) ?_
  refine lv_sipush (v := 11616) hx hb dX8_init_5 (by decide +kernel) ?_
  obtain ⟨a2, ea2, hf⟩ := g_let_spec hf
  obtain ⟨σ1, eσ1, hf⟩ := g_let_spec hf
  refine g_newa (N := 11616) (t := 0) (f := .inl (fun _ => 0)) (atype := .int) hx hb hts hK hG hS ac_int (fun _ => rfl) rfl (fun _ => rfl) (by decide) rfl (Nat.le_of_ble_eq_true rfl) (Nat.le_of_ble_eq_true rfl) (Nat.le_of_ble_eq_true rfl) dX8_init_8 (fun H hG hS => ?_)
  rw [eσ1] at hG
  rw [ea2]
  refine W.cs (cells' := 1) (slots' := 11616) rfl rfl ?_
  obtain ⟨σ3, hσ3, hf⟩ := g_bind hf
  refine g_putF hx hb hts hown hin hK hG hS hσ3 rfl iX8 tyX8 tyX8_ok nmX8 (by decide) flX8_7 rfl rfl rfl rfl dX8_init_10 (fun H locs hG hS => ?_)
  refine lv_aload_n hx hb dX8_init_13 rfl (lv_at hl 0 rfl) ?_
  refine lv_bipush (v := 44) hx hb dX8_init_14 (by decide +kernel) ?_
  obtain ⟨a5, ea5, hf⟩ := g_let_spec hf
  obtain ⟨σ4, eσ4, hf⟩ := g_let_spec hf
  refine g_newa (N := 44) (t := 0) (f := .inl (fun _ => 0)) (atype := .int) hx hb hts hK hG hS ac_int (fun _ => rfl) rfl (fun _ => rfl) (by decide) rfl (Nat.le_of_ble_eq_true rfl) (Nat.le_of_ble_eq_true rfl) (Nat.le_of_ble_eq_true rfl) dX8_init_16 (fun H hG hS => ?_)
  rw [eσ4] at hG
  rw [ea5]
  refine W.cs (cells' := 2) (slots' := 11660) rfl rfl ?_
  obtain ⟨σ6, hσ6, hf⟩ := g_bind hf
  refine g_putF hx hb hts hown hin hK hG hS hσ6 rfl iX8 tyX8 tyX8_ok nmX8 (by decide) flX8_13 rfl rfl rfl rfl dX8_init_18 (fun H locs hG hS => ?_)
  refine lv_aload_n hx hb dX8_init_21 rfl (lv_at hl 0 rfl) ?_
  refine lv_bipush (v := 16) hx hb dX8_init_22 (by decide +kernel) ?_
  obtain ⟨a8, ea8, hf⟩ := g_let_spec hf
  obtain ⟨σ7, eσ7, hf⟩ := g_let_spec hf
  refine g_newa (N := 16) (t := 5) (f := .inl (fun _ => 0)) (atype := .boolean) hx hb hts hK hG hS ac_boolean (fun _ => rfl) rfl (fun _ => rfl) (by decide) rfl (Nat.le_of_ble_eq_true rfl) (Nat.le_of_ble_eq_true rfl) (Nat.le_of_ble_eq_true rfl) dX8_init_24 (fun H hG hS => ?_)
  rw [eσ7] at hG
  rw [ea8]
  refine W.cs (cells' := 3) (slots' := 11676) rfl rfl ?_
  obtain ⟨σ9, hσ9, hf⟩ := g_bind hf
  refine g_putF hx hb hts hown hin hK hG hS hσ9 rfl iX8 tyX8 tyX8_ok nmX8 (by decide) flX8_16 rfl rfl rfl rfl dX8_init_26 (fun H locs hG hS => ?_)
  refine lv_aload_n hx hb dX8_init_29 rfl (lv_at hl 0 rfl) ?_
  refine lv_sipush (v := 1400) hx hb dX8_init_30 (by decide +kernel) ?_
  obtain ⟨a11, ea11, hf⟩ := g_let_spec hf
  obtain ⟨σ10, eσ10, hf⟩ := g_let_spec hf
  refine g_newa (N := 1400) (t := 0) (f := .inl (fun _ => 0)) (atype := .int) hx hb hts hK hG hS ac_int (fun _ => rfl) rfl (fun _ => rfl) (by decide) rfl (Nat.le_of_ble_eq_true rfl) (Nat.le_of_ble_eq_true rfl) (Nat.le_of_ble_eq_true rfl) dX8_init_33 (fun H hG hS => ?_)
  rw [eσ10] at hG
  rw [ea11]
  refine W.cs (cells' := 4) (slots' := 13076) rfl rfl ?_
  obtain ⟨σ12, hσ12, hf⟩ := g_bind hf
  refine g_putF hx hb hts hown hin hK hG hS hσ12 rfl iX8 tyX8 tyX8_ok nmX8 (by decide) flX8_20 rfl rfl rfl rfl dX8_init_35 (fun H locs hG hS => ?_)
  refine lv_aload_n hx hb dX8_init_38 rfl (lv_at hl 0 rfl) ?_
  refine lv_sipush (v := 4200) hx hb dX8_init_39 (by decide +kernel) ?_
  obtain ⟨a14, ea14, hf⟩ := g_let_spec hf
  obtain ⟨σ13, eσ13, hf⟩ := g_let_spec hf
  refine g_newa (N := 4200) (t := 0) (f := .inl (fun _ => 0)) (atype := .int) hx hb hts hK hG hS ac_int (fun _ => rfl) rfl (fun _ => rfl) (by decide) rfl (Nat.le_of_ble_eq_true rfl) (Nat.le_of_ble_eq_true rfl) (Nat.le_of_ble_eq_true rfl) dX8_init_42 (fun H hG hS => ?_)
  rw [eσ13] at hG
  rw [ea14]
  refine W.cs (cells' := 5) (slots' := 17276) rfl rfl ?_
  obtain ⟨σ15, hσ15, hf⟩ := g_bind hf
  refine g_putF hx hb hts hown hin hK hG hS hσ15 rfl iX8 tyX8 tyX8_ok nmX8 (by decide) flX8_23 rfl rfl rfl rfl dX8_init_44 (fun H locs hG hS => ?_)
  refine lv_iconst (v := 0) hx hb dX8_init_47 (by decide +kernel) ?_
  refine lv_istore_n (lv' := [(1, .int 0), (0, .ref x0)]) hx hb dX8_init_48 rfl hl (by decide) rfl (fun ls hl => ?_)
  exact tLX8_init_49 C hK  g_fuel _ _ _ _ _ _ hG hS (lv_sub hl [1, 0] rfl) hf

def rmX8_thrown : Room := { frames := 0, cells := 0, slots := 0, locals := 0 }
noncomputable def fX8_thrown (σ : g_S) (x0 : Nat) : Option (Int32 × g_S) := (g_fi σ 8 x0 0).bind fun v1 => some (v1, σ)
set_option maxHeartbeats 4000000 in
set_option maxRecDepth 100000 in
theorem tX8_thrown (l : Launch) (D : g_D) {σ : g_S} {x0 : Nat} {out : Int32 × g_S} (hf : fX8_thrown σ x0 = some out) : Met l yX8_thrown (Cond.code yX8_thrown cX8_thrown 1 (some .int) :: lw_g) rmX8_thrown (g_P D σ [.ref x0]) (g_Q D out.2 (some (.int out.1))) 0 0 (g_A D) := by
  refine Met.ofW (cc := cX8_thrown) (maxL := 1) (ret := (some .int)) (by decide +kernel) rfl ?_
  intro p e s m args below meth c s₁ B hml hv
  obtain ⟨rfl, hG, hK⟩ := hv
  have hts : ∀ w ∈ lw_g, w.before _ s = true := fun w h => atoms_spec (ws := (Cond.code yX8_thrown cX8_thrown 1 (some .int) :: lw_g)) B.pre w (List.mem_cons_of_mem _ h)
  have C : g_C RX8 cX8_thrown 1 (some .int) True p s m _ meth c := ⟨B.exec, B.bytes, hml, findClass_of_methodNamed B.named, hts, B.returns, B.notSynchronized, trivial⟩
  obtain ⟨hx, hb, hml, hown, hts, hr, hlocks, hin⟩ := id C
  have hS : va_S (g_A D) s.heap s.heap [] := va_S.rf
  have hl := lv_entry ([.ref x0]) (n := 1) (Nat.le_of_ble_eq_true rfl)
  rw [lg_entry_eq]
  generalize (lg_sl ([.ref x0]) ++ List.replicate (1 - (lg_sl ([.ref x0])).length) Slot.unset).toArray = ls at hl ⊢
  have hl : lv_has ls 1 [(0, .ref x0)] := hl
  unfold fX8_thrown at hf
  refine lv_aload_n hx hb dX8_thrown_0 rfl (lv_at hl 0 rfl) ?_
  obtain ⟨v1, hv1, hf⟩ := g_bind hf
  refine g_geti hx hb hts hown hK hG hv1 rfl iX8 (by decide) flX8_30 dX8_thrown_1 ?_
  cases hf
  exact g_iret hx hb hr hlocks hG hS dX8_thrown_4

def rmX8_at : Room := { frames := 0, cells := 0, slots := 0, locals := 0 }
noncomputable def BX8_at_26  (σ : g_S) (y0 : Int32) : Option (Int32 × g_S) := some (y0, σ)
noncomputable def fX8_at (σ : g_S) (x0 : Nat) (x1 : Int32) (x2 : Int32) : Option (Int32 × g_S) := (g_fr σ 8 x0 2).bind fun v1 => (g_li σ 0 v1 x1).bind fun v2 => if v2 ≤ x2 then (BX8_at_26 σ 0) else ((g_fr σ 8 x0 1).bind fun v4 => (g_li σ 0 v4 ((264 * x1) + x2)).bind fun v5 => BX8_at_26 σ v5)
set_option maxHeartbeats 4000000 in
set_option maxRecDepth 100000 in
theorem tBX8_at_26 {p : Program} {l : Launch} {e : Env} {s : State} {m : MethodId} {args : Array Value} {below : List Frame} {meth : Method} {c : Code} {D : g_D} {out : Int32 × g_S} (C : g_C RX8 cX8_at 3 (some .int) True p s m args meth c) (hK : g_K D s)  : ∀ (σ : g_S) (y0 : Int32) (H : Heap) (locs : List Loc) (ls : Array Slot), g_H D σ H → va_S (g_A D) s.heap H locs → lv_has ls 3 [] → BX8_at_26  σ y0 = some out → W p l e rmX8_at s m args below meth c H locs 0 0 (MQ below (g_Q D out.2 (some (.int out.1))) args s 0 0 (g_A D)) (F0 m 26 ls [.int y0]) := by
  obtain ⟨hx, hb, hml, hown, hts, hr, hlocks, hin⟩ := id C
  intro σ y0 H locs ls hG hS hl hf
  unfold BX8_at_26 at hf
  cases hf
  exact g_iret hx hb hr hlocks hG hS dX8_at_26

set_option maxHeartbeats 4000000 in
set_option maxRecDepth 100000 in
theorem tX8_at (l : Launch) (D : g_D) {σ : g_S} {x0 : Nat} {x1 : Int32} {x2 : Int32} {out : Int32 × g_S} (hf : fX8_at σ x0 x1 x2 = some out) : Met l yX8_at (Cond.code yX8_at cX8_at 3 (some .int) :: lw_g) rmX8_at (g_P D σ [.ref x0, .int x1, .int x2]) (g_Q D out.2 (some (.int out.1))) 0 0 (g_A D) := by
  refine Met.ofW (cc := cX8_at) (maxL := 3) (ret := (some .int)) (by decide +kernel) rfl ?_
  intro p e s m args below meth c s₁ B hml hv
  obtain ⟨rfl, hG, hK⟩ := hv
  have hts : ∀ w ∈ lw_g, w.before _ s = true := fun w h => atoms_spec (ws := (Cond.code yX8_at cX8_at 3 (some .int) :: lw_g)) B.pre w (List.mem_cons_of_mem _ h)
  have C : g_C RX8 cX8_at 3 (some .int) True p s m _ meth c := ⟨B.exec, B.bytes, hml, findClass_of_methodNamed B.named, hts, B.returns, B.notSynchronized, trivial⟩
  obtain ⟨hx, hb, hml, hown, hts, hr, hlocks, hin⟩ := id C
  have hS : va_S (g_A D) s.heap s.heap [] := va_S.rf
  have hl := lv_entry ([.ref x0, .int x1, .int x2]) (n := 3) (Nat.le_of_ble_eq_true rfl)
  rw [lg_entry_eq]
  generalize (lg_sl ([.ref x0, .int x1, .int x2]) ++ List.replicate (3 - (lg_sl ([.ref x0, .int x1, .int x2])).length) Slot.unset).toArray = ls at hl ⊢
  have hl : lv_has ls 3 [(0, .ref x0), (1, .int x1), (2, .int x2)] := hl
  unfold fX8_at at hf
  refine lv_iload_n hx hb dX8_at_0 rfl (lv_at hl 2 rfl) ?_
  refine lv_aload_n hx hb dX8_at_1 rfl (lv_at hl 0 rfl) ?_
  obtain ⟨v1, hv1, hf⟩ := g_bind hf
  refine g_getr hx hb hts hown hK hG hv1 rfl iX8 (by decide) flX8_13 dX8_at_2 ?_
  refine lv_iload_n hx hb dX8_at_5 rfl (lv_at hl 1 rfl) ?_
  obtain ⟨v2, hv2, hf⟩ := g_bind hf
  refine g_iald hx hb hK hG hv2 rfl dX8_at_6 ?_
  refine lv_icmp_ge (tgt := 25) hx hb dX8_at_7 (by decide) (fun c3 => ?_) (fun c3 => ?_)
  · rw [if_pos c3] at hf
    refine lv_iconst (v := 0) hx hb dX8_at_25 (by decide +kernel) ?_
    exact tBX8_at_26 C hK   _ _ _ _ _ hG hS (lv_sub hl [] rfl) hf
  · rw [if_neg c3] at hf
    refine lv_aload_n hx hb dX8_at_10 rfl (lv_at hl 0 rfl) ?_
    obtain ⟨v4, hv4, hf⟩ := g_bind hf
    refine g_getr hx hb hts hown hK hG hv4 rfl iX8 (by decide) flX8_7 dX8_at_11 ?_
    refine lv_sipush (v := 264) hx hb dX8_at_14 (by decide +kernel) ?_
    refine lv_iload_n hx hb dX8_at_17 rfl (lv_at hl 1 rfl) ?_
    refine lv_imul hx hb dX8_at_18 ?_
    refine lv_iload_n hx hb dX8_at_19 rfl (lv_at hl 2 rfl) ?_
    refine lv_iadd hx hb dX8_at_20 ?_
    obtain ⟨v5, hv5, hf⟩ := g_bind hf
    refine g_iald hx hb hK hG hv5 rfl dX8_at_21 ?_
    refine lv_goto (tgt := 26) hx hb dX8_at_22 (by decide) ?_
    exact tBX8_at_26 C hK   _ _ _ _ _ hG hS (lv_sub hl [] rfl) hf

def rmX8_isZero : Room := { frames := 0, cells := 0, slots := 0, locals := 0 }
noncomputable def BX8_isZero_14  (σ : g_S) (y0 : Int32) : Option (Int32 × g_S) := g_if (y0 = 0 ∨ y0 = 1) <| some (y0, σ)
noncomputable def fX8_isZero (σ : g_S) (x0 : Nat) (x1 : Int32) : Option (Int32 × g_S) := (g_fr σ 8 x0 2).bind fun v1 => (g_li σ 0 v1 x1).bind fun v2 => if v2 = 0 then (BX8_isZero_14 σ 1) else (BX8_isZero_14 σ 0)
set_option maxHeartbeats 4000000 in
set_option maxRecDepth 100000 in
theorem tBX8_isZero_14 {p : Program} {l : Launch} {e : Env} {s : State} {m : MethodId} {args : Array Value} {below : List Frame} {meth : Method} {c : Code} {D : g_D} {out : Int32 × g_S} (C : g_C RX8 cX8_isZero 2 (some .boolean) True p s m args meth c) (hK : g_K D s)  : ∀ (σ : g_S) (y0 : Int32) (H : Heap) (locs : List Loc) (ls : Array Slot), g_H D σ H → va_S (g_A D) s.heap H locs → lv_has ls 2 [] → BX8_isZero_14  σ y0 = some out → W p l e rmX8_isZero s m args below meth c H locs 0 0 (MQ below (g_Q D out.2 (some (.int out.1))) args s 0 0 (g_A D)) (F0 m 14 ls [.int y0]) := by
  obtain ⟨hx, hb, hml, hown, hts, hr, hlocks, hin⟩ := id C
  intro σ y0 H locs ls hG hS hl hf
  unfold BX8_isZero_14 at hf
  obtain ⟨z4, hf⟩ := g_if_spec hf
  cases hf
  exact g_zret hx hb hr hlocks z4 hG hS dX8_isZero_14

set_option maxHeartbeats 4000000 in
set_option maxRecDepth 100000 in
theorem tX8_isZero (l : Launch) (D : g_D) {σ : g_S} {x0 : Nat} {x1 : Int32} {out : Int32 × g_S} (hf : fX8_isZero σ x0 x1 = some out) : Met l yX8_isZero (Cond.code yX8_isZero cX8_isZero 2 (some .boolean) :: lw_g) rmX8_isZero (g_P D σ [.ref x0, .int x1]) (g_Q D out.2 (some (.int out.1))) 0 0 (g_A D) := by
  refine Met.ofW (cc := cX8_isZero) (maxL := 2) (ret := (some .boolean)) (by decide +kernel) rfl ?_
  intro p e s m args below meth c s₁ B hml hv
  obtain ⟨rfl, hG, hK⟩ := hv
  have hts : ∀ w ∈ lw_g, w.before _ s = true := fun w h => atoms_spec (ws := (Cond.code yX8_isZero cX8_isZero 2 (some .boolean) :: lw_g)) B.pre w (List.mem_cons_of_mem _ h)
  have C : g_C RX8 cX8_isZero 2 (some .boolean) True p s m _ meth c := ⟨B.exec, B.bytes, hml, findClass_of_methodNamed B.named, hts, B.returns, B.notSynchronized, trivial⟩
  obtain ⟨hx, hb, hml, hown, hts, hr, hlocks, hin⟩ := id C
  have hS : va_S (g_A D) s.heap s.heap [] := va_S.rf
  have hl := lv_entry ([.ref x0, .int x1]) (n := 2) (Nat.le_of_ble_eq_true rfl)
  rw [lg_entry_eq]
  generalize (lg_sl ([.ref x0, .int x1]) ++ List.replicate (2 - (lg_sl ([.ref x0, .int x1])).length) Slot.unset).toArray = ls at hl ⊢
  have hl : lv_has ls 2 [(0, .ref x0), (1, .int x1)] := hl
  unfold fX8_isZero at hf
  refine lv_aload_n hx hb dX8_isZero_0 rfl (lv_at hl 0 rfl) ?_
  obtain ⟨v1, hv1, hf⟩ := g_bind hf
  refine g_getr hx hb hts hown hK hG hv1 rfl iX8 (by decide) flX8_13 dX8_isZero_1 ?_
  refine lv_iload_n hx hb dX8_isZero_4 rfl (lv_at hl 1 rfl) ?_
  obtain ⟨v2, hv2, hf⟩ := g_bind hf
  refine g_iald hx hb hK hG hv2 rfl dX8_isZero_5 ?_
  refine lv_if_ne (tgt := 13) hx hb dX8_isZero_6 (by decide) (fun c3 => ?_) (fun c3 => ?_)
  · rw [if_neg c3] at hf
    refine lv_iconst (v := 0) hx hb dX8_isZero_13 (by decide +kernel) ?_
    exact tBX8_isZero_14 C hK   _ _ _ _ _ hG hS (lv_sub hl [] rfl) hf
  · rw [if_pos c3] at hf
    refine lv_iconst (v := 1) hx hb dX8_isZero_9 (by decide +kernel) ?_
    refine lv_goto (tgt := 14) hx hb dX8_isZero_10 (by decide) ?_
    exact tBX8_isZero_14 C hK   _ _ _ _ _ hG hS (lv_sub hl [] rfl) hf

def rmX8_isOne : Room := { frames := 0, cells := 0, slots := 0, locals := 0 }
noncomputable def BX8_isOne_29  (σ : g_S) (y0 : Int32) : Option (Int32 × g_S) := g_if (y0 = 0 ∨ y0 = 1) <| some (y0, σ)
noncomputable def BX8_isOne_28  (σ : g_S)  : Option (Int32 × g_S) := BX8_isOne_29 σ 0
noncomputable def fX8_isOne (σ : g_S) (x0 : Nat) (x1 : Int32) : Option (Int32 × g_S) := (g_fr σ 8 x0 2).bind fun v1 => (g_li σ 0 v1 x1).bind fun v2 => if v2 = 1 then ((g_fr σ 8 x0 1).bind fun v5 => (g_li σ 0 v5 (264 * x1)).bind fun v6 => if v6 = 1 then (BX8_isOne_29 σ 1) else (BX8_isOne_28 σ)) else (BX8_isOne_28 σ)
set_option maxHeartbeats 4000000 in
set_option maxRecDepth 100000 in
theorem tBX8_isOne_29 {p : Program} {l : Launch} {e : Env} {s : State} {m : MethodId} {args : Array Value} {below : List Frame} {meth : Method} {c : Code} {D : g_D} {out : Int32 × g_S} (C : g_C RX8 cX8_isOne 2 (some .boolean) True p s m args meth c) (hK : g_K D s)  : ∀ (σ : g_S) (y0 : Int32) (H : Heap) (locs : List Loc) (ls : Array Slot), g_H D σ H → va_S (g_A D) s.heap H locs → lv_has ls 2 [] → BX8_isOne_29  σ y0 = some out → W p l e rmX8_isOne s m args below meth c H locs 0 0 (MQ below (g_Q D out.2 (some (.int out.1))) args s 0 0 (g_A D)) (F0 m 29 ls [.int y0]) := by
  obtain ⟨hx, hb, hml, hown, hts, hr, hlocks, hin⟩ := id C
  intro σ y0 H locs ls hG hS hl hf
  unfold BX8_isOne_29 at hf
  obtain ⟨z4, hf⟩ := g_if_spec hf
  cases hf
  exact g_zret hx hb hr hlocks z4 hG hS dX8_isOne_29

set_option maxHeartbeats 4000000 in
set_option maxRecDepth 100000 in
theorem tBX8_isOne_28 {p : Program} {l : Launch} {e : Env} {s : State} {m : MethodId} {args : Array Value} {below : List Frame} {meth : Method} {c : Code} {D : g_D} {out : Int32 × g_S} (C : g_C RX8 cX8_isOne 2 (some .boolean) True p s m args meth c) (hK : g_K D s)  : ∀ (σ : g_S)  (H : Heap) (locs : List Loc) (ls : Array Slot), g_H D σ H → va_S (g_A D) s.heap H locs → lv_has ls 2 [] → BX8_isOne_28  σ  = some out → W p l e rmX8_isOne s m args below meth c H locs 0 0 (MQ below (g_Q D out.2 (some (.int out.1))) args s 0 0 (g_A D)) (F0 m 28 ls []) := by
  obtain ⟨hx, hb, hml, hown, hts, hr, hlocks, hin⟩ := id C
  intro σ  H locs ls hG hS hl hf
  unfold BX8_isOne_28 at hf
  refine lv_iconst (v := 0) hx hb dX8_isOne_28 (by decide +kernel) ?_
  exact tBX8_isOne_29 C hK   _ _ _ _ _ hG hS (lv_sub hl [] rfl) hf

set_option maxHeartbeats 4000000 in
set_option maxRecDepth 100000 in
theorem tX8_isOne (l : Launch) (D : g_D) {σ : g_S} {x0 : Nat} {x1 : Int32} {out : Int32 × g_S} (hf : fX8_isOne σ x0 x1 = some out) : Met l yX8_isOne (Cond.code yX8_isOne cX8_isOne 2 (some .boolean) :: lw_g) rmX8_isOne (g_P D σ [.ref x0, .int x1]) (g_Q D out.2 (some (.int out.1))) 0 0 (g_A D) := by
  refine Met.ofW (cc := cX8_isOne) (maxL := 2) (ret := (some .boolean)) (by decide +kernel) rfl ?_
  intro p e s m args below meth c s₁ B hml hv
  obtain ⟨rfl, hG, hK⟩ := hv
  have hts : ∀ w ∈ lw_g, w.before _ s = true := fun w h => atoms_spec (ws := (Cond.code yX8_isOne cX8_isOne 2 (some .boolean) :: lw_g)) B.pre w (List.mem_cons_of_mem _ h)
  have C : g_C RX8 cX8_isOne 2 (some .boolean) True p s m _ meth c := ⟨B.exec, B.bytes, hml, findClass_of_methodNamed B.named, hts, B.returns, B.notSynchronized, trivial⟩
  obtain ⟨hx, hb, hml, hown, hts, hr, hlocks, hin⟩ := id C
  have hS : va_S (g_A D) s.heap s.heap [] := va_S.rf
  have hl := lv_entry ([.ref x0, .int x1]) (n := 2) (Nat.le_of_ble_eq_true rfl)
  rw [lg_entry_eq]
  generalize (lg_sl ([.ref x0, .int x1]) ++ List.replicate (2 - (lg_sl ([.ref x0, .int x1])).length) Slot.unset).toArray = ls at hl ⊢
  have hl : lv_has ls 2 [(0, .ref x0), (1, .int x1)] := hl
  unfold fX8_isOne at hf
  refine lv_aload_n hx hb dX8_isOne_0 rfl (lv_at hl 0 rfl) ?_
  obtain ⟨v1, hv1, hf⟩ := g_bind hf
  refine g_getr hx hb hts hown hK hG hv1 rfl iX8 (by decide) flX8_13 dX8_isOne_1 ?_
  refine lv_iload_n hx hb dX8_isOne_4 rfl (lv_at hl 1 rfl) ?_
  obtain ⟨v2, hv2, hf⟩ := g_bind hf
  refine g_iald hx hb hK hG hv2 rfl dX8_isOne_5 ?_
  refine lv_iconst (v := 1) hx hb dX8_isOne_6 (by decide +kernel) ?_
  refine lv_icmp_ne (tgt := 28) hx hb dX8_isOne_7 (by decide) (fun c3 => ?_) (fun c3 => ?_)
  · rw [if_neg c3] at hf
    exact tBX8_isOne_28 C hK   _  _ _ _ hG hS (lv_sub hl [] rfl) hf
  · rw [if_pos c3] at hf
    refine lv_aload_n hx hb dX8_isOne_10 rfl (lv_at hl 0 rfl) ?_
    obtain ⟨v5, hv5, hf⟩ := g_bind hf
    refine g_getr hx hb hts hown hK hG hv5 rfl iX8 (by decide) flX8_7 dX8_isOne_11 ?_
    refine lv_sipush (v := 264) hx hb dX8_isOne_14 (by decide +kernel) ?_
    refine lv_iload_n hx hb dX8_isOne_17 rfl (lv_at hl 1 rfl) ?_
    refine lv_imul hx hb dX8_isOne_18 ?_
    obtain ⟨v6, hv6, hf⟩ := g_bind hf
    refine g_iald hx hb hK hG hv6 rfl dX8_isOne_19 ?_
    refine lv_iconst (v := 1) hx hb dX8_isOne_20 (by decide +kernel) ?_
    refine lv_icmp_ne (tgt := 28) hx hb dX8_isOne_21 (by decide) (fun c7 => ?_) (fun c7 => ?_)
    · rw [if_neg c7] at hf
      exact tBX8_isOne_28 C hK   _  _ _ _ hG hS (lv_sub hl [] rfl) hf
    · rw [if_pos c7] at hf
      refine lv_iconst (v := 1) hx hb dX8_isOne_24 (by decide +kernel) ?_
      refine lv_goto (tgt := 29) hx hb dX8_isOne_25 (by decide) ?_
      exact tBX8_isOne_29 C hK   _ _ _ _ _ hG hS (lv_sub hl [] rfl) hf

def rmX8_copy : Room := { frames := 1, cells := 0, slots := 0, locals := 23 }
noncomputable def LX8_copy_2  : Nat → g_S → Nat → Int32 → Int32 → Int32 → Option (g_S)
  | 0, _, _, _, _, _ => none
  | n + 1, σ, x0, x1, x2, x3 => (g_fr σ 8 x0 2).bind fun v1 => (g_li σ 0 v1 x1).bind fun v2 => if v2 ≤ x3 then ((g_fr σ 8 x0 2).bind fun v4 => (g_fr σ 8 x0 2).bind fun v5 => (g_li σ 0 v5 x1).bind fun v6 => (g_si σ 0 v4 x2 v6).bind fun σ7 => some σ7) else ((g_o σ 8 x0).bind fun o8 => (fX8_at σ x0 x1 x3).bind fun r9 => (g_o r9.2 8 x0).bind fun o10 => (fX8_puts r9.2 x0 x2 x3 r9.1).bind fun r11 => g_let (x3 + 1) fun v12 => (LX8_copy_2  n) r11 x0 x1 x2 v12)
noncomputable def fX8_copy (σ : g_S) (x0 : Nat) (x1 : Int32) (x2 : Int32) : Option (g_S) := LX8_copy_2 g_fuel σ x0 x1 x2 0
set_option maxHeartbeats 4000000 in
set_option maxRecDepth 100000 in
theorem tLX8_copy_2 {p : Program} {l : Launch} {e : Env} {s : State} {m : MethodId} {args : Array Value} {below : List Frame} {meth : Method} {c : Code} {D : g_D} {out : g_S} (C : g_C RX8 cX8_copy 4 none True p s m args meth c) (hK : g_K D s)  : ∀ (n : Nat) (σ : g_S) (x0 : Nat) (x1 : Int32) (x2 : Int32) (x3 : Int32) (H : Heap) (locs : List Loc) (ls : Array Slot), g_H D σ H → va_S (g_A D) s.heap H locs → lv_has ls 4 [(0, .ref x0), (1, .int x1), (2, .int x2), (3, .int x3)] → LX8_copy_2  n σ x0 x1 x2 x3 = some out → W p l e rmX8_copy s m args below meth c H locs 0 0 (MQ below (g_Q D out (none)) args s 0 0 (g_A D)) (F0 m 2 ls [])  := by
  obtain ⟨hx, hb, hml, hown, hts, hr, hlocks, hin⟩ := id C
  intro n
  induction n with
  | zero => intro σ x0 x1 x2 x3 H locs ls hG hS hl hf; cases hf
  | succ n ih =>
    intro σ x0 x1 x2 x3 H locs ls hG hS hl hf
    have hf : ((g_fr σ 8 x0 2).bind fun v1 => (g_li σ 0 v1 x1).bind fun v2 => if v2 ≤ x3 then ((g_fr σ 8 x0 2).bind fun v4 => (g_fr σ 8 x0 2).bind fun v5 => (g_li σ 0 v5 x1).bind fun v6 => (g_si σ 0 v4 x2 v6).bind fun σ7 => some σ7) else ((g_o σ 8 x0).bind fun o8 => (fX8_at σ x0 x1 x3).bind fun r9 => (g_o r9.2 8 x0).bind fun o10 => (fX8_puts r9.2 x0 x2 x3 r9.1).bind fun r11 => g_let (x3 + 1) fun v12 => (LX8_copy_2  n) r11 x0 x1 x2 v12)) = some out := hf
    have hk2 := ih
    refine lv_iload_n hx hb dX8_copy_2 rfl (lv_at hl 3 rfl) ?_
    refine lv_aload_n hx hb dX8_copy_3 rfl (lv_at hl 0 rfl) ?_
    obtain ⟨v1, hv1, hf⟩ := g_bind hf
    refine g_getr hx hb hts hown hK hG hv1 rfl iX8 (by decide) flX8_13 dX8_copy_4 ?_
    refine lv_iload_n hx hb dX8_copy_7 rfl (lv_at hl 1 rfl) ?_
    obtain ⟨v2, hv2, hf⟩ := g_bind hf
    refine g_iald hx hb hK hG hv2 rfl dX8_copy_8 ?_
    refine lv_icmp_ge (tgt := 30) hx hb dX8_copy_9 (by decide) (fun c3 => ?_) (fun c3 => ?_)
    · rw [if_pos c3] at hf
      refine lv_aload_n hx hb dX8_copy_30 rfl (lv_at hl 0 rfl) ?_
      obtain ⟨v4, hv4, hf⟩ := g_bind hf
      refine g_getr hx hb hts hown hK hG hv4 rfl iX8 (by decide) flX8_13 dX8_copy_31 ?_
      refine lv_iload_n hx hb dX8_copy_34 rfl (lv_at hl 2 rfl) ?_
      refine lv_aload_n hx hb dX8_copy_35 rfl (lv_at hl 0 rfl) ?_
      obtain ⟨v5, hv5, hf⟩ := g_bind hf
      refine g_getr hx hb hts hown hK hG hv5 rfl iX8 (by decide) flX8_13 dX8_copy_36 ?_
      refine lv_iload_n hx hb dX8_copy_39 rfl (lv_at hl 1 rfl) ?_
      obtain ⟨v6, hv6, hf⟩ := g_bind hf
      refine g_iald hx hb hK hG hv6 rfl dX8_copy_40 ?_
      obtain ⟨σ7, hσ7, hf⟩ := g_bind hf
      refine g_iast hx hb hK hG hS hσ7 rfl dX8_copy_41 (fun H locs hG hS => ?_)
      cases hf
      exact g_vret hx hb hr hlocks hG hS dX8_copy_42
    · rw [if_neg c3] at hf
      refine lv_aload_n hx hb dX8_copy_12 rfl (lv_at hl 0 rfl) ?_
      refine lv_iload_n hx hb dX8_copy_13 rfl (lv_at hl 2 rfl) ?_
      refine lv_iload_n hx hb dX8_copy_14 rfl (lv_at hl 3 rfl) ?_
      refine lv_aload_n hx hb dX8_copy_15 rfl (lv_at hl 0 rfl) ?_
      refine lv_iload_n hx hb dX8_copy_16 rfl (lv_at hl 1 rfl) ?_
      refine lv_iload_n hx hb dX8_copy_17 rfl (lv_at hl 3 rfl) ?_
      obtain ⟨o8, ho8, hf⟩ := g_bind hf
      obtain ⟨r9, hr9, hf⟩ := g_bind hf
      refine g_callV hx hb hml hl.1 hts hown hK hG hS (As := [.int x1, .int x3]) (rest := [.int x3, .int x2, .ref x0]) (tX8_at l D hr9) vX8_at mlX8_41 ho8 rfl rfl rfl rfl ⟨Nat.le_of_ble_eq_true rfl, Nat.le_of_ble_eq_true rfl⟩ rfl rfl (Nat.le_of_ble_eq_true rfl) ⟨Nat.le_of_ble_eq_true rfl, Nat.le_of_ble_eq_true rfl⟩ dX8_copy_18 (fun H locs hG hS => ?_)
      obtain ⟨o10, ho10, hf⟩ := g_bind hf
      obtain ⟨r11, hr11, hf⟩ := g_bind hf
      refine g_callV hx hb hml hl.1 hts hown hK hG hS (As := [.int x2, .int x3, .int r9.1]) (rest := []) (tX8_puts l D hr11) vX8_puts mlX8_34 ho10 rfl rfl rfl rfl ⟨Nat.le_of_ble_eq_true rfl, Nat.le_of_ble_eq_true rfl⟩ rfl rfl (Nat.le_of_ble_eq_true rfl) ⟨Nat.le_of_ble_eq_true rfl, Nat.le_of_ble_eq_true rfl⟩ dX8_copy_21 (fun H locs hG hS => ?_)
      obtain ⟨v12, ev12, hf⟩ := g_let_spec hf
      refine lv_iinc (v := v12) (lv' := [(3, .int v12), (0, .ref x0), (1, .int x1), (2, .int x2)]) hx hb dX8_copy_24 hl (k := 3) rfl (by rw [← ev12]; rfl) (by decide) rfl (fun ls hl => ?_)
      refine lv_goto (tgt := 2) hx hb dX8_copy_27 (by decide) ?_
      exact hk2 _ _ _ _ _ _ _ _ hG hS (lv_sub hl [1, 2, 3, 0] rfl) hf

set_option maxHeartbeats 4000000 in
set_option maxRecDepth 100000 in
theorem tX8_copy (l : Launch) (D : g_D) {σ : g_S} {x0 : Nat} {x1 : Int32} {x2 : Int32} {out : g_S} (hf : fX8_copy σ x0 x1 x2 = some out) : Met l yX8_copy (Cond.code yX8_copy cX8_copy 4 none :: lw_g) rmX8_copy (g_P D σ [.ref x0, .int x1, .int x2]) (g_Q D out (none)) 0 0 (g_A D) := by
  refine Met.ofW (cc := cX8_copy) (maxL := 4) (ret := none) (by decide +kernel) rfl ?_
  intro p e s m args below meth c s₁ B hml hv
  obtain ⟨rfl, hG, hK⟩ := hv
  have hts : ∀ w ∈ lw_g, w.before _ s = true := fun w h => atoms_spec (ws := (Cond.code yX8_copy cX8_copy 4 none :: lw_g)) B.pre w (List.mem_cons_of_mem _ h)
  have C : g_C RX8 cX8_copy 4 none True p s m _ meth c := ⟨B.exec, B.bytes, hml, findClass_of_methodNamed B.named, hts, B.returns, B.notSynchronized, trivial⟩
  obtain ⟨hx, hb, hml, hown, hts, hr, hlocks, hin⟩ := id C
  have hS : va_S (g_A D) s.heap s.heap [] := va_S.rf
  have hl := lv_entry ([.ref x0, .int x1, .int x2]) (n := 4) (Nat.le_of_ble_eq_true rfl)
  rw [lg_entry_eq]
  generalize (lg_sl ([.ref x0, .int x1, .int x2]) ++ List.replicate (4 - (lg_sl ([.ref x0, .int x1, .int x2])).length) Slot.unset).toArray = ls at hl ⊢
  have hl : lv_has ls 4 [(0, .ref x0), (1, .int x1), (2, .int x2)] := hl
  unfold fX8_copy at hf
  refine lv_iconst (v := 0) hx hb dX8_copy_0 (by decide +kernel) ?_
  refine lv_istore_n (lv' := [(3, .int 0), (0, .ref x0), (1, .int x1), (2, .int x2)]) hx hb dX8_copy_1 rfl hl (by decide) rfl (fun ls hl => ?_)
  exact tLX8_copy_2 C hK  g_fuel _ _ _ _ _ _ _ _ hG hS (lv_sub hl [1, 2, 3, 0] rfl) hf

def rmX8_order : Room := { frames := 1, cells := 0, slots := 0, locals := 22 }
noncomputable def BX8_order_84  (σ : g_S) (y0 : Int32) : Option (Int32 × g_S) := some (y0, σ)
noncomputable def LX8_order_45  : Nat → g_S → Nat → Int32 → Int32 → Int32 → Option (Int32 × g_S)
  | 0, _, _, _, _, _ => none
  | n + 1, σ, x0, x1, x2, x3 => if x3 < 0 then (some (0, σ)) else ((g_o σ 8 x0).bind fun o10 => (fX8_at σ x0 x1 x3).bind fun r11 => (g_o r11.2 8 x0).bind fun o12 => (fX8_at r11.2 x0 x2 x3).bind fun r13 => if r11.1 = r13.1 then (g_let (x3 + (-1)) fun v15 => (LX8_order_45  n) r13.2 x0 x1 x2 v15) else ((g_o r13.2 8 x0).bind fun o16 => (fX8_at r13.2 x0 x1 x3).bind fun r17 => (g_o r17.2 8 x0).bind fun o18 => (fX8_at r17.2 x0 x2 x3).bind fun r19 => if r19.1 ≤ r17.1 then (BX8_order_84 r19.2 1) else (BX8_order_84 r19.2 (-1))))
noncomputable def BX8_order_35  (σ : g_S) (y0 : Int32) : Option (Int32 × g_S) := some (y0, σ)
noncomputable def fX8_order (σ : g_S) (x0 : Nat) (x1 : Int32) (x2 : Int32) : Option (Int32 × g_S) := (g_fr σ 8 x0 2).bind fun v1 => (g_li σ 0 v1 x1).bind fun v2 => (g_fr σ 8 x0 2).bind fun v3 => (g_li σ 0 v3 x2).bind fun v4 => if v2 = v4 then ((g_fr σ 8 x0 2).bind fun v6 => (g_li σ 0 v6 x1).bind fun v7 => g_let (v7 - 1) fun v8 => LX8_order_45 g_fuel σ x0 x1 x2 v8) else ((g_fr σ 8 x0 2).bind fun v21 => (g_li σ 0 v21 x1).bind fun v22 => (g_fr σ 8 x0 2).bind fun v23 => (g_li σ 0 v23 x2).bind fun v24 => if v24 ≤ v22 then (BX8_order_35 σ 1) else (BX8_order_35 σ (-1)))
set_option maxHeartbeats 4000000 in
set_option maxRecDepth 100000 in
theorem tBX8_order_84 {p : Program} {l : Launch} {e : Env} {s : State} {m : MethodId} {args : Array Value} {below : List Frame} {meth : Method} {c : Code} {D : g_D} {out : Int32 × g_S} (C : g_C RX8 cX8_order 4 (some .int) True p s m args meth c) (hK : g_K D s)  : ∀ (σ : g_S) (y0 : Int32) (H : Heap) (locs : List Loc) (ls : Array Slot), g_H D σ H → va_S (g_A D) s.heap H locs → lv_has ls 4 [] → BX8_order_84  σ y0 = some out → W p l e rmX8_order s m args below meth c H locs 0 0 (MQ below (g_Q D out.2 (some (.int out.1))) args s 0 0 (g_A D)) (F0 m 84 ls [.int y0]) := by
  obtain ⟨hx, hb, hml, hown, hts, hr, hlocks, hin⟩ := id C
  intro σ y0 H locs ls hG hS hl hf
  unfold BX8_order_84 at hf
  cases hf
  exact g_iret hx hb hr hlocks hG hS dX8_order_84

set_option maxHeartbeats 4000000 in
set_option maxRecDepth 100000 in
theorem tLX8_order_45 {p : Program} {l : Launch} {e : Env} {s : State} {m : MethodId} {args : Array Value} {below : List Frame} {meth : Method} {c : Code} {D : g_D} {out : Int32 × g_S} (C : g_C RX8 cX8_order 4 (some .int) True p s m args meth c) (hK : g_K D s)  : ∀ (n : Nat) (σ : g_S) (x0 : Nat) (x1 : Int32) (x2 : Int32) (x3 : Int32) (H : Heap) (locs : List Loc) (ls : Array Slot), g_H D σ H → va_S (g_A D) s.heap H locs → lv_has ls 4 [(0, .ref x0), (1, .int x1), (2, .int x2), (3, .int x3)] → LX8_order_45  n σ x0 x1 x2 x3 = some out → W p l e rmX8_order s m args below meth c H locs 0 0 (MQ below (g_Q D out.2 (some (.int out.1))) args s 0 0 (g_A D)) (F0 m 45 ls [])  := by
  obtain ⟨hx, hb, hml, hown, hts, hr, hlocks, hin⟩ := id C
  intro n
  induction n with
  | zero => intro σ x0 x1 x2 x3 H locs ls hG hS hl hf; cases hf
  | succ n ih =>
    intro σ x0 x1 x2 x3 H locs ls hG hS hl hf
    have hf : (if x3 < 0 then (some (0, σ)) else ((g_o σ 8 x0).bind fun o10 => (fX8_at σ x0 x1 x3).bind fun r11 => (g_o r11.2 8 x0).bind fun o12 => (fX8_at r11.2 x0 x2 x3).bind fun r13 => if r11.1 = r13.1 then (g_let (x3 + (-1)) fun v15 => (LX8_order_45  n) r13.2 x0 x1 x2 v15) else ((g_o r13.2 8 x0).bind fun o16 => (fX8_at r13.2 x0 x1 x3).bind fun r17 => (g_o r17.2 8 x0).bind fun o18 => (fX8_at r17.2 x0 x2 x3).bind fun r19 => if r19.1 ≤ r17.1 then (BX8_order_84 r19.2 1) else (BX8_order_84 r19.2 (-1))))) = some out := hf
    have hk45 := ih
    refine lv_iload_n hx hb dX8_order_45 rfl (lv_at hl 3 rfl) ?_
    refine lv_if_lt (tgt := 91) hx hb dX8_order_46 (by decide) (fun c9 => ?_) (fun c9 => ?_)
    · rw [if_pos c9] at hf
      refine lv_iconst (v := 0) hx hb dX8_order_91 (by decide +kernel) ?_
      cases hf
      exact g_iret hx hb hr hlocks hG hS dX8_order_92
    · rw [if_neg c9] at hf
      refine lv_aload_n hx hb dX8_order_49 rfl (lv_at hl 0 rfl) ?_
      refine lv_iload_n hx hb dX8_order_50 rfl (lv_at hl 1 rfl) ?_
      refine lv_iload_n hx hb dX8_order_51 rfl (lv_at hl 3 rfl) ?_
      obtain ⟨o10, ho10, hf⟩ := g_bind hf
      obtain ⟨r11, hr11, hf⟩ := g_bind hf
      refine g_callV hx hb hml hl.1 hts hown hK hG hS (As := [.int x1, .int x3]) (rest := []) (tX8_at l D hr11) vX8_at mlX8_41 ho10 rfl rfl rfl rfl ⟨Nat.le_of_ble_eq_true rfl, Nat.le_of_ble_eq_true rfl⟩ rfl rfl (Nat.le_of_ble_eq_true rfl) ⟨Nat.le_of_ble_eq_true rfl, Nat.le_of_ble_eq_true rfl⟩ dX8_order_52 (fun H locs hG hS => ?_)
      refine lv_aload_n hx hb dX8_order_55 rfl (lv_at hl 0 rfl) ?_
      refine lv_iload_n hx hb dX8_order_56 rfl (lv_at hl 2 rfl) ?_
      refine lv_iload_n hx hb dX8_order_57 rfl (lv_at hl 3 rfl) ?_
      obtain ⟨o12, ho12, hf⟩ := g_bind hf
      obtain ⟨r13, hr13, hf⟩ := g_bind hf
      refine g_callV hx hb hml hl.1 hts hown hK hG hS (As := [.int x2, .int x3]) (rest := [.int r11.1]) (tX8_at l D hr13) vX8_at mlX8_41 ho12 rfl rfl rfl rfl ⟨Nat.le_of_ble_eq_true rfl, Nat.le_of_ble_eq_true rfl⟩ rfl rfl (Nat.le_of_ble_eq_true rfl) ⟨Nat.le_of_ble_eq_true rfl, Nat.le_of_ble_eq_true rfl⟩ dX8_order_58 (fun H locs hG hS => ?_)
      refine lv_icmp_eq (tgt := 85) hx hb dX8_order_61 (by decide) (fun c14 => ?_) (fun c14 => ?_)
      · rw [if_pos c14] at hf
        obtain ⟨v15, ev15, hf⟩ := g_let_spec hf
        refine lv_iinc (v := v15) (lv' := [(3, .int v15), (0, .ref x0), (1, .int x1), (2, .int x2)]) hx hb dX8_order_85 hl (k := 3) rfl (by rw [← ev15]; rfl) (by decide) rfl (fun ls hl => ?_)
        refine lv_goto (tgt := 45) hx hb dX8_order_88 (by decide) ?_
        exact hk45 _ _ _ _ _ _ _ _ hG hS (lv_sub hl [1, 2, 3, 0] rfl) hf
      · rw [if_neg c14] at hf
        refine lv_aload_n hx hb dX8_order_64 rfl (lv_at hl 0 rfl) ?_
        refine lv_iload_n hx hb dX8_order_65 rfl (lv_at hl 1 rfl) ?_
        refine lv_iload_n hx hb dX8_order_66 rfl (lv_at hl 3 rfl) ?_
        obtain ⟨o16, ho16, hf⟩ := g_bind hf
        obtain ⟨r17, hr17, hf⟩ := g_bind hf
        refine g_callV hx hb hml hl.1 hts hown hK hG hS (As := [.int x1, .int x3]) (rest := []) (tX8_at l D hr17) vX8_at mlX8_41 ho16 rfl rfl rfl rfl ⟨Nat.le_of_ble_eq_true rfl, Nat.le_of_ble_eq_true rfl⟩ rfl rfl (Nat.le_of_ble_eq_true rfl) ⟨Nat.le_of_ble_eq_true rfl, Nat.le_of_ble_eq_true rfl⟩ dX8_order_67 (fun H locs hG hS => ?_)
        refine lv_aload_n hx hb dX8_order_70 rfl (lv_at hl 0 rfl) ?_
        refine lv_iload_n hx hb dX8_order_71 rfl (lv_at hl 2 rfl) ?_
        refine lv_iload_n hx hb dX8_order_72 rfl (lv_at hl 3 rfl) ?_
        obtain ⟨o18, ho18, hf⟩ := g_bind hf
        obtain ⟨r19, hr19, hf⟩ := g_bind hf
        refine g_callV hx hb hml hl.1 hts hown hK hG hS (As := [.int x2, .int x3]) (rest := [.int r17.1]) (tX8_at l D hr19) vX8_at mlX8_41 ho18 rfl rfl rfl rfl ⟨Nat.le_of_ble_eq_true rfl, Nat.le_of_ble_eq_true rfl⟩ rfl rfl (Nat.le_of_ble_eq_true rfl) ⟨Nat.le_of_ble_eq_true rfl, Nat.le_of_ble_eq_true rfl⟩ dX8_order_73 (fun H locs hG hS => ?_)
        refine lv_icmp_ge (tgt := 83) hx hb dX8_order_76 (by decide) (fun c20 => ?_) (fun c20 => ?_)
        · rw [if_pos c20] at hf
          refine lv_iconst (v := 1) hx hb dX8_order_83 (by decide +kernel) ?_
          exact tBX8_order_84 C hK   _ _ _ _ _ hG hS (lv_sub hl [] rfl) hf
        · rw [if_neg c20] at hf
          refine lv_iconst (v := (-1)) hx hb dX8_order_79 (by decide +kernel) ?_
          refine lv_goto (tgt := 84) hx hb dX8_order_80 (by decide) ?_
          exact tBX8_order_84 C hK   _ _ _ _ _ hG hS (lv_sub hl [] rfl) hf

set_option maxHeartbeats 4000000 in
set_option maxRecDepth 100000 in
theorem tBX8_order_35 {p : Program} {l : Launch} {e : Env} {s : State} {m : MethodId} {args : Array Value} {below : List Frame} {meth : Method} {c : Code} {D : g_D} {out : Int32 × g_S} (C : g_C RX8 cX8_order 4 (some .int) True p s m args meth c) (hK : g_K D s)  : ∀ (σ : g_S) (y0 : Int32) (H : Heap) (locs : List Loc) (ls : Array Slot), g_H D σ H → va_S (g_A D) s.heap H locs → lv_has ls 4 [] → BX8_order_35  σ y0 = some out → W p l e rmX8_order s m args below meth c H locs 0 0 (MQ below (g_Q D out.2 (some (.int out.1))) args s 0 0 (g_A D)) (F0 m 35 ls [.int y0]) := by
  obtain ⟨hx, hb, hml, hown, hts, hr, hlocks, hin⟩ := id C
  intro σ y0 H locs ls hG hS hl hf
  unfold BX8_order_35 at hf
  cases hf
  exact g_iret hx hb hr hlocks hG hS dX8_order_35

set_option maxHeartbeats 4000000 in
set_option maxRecDepth 100000 in
theorem tX8_order (l : Launch) (D : g_D) {σ : g_S} {x0 : Nat} {x1 : Int32} {x2 : Int32} {out : Int32 × g_S} (hf : fX8_order σ x0 x1 x2 = some out) : Met l yX8_order (Cond.code yX8_order cX8_order 4 (some .int) :: lw_g) rmX8_order (g_P D σ [.ref x0, .int x1, .int x2]) (g_Q D out.2 (some (.int out.1))) 0 0 (g_A D) := by
  refine Met.ofW (cc := cX8_order) (maxL := 4) (ret := (some .int)) (by decide +kernel) rfl ?_
  intro p e s m args below meth c s₁ B hml hv
  obtain ⟨rfl, hG, hK⟩ := hv
  have hts : ∀ w ∈ lw_g, w.before _ s = true := fun w h => atoms_spec (ws := (Cond.code yX8_order cX8_order 4 (some .int) :: lw_g)) B.pre w (List.mem_cons_of_mem _ h)
  have C : g_C RX8 cX8_order 4 (some .int) True p s m _ meth c := ⟨B.exec, B.bytes, hml, findClass_of_methodNamed B.named, hts, B.returns, B.notSynchronized, trivial⟩
  obtain ⟨hx, hb, hml, hown, hts, hr, hlocks, hin⟩ := id C
  have hS : va_S (g_A D) s.heap s.heap [] := va_S.rf
  have hl := lv_entry ([.ref x0, .int x1, .int x2]) (n := 4) (Nat.le_of_ble_eq_true rfl)
  rw [lg_entry_eq]
  generalize (lg_sl ([.ref x0, .int x1, .int x2]) ++ List.replicate (4 - (lg_sl ([.ref x0, .int x1, .int x2])).length) Slot.unset).toArray = ls at hl ⊢
  have hl : lv_has ls 4 [(0, .ref x0), (1, .int x1), (2, .int x2)] := hl
  unfold fX8_order at hf
  refine lv_aload_n hx hb dX8_order_0 rfl (lv_at hl 0 rfl) ?_
  obtain ⟨v1, hv1, hf⟩ := g_bind hf
  refine g_getr hx hb hts hown hK hG hv1 rfl iX8 (by decide) flX8_13 dX8_order_1 ?_
  refine lv_iload_n hx hb dX8_order_4 rfl (lv_at hl 1 rfl) ?_
  obtain ⟨v2, hv2, hf⟩ := g_bind hf
  refine g_iald hx hb hK hG hv2 rfl dX8_order_5 ?_
  refine lv_aload_n hx hb dX8_order_6 rfl (lv_at hl 0 rfl) ?_
  obtain ⟨v3, hv3, hf⟩ := g_bind hf
  refine g_getr hx hb hts hown hK hG hv3 rfl iX8 (by decide) flX8_13 dX8_order_7 ?_
  refine lv_iload_n hx hb dX8_order_10 rfl (lv_at hl 2 rfl) ?_
  obtain ⟨v4, hv4, hf⟩ := g_bind hf
  refine g_iald hx hb hK hG hv4 rfl dX8_order_11 ?_
  refine lv_icmp_eq (tgt := 36) hx hb dX8_order_12 (by decide) (fun c5 => ?_) (fun c5 => ?_)
  · rw [if_pos c5] at hf
    refine lv_aload_n hx hb dX8_order_36 rfl (lv_at hl 0 rfl) ?_
    obtain ⟨v6, hv6, hf⟩ := g_bind hf
    refine g_getr hx hb hts hown hK hG hv6 rfl iX8 (by decide) flX8_13 dX8_order_37 ?_
    refine lv_iload_n hx hb dX8_order_40 rfl (lv_at hl 1 rfl) ?_
    obtain ⟨v7, hv7, hf⟩ := g_bind hf
    refine g_iald hx hb hK hG hv7 rfl dX8_order_41 ?_
    refine lv_iconst (v := 1) hx hb dX8_order_42 (by decide +kernel) ?_
    refine lv_isub hx hb dX8_order_43 ?_
    obtain ⟨v8, ev8, hf⟩ := g_let_spec hf
    refine g_topi ev8 ?_
    refine lv_istore_n (lv' := [(3, .int v8), (0, .ref x0), (1, .int x1), (2, .int x2)]) hx hb dX8_order_44 rfl hl (by decide) rfl (fun ls hl => ?_)
    exact tLX8_order_45 C hK  g_fuel _ _ _ _ _ _ _ _ hG hS (lv_sub hl [1, 2, 3, 0] rfl) hf
  · rw [if_neg c5] at hf
    refine lv_aload_n hx hb dX8_order_15 rfl (lv_at hl 0 rfl) ?_
    obtain ⟨v21, hv21, hf⟩ := g_bind hf
    refine g_getr hx hb hts hown hK hG hv21 rfl iX8 (by decide) flX8_13 dX8_order_16 ?_
    refine lv_iload_n hx hb dX8_order_19 rfl (lv_at hl 1 rfl) ?_
    obtain ⟨v22, hv22, hf⟩ := g_bind hf
    refine g_iald hx hb hK hG hv22 rfl dX8_order_20 ?_
    refine lv_aload_n hx hb dX8_order_21 rfl (lv_at hl 0 rfl) ?_
    obtain ⟨v23, hv23, hf⟩ := g_bind hf
    refine g_getr hx hb hts hown hK hG hv23 rfl iX8 (by decide) flX8_13 dX8_order_22 ?_
    refine lv_iload_n hx hb dX8_order_25 rfl (lv_at hl 2 rfl) ?_
    obtain ⟨v24, hv24, hf⟩ := g_bind hf
    refine g_iald hx hb hK hG hv24 rfl dX8_order_26 ?_
    refine lv_icmp_ge (tgt := 34) hx hb dX8_order_27 (by decide) (fun c25 => ?_) (fun c25 => ?_)
    · rw [if_pos c25] at hf
      refine lv_iconst (v := 1) hx hb dX8_order_34 (by decide +kernel) ?_
      exact tBX8_order_35 C hK   _ _ _ _ _ hG hS (lv_sub hl [] rfl) hf
    · rw [if_neg c25] at hf
      refine lv_iconst (v := (-1)) hx hb dX8_order_30 (by decide +kernel) ?_
      refine lv_goto (tgt := 35) hx hb dX8_order_31 (by decide) ?_
      exact tBX8_order_35 C hK   _ _ _ _ _ hG hS (lv_sub hl [] rfl) hf

def rmX8_add : Room := { frames := 1, cells := 0, slots := 0, locals := 23 }
noncomputable def LX8_add_40  : Nat → g_S → Nat → Int32 → Int32 → Int32 → Int32 → Int32 → Int32 → Option (g_S)
  | 0, _, _, _, _, _, _, _, _ => none
  | n + 1, σ, x0, x1, x2, x3, x4, x5, x6 => if x4 ≤ x6 then ((g_o σ 8 x0).bind fun o10 => (fX8_trim σ x0 x3 x4).bind fun r11 => some r11) else ((g_o σ 8 x0).bind fun o12 => (fX8_at σ x0 x1 x6).bind fun r13 => (g_o r13.2 8 x0).bind fun o14 => (fX8_at r13.2 x0 x2 x6).bind fun r15 => g_let ((r13.1 + r15.1) + x5) fun v16 => (g_o r15.2 8 x0).bind fun o17 => (fX8_puts r15.2 x0 x3 x6 (g_irem v16 65536)).bind fun r18 => g_let (v16 / 65536) fun v19 => g_let (x6 + 1) fun v20 => (LX8_add_40  n) r18 x0 x1 x2 x3 x4 v19 v20)
noncomputable def BX8_add_30  (σ : g_S) (x0 : Nat) (x1 : Int32) (x2 : Int32) (x3 : Int32) (y0 : Int32) : Option (g_S) := g_let (y0 + 1) fun v8 => LX8_add_40 g_fuel σ x0 x1 x2 x3 v8 0 0
noncomputable def fX8_add (σ : g_S) (x0 : Nat) (x1 : Int32) (x2 : Int32) (x3 : Int32) : Option (g_S) := (g_fr σ 8 x0 2).bind fun v1 => (g_li σ 0 v1 x1).bind fun v2 => (g_fr σ 8 x0 2).bind fun v3 => (g_li σ 0 v3 x2).bind fun v4 => if v2 ≤ v4 then ((g_fr σ 8 x0 2).bind fun v6 => (g_li σ 0 v6 x2).bind fun v7 => BX8_add_30 σ x0 x1 x2 x3 v7) else ((g_fr σ 8 x0 2).bind fun v21 => (g_li σ 0 v21 x1).bind fun v22 => BX8_add_30 σ x0 x1 x2 x3 v22)
set_option maxHeartbeats 4000000 in
set_option maxRecDepth 100000 in
theorem tLX8_add_40 {p : Program} {l : Launch} {e : Env} {s : State} {m : MethodId} {args : Array Value} {below : List Frame} {meth : Method} {c : Code} {D : g_D} {out : g_S} (C : g_C RX8 cX8_add 8 none True p s m args meth c) (hK : g_K D s)  : ∀ (n : Nat) (σ : g_S) (x0 : Nat) (x1 : Int32) (x2 : Int32) (x3 : Int32) (x4 : Int32) (x5 : Int32) (x6 : Int32) (H : Heap) (locs : List Loc) (ls : Array Slot), g_H D σ H → va_S (g_A D) s.heap H locs → lv_has ls 8 [(0, .ref x0), (1, .int x1), (2, .int x2), (3, .int x3), (4, .int x4), (5, .int x5), (6, .int x6)] → LX8_add_40  n σ x0 x1 x2 x3 x4 x5 x6 = some out → W p l e rmX8_add s m args below meth c H locs 0 0 (MQ below (g_Q D out (none)) args s 0 0 (g_A D)) (F0 m 40 ls [])  := by
  obtain ⟨hx, hb, hml, hown, hts, hr, hlocks, hin⟩ := id C
  intro n
  induction n with
  | zero => intro σ x0 x1 x2 x3 x4 x5 x6 H locs ls hG hS hl hf; cases hf
  | succ n ih =>
    intro σ x0 x1 x2 x3 x4 x5 x6 H locs ls hG hS hl hf
    have hf : (if x4 ≤ x6 then ((g_o σ 8 x0).bind fun o10 => (fX8_trim σ x0 x3 x4).bind fun r11 => some r11) else ((g_o σ 8 x0).bind fun o12 => (fX8_at σ x0 x1 x6).bind fun r13 => (g_o r13.2 8 x0).bind fun o14 => (fX8_at r13.2 x0 x2 x6).bind fun r15 => g_let ((r13.1 + r15.1) + x5) fun v16 => (g_o r15.2 8 x0).bind fun o17 => (fX8_puts r15.2 x0 x3 x6 (g_irem v16 65536)).bind fun r18 => g_let (v16 / 65536) fun v19 => g_let (x6 + 1) fun v20 => (LX8_add_40  n) r18 x0 x1 x2 x3 x4 v19 v20)) = some out := hf
    have hk40 := ih
    refine lv_iload hx hb dX8_add_40 (lv_at hl 6 rfl) ?_
    refine lv_iload hx hb dX8_add_42 (lv_at hl 4 rfl) ?_
    refine lv_icmp_ge (tgt := 92) hx hb dX8_add_44 (by decide) (fun c9 => ?_) (fun c9 => ?_)
    · rw [if_pos c9] at hf
      refine lv_aload_n hx hb dX8_add_92 rfl (lv_at hl 0 rfl) ?_
      refine lv_iload_n hx hb dX8_add_93 rfl (lv_at hl 3 rfl) ?_
      refine lv_iload hx hb dX8_add_94 (lv_at hl 4 rfl) ?_
      obtain ⟨o10, ho10, hf⟩ := g_bind hf
      obtain ⟨r11, hr11, hf⟩ := g_bind hf
      refine g_callV hx hb hml hl.1 hts hown hK hG hS (As := [.int x3, .int x4]) (rest := []) (tX8_trim l D hr11) vX8_trim mlX8_38 ho10 rfl rfl rfl rfl ⟨Nat.le_of_ble_eq_true rfl, Nat.le_of_ble_eq_true rfl⟩ rfl rfl (Nat.le_of_ble_eq_true rfl) ⟨Nat.le_of_ble_eq_true rfl, Nat.le_of_ble_eq_true rfl⟩ dX8_add_96 (fun H locs hG hS => ?_)
      cases hf
      exact g_vret hx hb hr hlocks hG hS dX8_add_99
    · rw [if_neg c9] at hf
      refine lv_aload_n hx hb dX8_add_47 rfl (lv_at hl 0 rfl) ?_
      refine lv_iload_n hx hb dX8_add_48 rfl (lv_at hl 1 rfl) ?_
      refine lv_iload hx hb dX8_add_49 (lv_at hl 6 rfl) ?_
      obtain ⟨o12, ho12, hf⟩ := g_bind hf
      obtain ⟨r13, hr13, hf⟩ := g_bind hf
      refine g_callV hx hb hml hl.1 hts hown hK hG hS (As := [.int x1, .int x6]) (rest := []) (tX8_at l D hr13) vX8_at mlX8_41 ho12 rfl rfl rfl rfl ⟨Nat.le_of_ble_eq_true rfl, Nat.le_of_ble_eq_true rfl⟩ rfl rfl (Nat.le_of_ble_eq_true rfl) ⟨Nat.le_of_ble_eq_true rfl, Nat.le_of_ble_eq_true rfl⟩ dX8_add_51 (fun H locs hG hS => ?_)
      refine lv_aload_n hx hb dX8_add_54 rfl (lv_at hl 0 rfl) ?_
      refine lv_iload_n hx hb dX8_add_55 rfl (lv_at hl 2 rfl) ?_
      refine lv_iload hx hb dX8_add_56 (lv_at hl 6 rfl) ?_
      obtain ⟨o14, ho14, hf⟩ := g_bind hf
      obtain ⟨r15, hr15, hf⟩ := g_bind hf
      refine g_callV hx hb hml hl.1 hts hown hK hG hS (As := [.int x2, .int x6]) (rest := [.int r13.1]) (tX8_at l D hr15) vX8_at mlX8_41 ho14 rfl rfl rfl rfl ⟨Nat.le_of_ble_eq_true rfl, Nat.le_of_ble_eq_true rfl⟩ rfl rfl (Nat.le_of_ble_eq_true rfl) ⟨Nat.le_of_ble_eq_true rfl, Nat.le_of_ble_eq_true rfl⟩ dX8_add_58 (fun H locs hG hS => ?_)
      refine lv_iadd hx hb dX8_add_61 ?_
      refine lv_iload hx hb dX8_add_62 (lv_at hl 5 rfl) ?_
      refine lv_iadd hx hb dX8_add_64 ?_
      obtain ⟨v16, ev16, hf⟩ := g_let_spec hf
      refine g_topi ev16 ?_
      refine lv_istore (lv' := [(7, .int v16), (0, .ref x0), (1, .int x1), (2, .int x2), (3, .int x3), (4, .int x4), (5, .int x5), (6, .int x6)]) hx hb dX8_add_65 hl (by decide) rfl (fun ls hl => ?_)
      refine lv_aload_n hx hb dX8_add_67 rfl (lv_at hl 1 rfl) ?_
      refine lv_iload_n hx hb dX8_add_68 rfl (lv_at hl 4 rfl) ?_
      refine lv_iload hx hb dX8_add_69 (lv_at hl 7 rfl) ?_
      refine lv_iload hx hb dX8_add_71 (lv_at hl 0 rfl) ?_
      refine lv_ldc (v := 65536) hx hb hown (hts _ coX8_45) dX8_add_73 ?_
      refine lv_irem hx hb dX8_add_75 (by decide) ?_
      refine g_topi (y := g_irem v16 65536) rfl ?_
      obtain ⟨o17, ho17, hf⟩ := g_bind hf
      obtain ⟨r18, hr18, hf⟩ := g_bind hf
      refine g_callV hx hb hml hl.1 hts hown hK hG hS (As := [.int x3, .int x6, .int (g_irem v16 65536)]) (rest := []) (tX8_puts l D hr18) vX8_puts mlX8_34 ho17 rfl rfl rfl rfl ⟨Nat.le_of_ble_eq_true rfl, Nat.le_of_ble_eq_true rfl⟩ rfl rfl (Nat.le_of_ble_eq_true rfl) ⟨Nat.le_of_ble_eq_true rfl, Nat.le_of_ble_eq_true rfl⟩ dX8_add_76 (fun H locs hG hS => ?_)
      refine lv_iload hx hb dX8_add_79 (lv_at hl 0 rfl) ?_
      refine lv_ldc (v := 65536) hx hb hown (hts _ coX8_45) dX8_add_81 ?_
      refine lv_idiv hx hb dX8_add_83 (by decide) ?_
      obtain ⟨v19, ev19, hf⟩ := g_let_spec hf
      refine g_topi ev19 ?_
      refine lv_istore (lv' := [(5, .int v19), (7, .int v16), (0, .ref x0), (1, .int x1), (2, .int x2), (3, .int x3), (4, .int x4), (6, .int x6)]) hx hb dX8_add_84 hl (by decide) rfl (fun ls hl => ?_)
      obtain ⟨v20, ev20, hf⟩ := g_let_spec hf
      refine lv_iinc (v := v20) (lv' := [(6, .int v20), (5, .int v19), (7, .int v16), (0, .ref x0), (1, .int x1), (2, .int x2), (3, .int x3), (4, .int x4)]) hx hb dX8_add_86 hl (k := 7) rfl (by rw [← ev20]; rfl) (by decide) rfl (fun ls hl => ?_)
      refine lv_goto (tgt := 40) hx hb dX8_add_89 (by decide) ?_
      exact hk40 _ _ _ _ _ _ _ _ _ _ _ hG hS (lv_sub hl [3, 4, 5, 6, 7, 1, 0] rfl) hf

set_option maxHeartbeats 4000000 in
set_option maxRecDepth 100000 in
theorem tBX8_add_30 {p : Program} {l : Launch} {e : Env} {s : State} {m : MethodId} {args : Array Value} {below : List Frame} {meth : Method} {c : Code} {D : g_D} {out : g_S} (C : g_C RX8 cX8_add 8 none True p s m args meth c) (hK : g_K D s)  : ∀ (σ : g_S) (x0 : Nat) (x1 : Int32) (x2 : Int32) (x3 : Int32) (y0 : Int32) (H : Heap) (locs : List Loc) (ls : Array Slot), g_H D σ H → va_S (g_A D) s.heap H locs → lv_has ls 8 [(0, .ref x0), (1, .int x1), (2, .int x2), (3, .int x3)] → BX8_add_30  σ x0 x1 x2 x3 y0 = some out → W p l e rmX8_add s m args below meth c H locs 0 0 (MQ below (g_Q D out (none)) args s 0 0 (g_A D)) (F0 m 30 ls [.int y0]) := by
  obtain ⟨hx, hb, hml, hown, hts, hr, hlocks, hin⟩ := id C
  intro σ x0 x1 x2 x3 y0 H locs ls hG hS hl hf
  unfold BX8_add_30 at hf
  refine lv_iconst (v := 1) hx hb dX8_add_30 (by decide +kernel) ?_
  refine lv_iadd hx hb dX8_add_31 ?_
  obtain ⟨v8, ev8, hf⟩ := g_let_spec hf
  refine g_topi ev8 ?_
  refine lv_istore (lv' := [(4, .int v8), (0, .ref x0), (1, .int x1), (2, .int x2), (3, .int x3)]) hx hb dX8_add_32 hl (by decide) rfl (fun ls hl => ?_)
  refine lv_iconst (v := 0) hx hb dX8_add_34 (by decide +kernel) ?_
  refine lv_istore (lv' := [(5, .int 0), (4, .int v8), (0, .ref x0), (1, .int x1), (2, .int x2), (3, .int x3)]) hx hb dX8_add_35 hl (by decide) rfl (fun ls hl => ?_)
  refine lv_iconst (v := 0) hx hb dX8_add_37 (by decide +kernel) ?_
  refine lv_istore (lv' := [(6, .int 0), (5, .int 0), (4, .int v8), (0, .ref x0), (1, .int x1), (2, .int x2), (3, .int x3)]) hx hb dX8_add_38 hl (by decide) rfl (fun ls hl => ?_)
  exact tLX8_add_40 C hK  g_fuel _ _ _ _ _ _ _ _ _ _ _ hG hS (lv_sub hl [3, 4, 5, 6, 2, 1, 0] rfl) hf

set_option maxHeartbeats 4000000 in
set_option maxRecDepth 100000 in
theorem tX8_add (l : Launch) (D : g_D) {σ : g_S} {x0 : Nat} {x1 : Int32} {x2 : Int32} {x3 : Int32} {out : g_S} (hf : fX8_add σ x0 x1 x2 x3 = some out) : Met l yX8_add (Cond.code yX8_add cX8_add 8 none :: lw_g) rmX8_add (g_P D σ [.ref x0, .int x1, .int x2, .int x3]) (g_Q D out (none)) 0 0 (g_A D) := by
  refine Met.ofW (cc := cX8_add) (maxL := 8) (ret := none) (by decide +kernel) rfl ?_
  intro p e s m args below meth c s₁ B hml hv
  obtain ⟨rfl, hG, hK⟩ := hv
  have hts : ∀ w ∈ lw_g, w.before _ s = true := fun w h => atoms_spec (ws := (Cond.code yX8_add cX8_add 8 none :: lw_g)) B.pre w (List.mem_cons_of_mem _ h)
  have C : g_C RX8 cX8_add 8 none True p s m _ meth c := ⟨B.exec, B.bytes, hml, findClass_of_methodNamed B.named, hts, B.returns, B.notSynchronized, trivial⟩
  obtain ⟨hx, hb, hml, hown, hts, hr, hlocks, hin⟩ := id C
  have hS : va_S (g_A D) s.heap s.heap [] := va_S.rf
  have hl := lv_entry ([.ref x0, .int x1, .int x2, .int x3]) (n := 8) (Nat.le_of_ble_eq_true rfl)
  rw [lg_entry_eq]
  generalize (lg_sl ([.ref x0, .int x1, .int x2, .int x3]) ++ List.replicate (8 - (lg_sl ([.ref x0, .int x1, .int x2, .int x3])).length) Slot.unset).toArray = ls at hl ⊢
  have hl : lv_has ls 8 [(0, .ref x0), (1, .int x1), (2, .int x2), (3, .int x3)] := hl
  unfold fX8_add at hf
  refine lv_aload_n hx hb dX8_add_0 rfl (lv_at hl 0 rfl) ?_
  obtain ⟨v1, hv1, hf⟩ := g_bind hf
  refine g_getr hx hb hts hown hK hG hv1 rfl iX8 (by decide) flX8_13 dX8_add_1 ?_
  refine lv_iload_n hx hb dX8_add_4 rfl (lv_at hl 1 rfl) ?_
  obtain ⟨v2, hv2, hf⟩ := g_bind hf
  refine g_iald hx hb hK hG hv2 rfl dX8_add_5 ?_
  refine lv_aload_n hx hb dX8_add_6 rfl (lv_at hl 0 rfl) ?_
  obtain ⟨v3, hv3, hf⟩ := g_bind hf
  refine g_getr hx hb hts hown hK hG hv3 rfl iX8 (by decide) flX8_13 dX8_add_7 ?_
  refine lv_iload_n hx hb dX8_add_10 rfl (lv_at hl 2 rfl) ?_
  obtain ⟨v4, hv4, hf⟩ := g_bind hf
  refine g_iald hx hb hK hG hv4 rfl dX8_add_11 ?_
  refine lv_icmp_le (tgt := 24) hx hb dX8_add_12 (by decide) (fun c5 => ?_) (fun c5 => ?_)
  · rw [if_pos c5] at hf
    refine lv_aload_n hx hb dX8_add_24 rfl (lv_at hl 0 rfl) ?_
    obtain ⟨v6, hv6, hf⟩ := g_bind hf
    refine g_getr hx hb hts hown hK hG hv6 rfl iX8 (by decide) flX8_13 dX8_add_25 ?_
    refine lv_iload_n hx hb dX8_add_28 rfl (lv_at hl 2 rfl) ?_
    obtain ⟨v7, hv7, hf⟩ := g_bind hf
    refine g_iald hx hb hK hG hv7 rfl dX8_add_29 ?_
    exact tBX8_add_30 C hK   _ _ _ _ _ _ _ _ _ hG hS (lv_sub hl [0, 1, 2, 3] rfl) hf
  · rw [if_neg c5] at hf
    refine lv_aload_n hx hb dX8_add_15 rfl (lv_at hl 0 rfl) ?_
    obtain ⟨v21, hv21, hf⟩ := g_bind hf
    refine g_getr hx hb hts hown hK hG hv21 rfl iX8 (by decide) flX8_13 dX8_add_16 ?_
    refine lv_iload_n hx hb dX8_add_19 rfl (lv_at hl 1 rfl) ?_
    obtain ⟨v22, hv22, hf⟩ := g_bind hf
    refine g_iald hx hb hK hG hv22 rfl dX8_add_20 ?_
    refine lv_goto (tgt := 30) hx hb dX8_add_21 (by decide) ?_
    exact tBX8_add_30 C hK   _ _ _ _ _ _ _ _ _ hG hS (lv_sub hl [0, 1, 2, 3] rfl) hf

def rmX8_subtract : Room := { frames := 1, cells := 0, slots := 0, locals := 23 }
noncomputable def BX8_subtract_51 (k14 : g_S → Nat → Int32 → Int32 → Int32 → Int32 → Int32 → Int32 → Option (g_S)) (σ : g_S) (x0 : Nat) (x1 : Int32) (x2 : Int32) (x3 : Int32) (x4 : Int32) (x6 : Int32) (x7 : Int32) (y0 : Int32) : Option (g_S) := (g_o σ 8 x0).bind fun o12 => (fX8_puts σ x0 x3 x6 (x7 + (65536 * y0))).bind fun r13 => g_let (x6 + 1) fun v14 => k14 r13 x0 x1 x2 x3 x4 y0 v14
noncomputable def LX8_subtract_14  : Nat → g_S → Nat → Int32 → Int32 → Int32 → Int32 → Int32 → Int32 → Option (g_S)
  | 0, _, _, _, _, _, _, _, _ => none
  | n + 1, σ, x0, x1, x2, x3, x4, x5, x6 => if x4 ≤ x6 then ((g_o σ 8 x0).bind fun o4 => (fX8_trim σ x0 x3 x4).bind fun r5 => some r5) else ((g_o σ 8 x0).bind fun o6 => (fX8_at σ x0 x1 x6).bind fun r7 => (g_o r7.2 8 x0).bind fun o8 => (fX8_at r7.2 x0 x2 x6).bind fun r9 => g_let ((r7.1 - r9.1) - x5) fun v10 => if 0 ≤ v10 then (BX8_subtract_51 (LX8_subtract_14  n) r9.2 x0 x1 x2 x3 x4 x6 v10 0) else (BX8_subtract_51 (LX8_subtract_14  n) r9.2 x0 x1 x2 x3 x4 x6 v10 1))
noncomputable def fX8_subtract (σ : g_S) (x0 : Nat) (x1 : Int32) (x2 : Int32) (x3 : Int32) : Option (g_S) := (g_fr σ 8 x0 2).bind fun v1 => (g_li σ 0 v1 x1).bind fun v2 => LX8_subtract_14 g_fuel σ x0 x1 x2 x3 v2 0 0
set_option maxHeartbeats 4000000 in
set_option maxRecDepth 100000 in
theorem tBX8_subtract_51 {p : Program} {l : Launch} {e : Env} {s : State} {m : MethodId} {args : Array Value} {below : List Frame} {meth : Method} {c : Code} {D : g_D} {out : g_S} (C : g_C RX8 cX8_subtract 8 none True p s m args meth c) (hK : g_K D s) (k14 : g_S → Nat → Int32 → Int32 → Int32 → Int32 → Int32 → Int32 → Option (g_S)) (hk14 : ∀ (σ : g_S) (x0 : Nat) (x1 : Int32) (x2 : Int32) (x3 : Int32) (x4 : Int32) (x5 : Int32) (x6 : Int32) (H : Heap) (locs : List Loc) (ls : Array Slot), g_H D σ H → va_S (g_A D) s.heap H locs → lv_has ls 8 [(0, .ref x0), (1, .int x1), (2, .int x2), (3, .int x3), (4, .int x4), (5, .int x5), (6, .int x6)] → k14 σ x0 x1 x2 x3 x4 x5 x6 = some out → W p l e rmX8_subtract s m args below meth c H locs 0 0 (MQ below (g_Q D out (none)) args s 0 0 (g_A D)) (F0 m 14 ls [])) : ∀ (σ : g_S) (x0 : Nat) (x1 : Int32) (x2 : Int32) (x3 : Int32) (x4 : Int32) (x6 : Int32) (x7 : Int32) (y0 : Int32) (H : Heap) (locs : List Loc) (ls : Array Slot), g_H D σ H → va_S (g_A D) s.heap H locs → lv_has ls 8 [(0, .ref x0), (1, .int x1), (2, .int x2), (3, .int x3), (4, .int x4), (6, .int x6), (7, .int x7)] → BX8_subtract_51 k14 σ x0 x1 x2 x3 x4 x6 x7 y0 = some out → W p l e rmX8_subtract s m args below meth c H locs 0 0 (MQ below (g_Q D out (none)) args s 0 0 (g_A D)) (F0 m 51 ls [.int y0]) := by
  obtain ⟨hx, hb, hml, hown, hts, hr, hlocks, hin⟩ := id C
  intro σ x0 x1 x2 x3 x4 x6 x7 y0 H locs ls hG hS hl hf
  unfold BX8_subtract_51 at hf
  refine lv_istore (lv' := [(5, .int y0), (0, .ref x0), (1, .int x1), (2, .int x2), (3, .int x3), (4, .int x4), (6, .int x6), (7, .int x7)]) hx hb dX8_subtract_51 hl (by decide) rfl (fun ls hl => ?_)
  refine lv_aload_n hx hb dX8_subtract_53 rfl (lv_at hl 1 rfl) ?_
  refine lv_iload_n hx hb dX8_subtract_54 rfl (lv_at hl 4 rfl) ?_
  refine lv_iload hx hb dX8_subtract_55 (lv_at hl 6 rfl) ?_
  refine lv_iload hx hb dX8_subtract_57 (lv_at hl 7 rfl) ?_
  refine lv_ldc (v := 65536) hx hb hown (hts _ coX8_45) dX8_subtract_59 ?_
  refine lv_iload hx hb dX8_subtract_61 (lv_at hl 0 rfl) ?_
  refine lv_imul hx hb dX8_subtract_63 ?_
  refine lv_iadd hx hb dX8_subtract_64 ?_
  obtain ⟨o12, ho12, hf⟩ := g_bind hf
  obtain ⟨r13, hr13, hf⟩ := g_bind hf
  refine g_callV hx hb hml hl.1 hts hown hK hG hS (As := [.int x3, .int x6, .int (x7 + (65536 * y0))]) (rest := []) (tX8_puts l D hr13) vX8_puts mlX8_34 ho12 rfl rfl rfl rfl ⟨Nat.le_of_ble_eq_true rfl, Nat.le_of_ble_eq_true rfl⟩ rfl rfl (Nat.le_of_ble_eq_true rfl) ⟨Nat.le_of_ble_eq_true rfl, Nat.le_of_ble_eq_true rfl⟩ dX8_subtract_65 (fun H locs hG hS => ?_)
  obtain ⟨v14, ev14, hf⟩ := g_let_spec hf
  refine lv_iinc (v := v14) (lv' := [(6, .int v14), (5, .int y0), (0, .ref x0), (1, .int x1), (2, .int x2), (3, .int x3), (4, .int x4), (7, .int x7)]) hx hb dX8_subtract_68 hl (k := 6) rfl (by rw [← ev14]; rfl) (by decide) rfl (fun ls hl => ?_)
  refine lv_goto (tgt := 14) hx hb dX8_subtract_71 (by decide) ?_
  exact hk14 _ _ _ _ _ _ _ _ _ _ _ hG hS (lv_sub hl [2, 3, 4, 5, 6, 1, 0] rfl) hf

set_option maxHeartbeats 4000000 in
set_option maxRecDepth 100000 in
theorem tLX8_subtract_14 {p : Program} {l : Launch} {e : Env} {s : State} {m : MethodId} {args : Array Value} {below : List Frame} {meth : Method} {c : Code} {D : g_D} {out : g_S} (C : g_C RX8 cX8_subtract 8 none True p s m args meth c) (hK : g_K D s)  : ∀ (n : Nat) (σ : g_S) (x0 : Nat) (x1 : Int32) (x2 : Int32) (x3 : Int32) (x4 : Int32) (x5 : Int32) (x6 : Int32) (H : Heap) (locs : List Loc) (ls : Array Slot), g_H D σ H → va_S (g_A D) s.heap H locs → lv_has ls 8 [(0, .ref x0), (1, .int x1), (2, .int x2), (3, .int x3), (4, .int x4), (5, .int x5), (6, .int x6)] → LX8_subtract_14  n σ x0 x1 x2 x3 x4 x5 x6 = some out → W p l e rmX8_subtract s m args below meth c H locs 0 0 (MQ below (g_Q D out (none)) args s 0 0 (g_A D)) (F0 m 14 ls [])  := by
  obtain ⟨hx, hb, hml, hown, hts, hr, hlocks, hin⟩ := id C
  intro n
  induction n with
  | zero => intro σ x0 x1 x2 x3 x4 x5 x6 H locs ls hG hS hl hf; cases hf
  | succ n ih =>
    intro σ x0 x1 x2 x3 x4 x5 x6 H locs ls hG hS hl hf
    have hf : (if x4 ≤ x6 then ((g_o σ 8 x0).bind fun o4 => (fX8_trim σ x0 x3 x4).bind fun r5 => some r5) else ((g_o σ 8 x0).bind fun o6 => (fX8_at σ x0 x1 x6).bind fun r7 => (g_o r7.2 8 x0).bind fun o8 => (fX8_at r7.2 x0 x2 x6).bind fun r9 => g_let ((r7.1 - r9.1) - x5) fun v10 => if 0 ≤ v10 then (BX8_subtract_51 (LX8_subtract_14  n) r9.2 x0 x1 x2 x3 x4 x6 v10 0) else (BX8_subtract_51 (LX8_subtract_14  n) r9.2 x0 x1 x2 x3 x4 x6 v10 1))) = some out := hf
    have hk14 := ih
    refine lv_iload hx hb dX8_subtract_14 (lv_at hl 6 rfl) ?_
    refine lv_iload hx hb dX8_subtract_16 (lv_at hl 4 rfl) ?_
    refine lv_icmp_ge (tgt := 74) hx hb dX8_subtract_18 (by decide) (fun c3 => ?_) (fun c3 => ?_)
    · rw [if_pos c3] at hf
      refine lv_aload_n hx hb dX8_subtract_74 rfl (lv_at hl 0 rfl) ?_
      refine lv_iload_n hx hb dX8_subtract_75 rfl (lv_at hl 3 rfl) ?_
      refine lv_iload hx hb dX8_subtract_76 (lv_at hl 4 rfl) ?_
      obtain ⟨o4, ho4, hf⟩ := g_bind hf
      obtain ⟨r5, hr5, hf⟩ := g_bind hf
      refine g_callV hx hb hml hl.1 hts hown hK hG hS (As := [.int x3, .int x4]) (rest := []) (tX8_trim l D hr5) vX8_trim mlX8_38 ho4 rfl rfl rfl rfl ⟨Nat.le_of_ble_eq_true rfl, Nat.le_of_ble_eq_true rfl⟩ rfl rfl (Nat.le_of_ble_eq_true rfl) ⟨Nat.le_of_ble_eq_true rfl, Nat.le_of_ble_eq_true rfl⟩ dX8_subtract_78 (fun H locs hG hS => ?_)
      cases hf
      exact g_vret hx hb hr hlocks hG hS dX8_subtract_81
    · rw [if_neg c3] at hf
      refine lv_aload_n hx hb dX8_subtract_21 rfl (lv_at hl 0 rfl) ?_
      refine lv_iload_n hx hb dX8_subtract_22 rfl (lv_at hl 1 rfl) ?_
      refine lv_iload hx hb dX8_subtract_23 (lv_at hl 6 rfl) ?_
      obtain ⟨o6, ho6, hf⟩ := g_bind hf
      obtain ⟨r7, hr7, hf⟩ := g_bind hf
      refine g_callV hx hb hml hl.1 hts hown hK hG hS (As := [.int x1, .int x6]) (rest := []) (tX8_at l D hr7) vX8_at mlX8_41 ho6 rfl rfl rfl rfl ⟨Nat.le_of_ble_eq_true rfl, Nat.le_of_ble_eq_true rfl⟩ rfl rfl (Nat.le_of_ble_eq_true rfl) ⟨Nat.le_of_ble_eq_true rfl, Nat.le_of_ble_eq_true rfl⟩ dX8_subtract_25 (fun H locs hG hS => ?_)
      refine lv_aload_n hx hb dX8_subtract_28 rfl (lv_at hl 0 rfl) ?_
      refine lv_iload_n hx hb dX8_subtract_29 rfl (lv_at hl 2 rfl) ?_
      refine lv_iload hx hb dX8_subtract_30 (lv_at hl 6 rfl) ?_
      obtain ⟨o8, ho8, hf⟩ := g_bind hf
      obtain ⟨r9, hr9, hf⟩ := g_bind hf
      refine g_callV hx hb hml hl.1 hts hown hK hG hS (As := [.int x2, .int x6]) (rest := [.int r7.1]) (tX8_at l D hr9) vX8_at mlX8_41 ho8 rfl rfl rfl rfl ⟨Nat.le_of_ble_eq_true rfl, Nat.le_of_ble_eq_true rfl⟩ rfl rfl (Nat.le_of_ble_eq_true rfl) ⟨Nat.le_of_ble_eq_true rfl, Nat.le_of_ble_eq_true rfl⟩ dX8_subtract_32 (fun H locs hG hS => ?_)
      refine lv_isub hx hb dX8_subtract_35 ?_
      refine lv_iload hx hb dX8_subtract_36 (lv_at hl 5 rfl) ?_
      refine lv_isub hx hb dX8_subtract_38 ?_
      obtain ⟨v10, ev10, hf⟩ := g_let_spec hf
      refine g_topi ev10 ?_
      refine lv_istore (lv' := [(7, .int v10), (0, .ref x0), (1, .int x1), (2, .int x2), (3, .int x3), (4, .int x4), (5, .int x5), (6, .int x6)]) hx hb dX8_subtract_39 hl (by decide) rfl (fun ls hl => ?_)
      refine lv_iload hx hb dX8_subtract_41 (lv_at hl 0 rfl) ?_
      refine lv_if_ge (tgt := 50) hx hb dX8_subtract_43 (by decide) (fun c11 => ?_) (fun c11 => ?_)
      · rw [if_pos c11] at hf
        refine lv_iconst (v := 0) hx hb dX8_subtract_50 (by decide +kernel) ?_
        exact tBX8_subtract_51 C hK (LX8_subtract_14  n) hk14  _ _ _ _ _ _ _ _ _ _ _ _ hG hS (lv_sub hl [1, 2, 3, 4, 5, 7, 0] rfl) hf
      · rw [if_neg c11] at hf
        refine lv_iconst (v := 1) hx hb dX8_subtract_46 (by decide +kernel) ?_
        refine lv_goto (tgt := 51) hx hb dX8_subtract_47 (by decide) ?_
        exact tBX8_subtract_51 C hK (LX8_subtract_14  n) hk14  _ _ _ _ _ _ _ _ _ _ _ _ hG hS (lv_sub hl [1, 2, 3, 4, 5, 7, 0] rfl) hf

set_option maxHeartbeats 4000000 in
set_option maxRecDepth 100000 in
theorem tX8_subtract (l : Launch) (D : g_D) {σ : g_S} {x0 : Nat} {x1 : Int32} {x2 : Int32} {x3 : Int32} {out : g_S} (hf : fX8_subtract σ x0 x1 x2 x3 = some out) : Met l yX8_subtract (Cond.code yX8_subtract cX8_subtract 8 none :: lw_g) rmX8_subtract (g_P D σ [.ref x0, .int x1, .int x2, .int x3]) (g_Q D out (none)) 0 0 (g_A D) := by
  refine Met.ofW (cc := cX8_subtract) (maxL := 8) (ret := none) (by decide +kernel) rfl ?_
  intro p e s m args below meth c s₁ B hml hv
  obtain ⟨rfl, hG, hK⟩ := hv
  have hts : ∀ w ∈ lw_g, w.before _ s = true := fun w h => atoms_spec (ws := (Cond.code yX8_subtract cX8_subtract 8 none :: lw_g)) B.pre w (List.mem_cons_of_mem _ h)
  have C : g_C RX8 cX8_subtract 8 none True p s m _ meth c := ⟨B.exec, B.bytes, hml, findClass_of_methodNamed B.named, hts, B.returns, B.notSynchronized, trivial⟩
  obtain ⟨hx, hb, hml, hown, hts, hr, hlocks, hin⟩ := id C
  have hS : va_S (g_A D) s.heap s.heap [] := va_S.rf
  have hl := lv_entry ([.ref x0, .int x1, .int x2, .int x3]) (n := 8) (Nat.le_of_ble_eq_true rfl)
  rw [lg_entry_eq]
  generalize (lg_sl ([.ref x0, .int x1, .int x2, .int x3]) ++ List.replicate (8 - (lg_sl ([.ref x0, .int x1, .int x2, .int x3])).length) Slot.unset).toArray = ls at hl ⊢
  have hl : lv_has ls 8 [(0, .ref x0), (1, .int x1), (2, .int x2), (3, .int x3)] := hl
  unfold fX8_subtract at hf
  refine lv_aload_n hx hb dX8_subtract_0 rfl (lv_at hl 0 rfl) ?_
  obtain ⟨v1, hv1, hf⟩ := g_bind hf
  refine g_getr hx hb hts hown hK hG hv1 rfl iX8 (by decide) flX8_13 dX8_subtract_1 ?_
  refine lv_iload_n hx hb dX8_subtract_4 rfl (lv_at hl 1 rfl) ?_
  obtain ⟨v2, hv2, hf⟩ := g_bind hf
  refine g_iald hx hb hK hG hv2 rfl dX8_subtract_5 ?_
  refine lv_istore (lv' := [(4, .int v2), (0, .ref x0), (1, .int x1), (2, .int x2), (3, .int x3)]) hx hb dX8_subtract_6 hl (by decide) rfl (fun ls hl => ?_)
  refine lv_iconst (v := 0) hx hb dX8_subtract_8 (by decide +kernel) ?_
  refine lv_istore (lv' := [(5, .int 0), (4, .int v2), (0, .ref x0), (1, .int x1), (2, .int x2), (3, .int x3)]) hx hb dX8_subtract_9 hl (by decide) rfl (fun ls hl => ?_)
  refine lv_iconst (v := 0) hx hb dX8_subtract_11 (by decide +kernel) ?_
  refine lv_istore (lv' := [(6, .int 0), (5, .int 0), (4, .int v2), (0, .ref x0), (1, .int x1), (2, .int x2), (3, .int x3)]) hx hb dX8_subtract_12 hl (by decide) rfl (fun ls hl => ?_)
  exact tLX8_subtract_14 C hK  g_fuel _ _ _ _ _ _ _ _ _ _ _ hG hS (lv_sub hl [3, 4, 5, 6, 2, 1, 0] rfl) hf

def rmX8_times : Room := { frames := 1, cells := 0, slots := 0, locals := 23 }
noncomputable def BX8_times_149 (k69 : g_S → Nat → Int32 → Int32 → Int32 → Int32 → Int32 → Int64 → Int64 → Int32 → Option (g_S)) (σ : g_S) (x0 : Nat) (x1 : Int32) (x2 : Int32) (x3 : Int32) (x4 : Int32) (x5 : Int32) (x6 : Int64) (x8 : Int64) (x10 : Int32) : Option (g_S) := g_let (x10 + 1) fun v20 => k69 σ x0 x1 x2 x3 x4 x5 x6 x8 v20
noncomputable def LX8_times_69 (k42 : g_S → Nat → Int32 → Int32 → Int32 → Int32 → Int32 → Option (g_S)) : Nat → g_S → Nat → Int32 → Int32 → Int32 → Int32 → Int32 → Int64 → Int64 → Int32 → Option (g_S)
  | 0, _, _, _, _, _, _, _, _, _, _ => none
  | n + 1, σ, x0, x1, x2, x3, x4, x5, x6, x8, x10 => (g_fr σ 8 x0 2).bind fun v15 => (g_li σ 0 v15 x2).bind fun v16 => if v16 < x10 then (g_let (x5 + 1) fun v18 => k42 σ x0 x1 x2 x3 x4 v18) else (if x4 ≤ (x5 + x10) then (BX8_times_149 (LX8_times_69 k42 n) σ x0 x1 x2 x3 x4 x5 x6 x8 x10) else ((g_fr σ 8 x0 1).bind fun v21 => (g_li σ 0 v21 (((264 * x3) + x5) + x10)).bind fun v22 => (g_o σ 8 x0).bind fun o23 => (fX8_at σ x0 x2 x10).bind fun r24 => g_let ((v22.toInt64 + (x8 * r24.1.toInt64)) + x6) fun v25 => (g_o r24.2 8 x0).bind fun o26 => (fX8_puts r24.2 x0 x3 (x5 + x10) ((g_lrem v25 65536).toInt32)).bind fun r27 => g_let (v25 / 65536) fun v28 => BX8_times_149 (LX8_times_69 k42 n) r27 x0 x1 x2 x3 x4 x5 v28 x8 x10))
noncomputable def LX8_times_42  : Nat → g_S → Nat → Int32 → Int32 → Int32 → Int32 → Int32 → Option (g_S)
  | 0, _, _, _, _, _, _, _ => none
  | n + 1, σ, x0, x1, x2, x3, x4, x5 => (g_fr σ 8 x0 2).bind fun v7 => (g_li σ 0 v7 x1).bind fun v8 => if v8 ≤ x5 then ((g_o σ 8 x0).bind fun o10 => (fX8_trim σ x0 x3 x4).bind fun r11 => some r11) else ((g_o σ 8 x0).bind fun o12 => (fX8_at σ x0 x1 x5).bind fun r13 => g_let r13.1.toInt64 fun v14 => LX8_times_69 (LX8_times_42  n) g_fuel r13.2 x0 x1 x2 x3 x4 x5 0 v14 0)
noncomputable def LX8_times_18  : Nat → g_S → Nat → Int32 → Int32 → Int32 → Int32 → Int32 → Option (g_S)
  | 0, _, _, _, _, _, _, _ => none
  | n + 1, σ, x0, x1, x2, x3, x4, x5 => if x4 ≤ x5 then (LX8_times_42 g_fuel σ x0 x1 x2 x3 x4 0) else ((g_o σ 8 x0).bind fun o29 => (fX8_puts σ x0 x3 x5 0).bind fun r30 => g_let (x5 + 1) fun v31 => (LX8_times_18  n) r30 x0 x1 x2 x3 x4 v31)
noncomputable def fX8_times (σ : g_S) (x0 : Nat) (x1 : Int32) (x2 : Int32) (x3 : Int32) : Option (g_S) := (g_fr σ 8 x0 2).bind fun v1 => (g_li σ 0 v1 x1).bind fun v2 => (g_fr σ 8 x0 2).bind fun v3 => (g_li σ 0 v3 x2).bind fun v4 => g_let (v2 + v4) fun v5 => LX8_times_18 g_fuel σ x0 x1 x2 x3 v5 0
set_option maxHeartbeats 4000000 in
set_option maxRecDepth 100000 in
theorem tBX8_times_149 {p : Program} {l : Launch} {e : Env} {s : State} {m : MethodId} {args : Array Value} {below : List Frame} {meth : Method} {c : Code} {D : g_D} {out : g_S} (C : g_C RX8 cX8_times 13 none True p s m args meth c) (hK : g_K D s) (k69 : g_S → Nat → Int32 → Int32 → Int32 → Int32 → Int32 → Int64 → Int64 → Int32 → Option (g_S)) (hk69 : ∀ (σ : g_S) (x0 : Nat) (x1 : Int32) (x2 : Int32) (x3 : Int32) (x4 : Int32) (x5 : Int32) (x6 : Int64) (x8 : Int64) (x10 : Int32) (H : Heap) (locs : List Loc) (ls : Array Slot), g_H D σ H → va_S (g_A D) s.heap H locs → lv_has ls 13 [(0, .ref x0), (1, .int x1), (2, .int x2), (3, .int x3), (4, .int x4), (5, .int x5), (6, .long x6), (8, .long x8), (10, .int x10)] → k69 σ x0 x1 x2 x3 x4 x5 x6 x8 x10 = some out → W p l e rmX8_times s m args below meth c H locs 0 0 (MQ below (g_Q D out (none)) args s 0 0 (g_A D)) (F0 m 69 ls [])) : ∀ (σ : g_S) (x0 : Nat) (x1 : Int32) (x2 : Int32) (x3 : Int32) (x4 : Int32) (x5 : Int32) (x6 : Int64) (x8 : Int64) (x10 : Int32) (H : Heap) (locs : List Loc) (ls : Array Slot), g_H D σ H → va_S (g_A D) s.heap H locs → lv_has ls 13 [(0, .ref x0), (1, .int x1), (2, .int x2), (3, .int x3), (4, .int x4), (5, .int x5), (6, .long x6), (8, .long x8), (10, .int x10)] → BX8_times_149 k69 σ x0 x1 x2 x3 x4 x5 x6 x8 x10 = some out → W p l e rmX8_times s m args below meth c H locs 0 0 (MQ below (g_Q D out (none)) args s 0 0 (g_A D)) (F0 m 149 ls []) := by
  obtain ⟨hx, hb, hml, hown, hts, hr, hlocks, hin⟩ := id C
  intro σ x0 x1 x2 x3 x4 x5 x6 x8 x10 H locs ls hG hS hl hf
  unfold BX8_times_149 at hf
  obtain ⟨v20, ev20, hf⟩ := g_let_spec hf
  refine lv_iinc (v := v20) (lv' := [(10, .int v20), (0, .ref x0), (1, .int x1), (2, .int x2), (3, .int x3), (4, .int x4), (5, .int x5), (6, .long x6), (8, .long x8)]) hx hb dX8_times_149 hl (k := 8) rfl (by rw [← ev20]; rfl) (by decide) rfl (fun ls hl => ?_)
  refine lv_goto (tgt := 69) hx hb dX8_times_152 (by decide) ?_
  exact hk69 _ _ _ _ _ _ _ _ _ _ _ _ _ hG hS (lv_sub hl [1, 2, 3, 4, 5, 6, 7, 8, 0] rfl) hf

set_option maxHeartbeats 4000000 in
set_option maxRecDepth 100000 in
theorem tLX8_times_69 {p : Program} {l : Launch} {e : Env} {s : State} {m : MethodId} {args : Array Value} {below : List Frame} {meth : Method} {c : Code} {D : g_D} {out : g_S} (C : g_C RX8 cX8_times 13 none True p s m args meth c) (hK : g_K D s) (k42 : g_S → Nat → Int32 → Int32 → Int32 → Int32 → Int32 → Option (g_S)) (hk42 : ∀ (σ : g_S) (x0 : Nat) (x1 : Int32) (x2 : Int32) (x3 : Int32) (x4 : Int32) (x5 : Int32) (H : Heap) (locs : List Loc) (ls : Array Slot), g_H D σ H → va_S (g_A D) s.heap H locs → lv_has ls 13 [(0, .ref x0), (1, .int x1), (2, .int x2), (3, .int x3), (4, .int x4), (5, .int x5)] → k42 σ x0 x1 x2 x3 x4 x5 = some out → W p l e rmX8_times s m args below meth c H locs 0 0 (MQ below (g_Q D out (none)) args s 0 0 (g_A D)) (F0 m 42 ls [])) : ∀ (n : Nat) (σ : g_S) (x0 : Nat) (x1 : Int32) (x2 : Int32) (x3 : Int32) (x4 : Int32) (x5 : Int32) (x6 : Int64) (x8 : Int64) (x10 : Int32) (H : Heap) (locs : List Loc) (ls : Array Slot), g_H D σ H → va_S (g_A D) s.heap H locs → lv_has ls 13 [(0, .ref x0), (1, .int x1), (2, .int x2), (3, .int x3), (4, .int x4), (5, .int x5), (6, .long x6), (8, .long x8), (10, .int x10)] → LX8_times_69 k42 n σ x0 x1 x2 x3 x4 x5 x6 x8 x10 = some out → W p l e rmX8_times s m args below meth c H locs 0 0 (MQ below (g_Q D out (none)) args s 0 0 (g_A D)) (F0 m 69 ls [])  := by
  obtain ⟨hx, hb, hml, hown, hts, hr, hlocks, hin⟩ := id C
  intro n
  induction n with
  | zero => intro σ x0 x1 x2 x3 x4 x5 x6 x8 x10 H locs ls hG hS hl hf; cases hf
  | succ n ih =>
    intro σ x0 x1 x2 x3 x4 x5 x6 x8 x10 H locs ls hG hS hl hf
    have hf : ((g_fr σ 8 x0 2).bind fun v15 => (g_li σ 0 v15 x2).bind fun v16 => if v16 < x10 then (g_let (x5 + 1) fun v18 => k42 σ x0 x1 x2 x3 x4 v18) else (if x4 ≤ (x5 + x10) then (BX8_times_149 (LX8_times_69 k42 n) σ x0 x1 x2 x3 x4 x5 x6 x8 x10) else ((g_fr σ 8 x0 1).bind fun v21 => (g_li σ 0 v21 (((264 * x3) + x5) + x10)).bind fun v22 => (g_o σ 8 x0).bind fun o23 => (fX8_at σ x0 x2 x10).bind fun r24 => g_let ((v22.toInt64 + (x8 * r24.1.toInt64)) + x6) fun v25 => (g_o r24.2 8 x0).bind fun o26 => (fX8_puts r24.2 x0 x3 (x5 + x10) ((g_lrem v25 65536).toInt32)).bind fun r27 => g_let (v25 / 65536) fun v28 => BX8_times_149 (LX8_times_69 k42 n) r27 x0 x1 x2 x3 x4 x5 v28 x8 x10))) = some out := hf
    have hk69 := ih
    refine lv_iload hx hb dX8_times_69 (lv_at hl 8 rfl) ?_
    refine lv_aload_n hx hb dX8_times_71 rfl (lv_at hl 0 rfl) ?_
    obtain ⟨v15, hv15, hf⟩ := g_bind hf
    refine g_getr hx hb hts hown hK hG hv15 rfl iX8 (by decide) flX8_13 dX8_times_72 ?_
    refine lv_iload_n hx hb dX8_times_75 rfl (lv_at hl 2 rfl) ?_
    obtain ⟨v16, hv16, hf⟩ := g_bind hf
    refine g_iald hx hb hK hG hv16 rfl dX8_times_76 ?_
    refine lv_icmp_gt (tgt := 155) hx hb dX8_times_77 (by decide) (fun c17 => ?_) (fun c17 => ?_)
    · rw [if_pos c17] at hf
      obtain ⟨v18, ev18, hf⟩ := g_let_spec hf
      refine lv_iinc (v := v18) (lv' := [(5, .int v18), (0, .ref x0), (1, .int x1), (2, .int x2), (3, .int x3), (4, .int x4), (6, .long x6), (8, .long x8), (10, .int x10)]) hx hb dX8_times_155 hl (k := 5) rfl (by rw [← ev18]; rfl) (by decide) rfl (fun ls hl => ?_)
      refine lv_goto (tgt := 42) hx hb dX8_times_158 (by decide) ?_
      exact hk42 _ _ _ _ _ _ _ _ _ _ hG hS (lv_sub hl [1, 2, 3, 4, 5, 0] rfl) hf
    · rw [if_neg c17] at hf
      refine lv_iload hx hb dX8_times_80 (lv_at hl 5 rfl) ?_
      refine lv_iload hx hb dX8_times_82 (lv_at hl 8 rfl) ?_
      refine lv_iadd hx hb dX8_times_84 ?_
      refine lv_iload hx hb dX8_times_85 (lv_at hl 4 rfl) ?_
      refine lv_icmp_ge (tgt := 149) hx hb dX8_times_87 (by decide) (fun c19 => ?_) (fun c19 => ?_)
      · rw [if_pos c19] at hf
        exact tBX8_times_149 C hK (LX8_times_69 k42 n) hk69  _ _ _ _ _ _ _ _ _ _ _ _ _ hG hS (lv_sub hl [0, 1, 2, 3, 4, 5, 6, 7, 8] rfl) hf
      · rw [if_neg c19] at hf
        refine lv_aload_n hx hb dX8_times_90 rfl (lv_at hl 0 rfl) ?_
        obtain ⟨v21, hv21, hf⟩ := g_bind hf
        refine g_getr hx hb hts hown hK hG hv21 rfl iX8 (by decide) flX8_7 dX8_times_91 ?_
        refine lv_sipush (v := 264) hx hb dX8_times_94 (by decide +kernel) ?_
        refine lv_iload_n hx hb dX8_times_97 rfl (lv_at hl 3 rfl) ?_
        refine lv_imul hx hb dX8_times_98 ?_
        refine lv_iload hx hb dX8_times_99 (lv_at hl 5 rfl) ?_
        refine lv_iadd hx hb dX8_times_101 ?_
        refine lv_iload hx hb dX8_times_102 (lv_at hl 8 rfl) ?_
        refine lv_iadd hx hb dX8_times_104 ?_
        obtain ⟨v22, hv22, hf⟩ := g_bind hf
        refine g_iald hx hb hK hG hv22 rfl dX8_times_105 ?_
        refine lv_i2l (v := v22.toInt64) hx hb dX8_times_106 rfl ?_
        refine lv_lload hx hb dX8_times_107 (lv_at hl 7 rfl) ?_
        refine lv_aload_n hx hb dX8_times_109 rfl (lv_at hl 0 rfl) ?_
        refine lv_iload_n hx hb dX8_times_110 rfl (lv_at hl 2 rfl) ?_
        refine lv_iload hx hb dX8_times_111 (lv_at hl 8 rfl) ?_
        obtain ⟨o23, ho23, hf⟩ := g_bind hf
        obtain ⟨r24, hr24, hf⟩ := g_bind hf
        refine g_callV hx hb hml hl.1 hts hown hK hG hS (As := [.int x2, .int x10]) (rest := [.long x8, .long v22.toInt64]) (tX8_at l D hr24) vX8_at mlX8_41 ho23 rfl rfl rfl rfl ⟨Nat.le_of_ble_eq_true rfl, Nat.le_of_ble_eq_true rfl⟩ rfl rfl (Nat.le_of_ble_eq_true rfl) ⟨Nat.le_of_ble_eq_true rfl, Nat.le_of_ble_eq_true rfl⟩ dX8_times_113 (fun H locs hG hS => ?_)
        refine lv_i2l (v := r24.1.toInt64) hx hb dX8_times_116 rfl ?_
        refine lv_lmul hx hb dX8_times_117 ?_
        refine lv_ladd hx hb dX8_times_118 ?_
        refine lv_lload hx hb dX8_times_119 (lv_at hl 6 rfl) ?_
        refine lv_ladd hx hb dX8_times_121 ?_
        obtain ⟨v25, ev25, hf⟩ := g_let_spec hf
        refine g_topl ev25 ?_
        refine lv_lstore (lv' := [(11, .long v25), (0, .ref x0), (1, .int x1), (2, .int x2), (3, .int x3), (4, .int x4), (5, .int x5), (6, .long x6), (8, .long x8), (10, .int x10)]) hx hb dX8_times_122 hl (by decide) rfl (fun ls hl => ?_)
        refine lv_aload_n hx hb dX8_times_124 rfl (lv_at hl 1 rfl) ?_
        refine lv_iload_n hx hb dX8_times_125 rfl (lv_at hl 4 rfl) ?_
        refine lv_iload hx hb dX8_times_126 (lv_at hl 6 rfl) ?_
        refine lv_iload hx hb dX8_times_128 (lv_at hl 9 rfl) ?_
        refine lv_iadd hx hb dX8_times_130 ?_
        refine lv_lload hx hb dX8_times_131 (lv_at hl 0 rfl) ?_
        refine lv_ldc2 (v := 65536) hx hb hown (hts _ coX8_46) dX8_times_133 ?_
        refine lv_lrem hx hb dX8_times_136 (by decide) ?_
        refine g_topl (y := g_lrem v25 65536) rfl ?_
        refine lv_l2i (v := (g_lrem v25 65536).toInt32) hx hb dX8_times_137 rfl ?_
        obtain ⟨o26, ho26, hf⟩ := g_bind hf
        obtain ⟨r27, hr27, hf⟩ := g_bind hf
        refine g_callV hx hb hml hl.1 hts hown hK hG hS (As := [.int x3, .int (x5 + x10), .int ((g_lrem v25 65536).toInt32)]) (rest := []) (tX8_puts l D hr27) vX8_puts mlX8_34 ho26 rfl rfl rfl rfl ⟨Nat.le_of_ble_eq_true rfl, Nat.le_of_ble_eq_true rfl⟩ rfl rfl (Nat.le_of_ble_eq_true rfl) ⟨Nat.le_of_ble_eq_true rfl, Nat.le_of_ble_eq_true rfl⟩ dX8_times_138 (fun H locs hG hS => ?_)
        refine lv_lload hx hb dX8_times_141 (lv_at hl 0 rfl) ?_
        refine lv_ldc2 (v := 65536) hx hb hown (hts _ coX8_46) dX8_times_143 ?_
        refine lv_ldiv hx hb dX8_times_146 (by decide) ?_
        obtain ⟨v28, ev28, hf⟩ := g_let_spec hf
        refine g_topl ev28 ?_
        refine lv_lstore (lv' := [(6, .long v28), (11, .long v25), (0, .ref x0), (1, .int x1), (2, .int x2), (3, .int x3), (4, .int x4), (5, .int x5), (8, .long x8), (10, .int x10)]) hx hb dX8_times_147 hl (by decide) rfl (fun ls hl => ?_)
        exact tBX8_times_149 C hK (LX8_times_69 k42 n) hk69  _ _ _ _ _ _ _ _ _ _ _ _ _ hG hS (lv_sub hl [2, 3, 4, 5, 6, 7, 0, 8, 9] rfl) hf

set_option maxHeartbeats 4000000 in
set_option maxRecDepth 100000 in
theorem tLX8_times_42 {p : Program} {l : Launch} {e : Env} {s : State} {m : MethodId} {args : Array Value} {below : List Frame} {meth : Method} {c : Code} {D : g_D} {out : g_S} (C : g_C RX8 cX8_times 13 none True p s m args meth c) (hK : g_K D s)  : ∀ (n : Nat) (σ : g_S) (x0 : Nat) (x1 : Int32) (x2 : Int32) (x3 : Int32) (x4 : Int32) (x5 : Int32) (H : Heap) (locs : List Loc) (ls : Array Slot), g_H D σ H → va_S (g_A D) s.heap H locs → lv_has ls 13 [(0, .ref x0), (1, .int x1), (2, .int x2), (3, .int x3), (4, .int x4), (5, .int x5)] → LX8_times_42  n σ x0 x1 x2 x3 x4 x5 = some out → W p l e rmX8_times s m args below meth c H locs 0 0 (MQ below (g_Q D out (none)) args s 0 0 (g_A D)) (F0 m 42 ls [])  := by
  obtain ⟨hx, hb, hml, hown, hts, hr, hlocks, hin⟩ := id C
  intro n
  induction n with
  | zero => intro σ x0 x1 x2 x3 x4 x5 H locs ls hG hS hl hf; cases hf
  | succ n ih =>
    intro σ x0 x1 x2 x3 x4 x5 H locs ls hG hS hl hf
    have hf : ((g_fr σ 8 x0 2).bind fun v7 => (g_li σ 0 v7 x1).bind fun v8 => if v8 ≤ x5 then ((g_o σ 8 x0).bind fun o10 => (fX8_trim σ x0 x3 x4).bind fun r11 => some r11) else ((g_o σ 8 x0).bind fun o12 => (fX8_at σ x0 x1 x5).bind fun r13 => g_let r13.1.toInt64 fun v14 => LX8_times_69 (LX8_times_42  n) g_fuel r13.2 x0 x1 x2 x3 x4 x5 0 v14 0)) = some out := hf
    have hk42 := ih
    refine lv_iload hx hb dX8_times_42 (lv_at hl 5 rfl) ?_
    refine lv_aload_n hx hb dX8_times_44 rfl (lv_at hl 0 rfl) ?_
    obtain ⟨v7, hv7, hf⟩ := g_bind hf
    refine g_getr hx hb hts hown hK hG hv7 rfl iX8 (by decide) flX8_13 dX8_times_45 ?_
    refine lv_iload_n hx hb dX8_times_48 rfl (lv_at hl 1 rfl) ?_
    obtain ⟨v8, hv8, hf⟩ := g_bind hf
    refine g_iald hx hb hK hG hv8 rfl dX8_times_49 ?_
    refine lv_icmp_ge (tgt := 161) hx hb dX8_times_50 (by decide) (fun c9 => ?_) (fun c9 => ?_)
    · rw [if_pos c9] at hf
      refine lv_aload_n hx hb dX8_times_161 rfl (lv_at hl 0 rfl) ?_
      refine lv_iload_n hx hb dX8_times_162 rfl (lv_at hl 3 rfl) ?_
      refine lv_iload hx hb dX8_times_163 (lv_at hl 4 rfl) ?_
      obtain ⟨o10, ho10, hf⟩ := g_bind hf
      obtain ⟨r11, hr11, hf⟩ := g_bind hf
      refine g_callV hx hb hml hl.1 hts hown hK hG hS (As := [.int x3, .int x4]) (rest := []) (tX8_trim l D hr11) vX8_trim mlX8_38 ho10 rfl rfl rfl rfl ⟨Nat.le_of_ble_eq_true rfl, Nat.le_of_ble_eq_true rfl⟩ rfl rfl (Nat.le_of_ble_eq_true rfl) ⟨Nat.le_of_ble_eq_true rfl, Nat.le_of_ble_eq_true rfl⟩ dX8_times_165 (fun H locs hG hS => ?_)
      cases hf
      exact g_vret hx hb hr hlocks hG hS dX8_times_168
    · rw [if_neg c9] at hf
      refine lv_lconst (v := 0) hx hb dX8_times_53 (by decide +kernel) ?_
      refine lv_lstore (lv' := [(6, .long 0), (0, .ref x0), (1, .int x1), (2, .int x2), (3, .int x3), (4, .int x4), (5, .int x5)]) hx hb dX8_times_54 hl (by decide) rfl (fun ls hl => ?_)
      refine lv_aload_n hx hb dX8_times_56 rfl (lv_at hl 1 rfl) ?_
      refine lv_iload_n hx hb dX8_times_57 rfl (lv_at hl 2 rfl) ?_
      refine lv_iload hx hb dX8_times_58 (lv_at hl 6 rfl) ?_
      obtain ⟨o12, ho12, hf⟩ := g_bind hf
      obtain ⟨r13, hr13, hf⟩ := g_bind hf
      refine g_callV hx hb hml hl.1 hts hown hK hG hS (As := [.int x1, .int x5]) (rest := []) (tX8_at l D hr13) vX8_at mlX8_41 ho12 rfl rfl rfl rfl ⟨Nat.le_of_ble_eq_true rfl, Nat.le_of_ble_eq_true rfl⟩ rfl rfl (Nat.le_of_ble_eq_true rfl) ⟨Nat.le_of_ble_eq_true rfl, Nat.le_of_ble_eq_true rfl⟩ dX8_times_60 (fun H locs hG hS => ?_)
      refine lv_i2l (v := r13.1.toInt64) hx hb dX8_times_63 rfl ?_
      obtain ⟨v14, ev14, hf⟩ := g_let_spec hf
      refine g_topl ev14 ?_
      refine lv_lstore (lv' := [(8, .long v14), (6, .long 0), (0, .ref x0), (1, .int x1), (2, .int x2), (3, .int x3), (4, .int x4), (5, .int x5)]) hx hb dX8_times_64 hl (by decide) rfl (fun ls hl => ?_)
      refine lv_iconst (v := 0) hx hb dX8_times_66 (by decide +kernel) ?_
      refine lv_istore (lv' := [(10, .int 0), (8, .long v14), (6, .long 0), (0, .ref x0), (1, .int x1), (2, .int x2), (3, .int x3), (4, .int x4), (5, .int x5)]) hx hb dX8_times_67 hl (by decide) rfl (fun ls hl => ?_)
      exact tLX8_times_69 C hK (LX8_times_42  n) hk42 g_fuel _ _ _ _ _ _ _ _ _ _ _ _ _ hG hS (lv_sub hl [3, 4, 5, 6, 7, 8, 2, 1, 0] rfl) hf

set_option maxHeartbeats 4000000 in
set_option maxRecDepth 100000 in
theorem tLX8_times_18 {p : Program} {l : Launch} {e : Env} {s : State} {m : MethodId} {args : Array Value} {below : List Frame} {meth : Method} {c : Code} {D : g_D} {out : g_S} (C : g_C RX8 cX8_times 13 none True p s m args meth c) (hK : g_K D s)  : ∀ (n : Nat) (σ : g_S) (x0 : Nat) (x1 : Int32) (x2 : Int32) (x3 : Int32) (x4 : Int32) (x5 : Int32) (H : Heap) (locs : List Loc) (ls : Array Slot), g_H D σ H → va_S (g_A D) s.heap H locs → lv_has ls 13 [(0, .ref x0), (1, .int x1), (2, .int x2), (3, .int x3), (4, .int x4), (5, .int x5)] → LX8_times_18  n σ x0 x1 x2 x3 x4 x5 = some out → W p l e rmX8_times s m args below meth c H locs 0 0 (MQ below (g_Q D out (none)) args s 0 0 (g_A D)) (F0 m 18 ls [])  := by
  obtain ⟨hx, hb, hml, hown, hts, hr, hlocks, hin⟩ := id C
  intro n
  induction n with
  | zero => intro σ x0 x1 x2 x3 x4 x5 H locs ls hG hS hl hf; cases hf
  | succ n ih =>
    intro σ x0 x1 x2 x3 x4 x5 H locs ls hG hS hl hf
    have hf : (if x4 ≤ x5 then (LX8_times_42 g_fuel σ x0 x1 x2 x3 x4 0) else ((g_o σ 8 x0).bind fun o29 => (fX8_puts σ x0 x3 x5 0).bind fun r30 => g_let (x5 + 1) fun v31 => (LX8_times_18  n) r30 x0 x1 x2 x3 x4 v31)) = some out := hf
    have hk18 := ih
    refine lv_iload hx hb dX8_times_18 (lv_at hl 5 rfl) ?_
    refine lv_iload hx hb dX8_times_20 (lv_at hl 4 rfl) ?_
    refine lv_icmp_ge (tgt := 39) hx hb dX8_times_22 (by decide) (fun c6 => ?_) (fun c6 => ?_)
    · rw [if_pos c6] at hf
      refine lv_iconst (v := 0) hx hb dX8_times_39 (by decide +kernel) ?_
      refine lv_istore (lv' := [(5, .int 0), (0, .ref x0), (1, .int x1), (2, .int x2), (3, .int x3), (4, .int x4)]) hx hb dX8_times_40 hl (by decide) rfl (fun ls hl => ?_)
      exact tLX8_times_42 C hK  g_fuel _ _ _ _ _ _ _ _ _ _ hG hS (lv_sub hl [1, 2, 3, 4, 5, 0] rfl) hf
    · rw [if_neg c6] at hf
      refine lv_aload_n hx hb dX8_times_25 rfl (lv_at hl 0 rfl) ?_
      refine lv_iload_n hx hb dX8_times_26 rfl (lv_at hl 3 rfl) ?_
      refine lv_iload hx hb dX8_times_27 (lv_at hl 5 rfl) ?_
      refine lv_iconst (v := 0) hx hb dX8_times_29 (by decide +kernel) ?_
      obtain ⟨o29, ho29, hf⟩ := g_bind hf
      obtain ⟨r30, hr30, hf⟩ := g_bind hf
      refine g_callV hx hb hml hl.1 hts hown hK hG hS (As := [.int x3, .int x5, .int 0]) (rest := []) (tX8_puts l D hr30) vX8_puts mlX8_34 ho29 rfl rfl rfl rfl ⟨Nat.le_of_ble_eq_true rfl, Nat.le_of_ble_eq_true rfl⟩ rfl rfl (Nat.le_of_ble_eq_true rfl) ⟨Nat.le_of_ble_eq_true rfl, Nat.le_of_ble_eq_true rfl⟩ dX8_times_30 (fun H locs hG hS => ?_)
      obtain ⟨v31, ev31, hf⟩ := g_let_spec hf
      refine lv_iinc (v := v31) (lv' := [(5, .int v31), (0, .ref x0), (1, .int x1), (2, .int x2), (3, .int x3), (4, .int x4)]) hx hb dX8_times_33 hl (k := 5) rfl (by rw [← ev31]; rfl) (by decide) rfl (fun ls hl => ?_)
      refine lv_goto (tgt := 18) hx hb dX8_times_36 (by decide) ?_
      exact hk18 _ _ _ _ _ _ _ _ _ _ hG hS (lv_sub hl [1, 2, 3, 4, 5, 0] rfl) hf

set_option maxHeartbeats 4000000 in
set_option maxRecDepth 100000 in
theorem tX8_times (l : Launch) (D : g_D) {σ : g_S} {x0 : Nat} {x1 : Int32} {x2 : Int32} {x3 : Int32} {out : g_S} (hf : fX8_times σ x0 x1 x2 x3 = some out) : Met l yX8_times (Cond.code yX8_times cX8_times 13 none :: lw_g) rmX8_times (g_P D σ [.ref x0, .int x1, .int x2, .int x3]) (g_Q D out (none)) 0 0 (g_A D) := by
  refine Met.ofW (cc := cX8_times) (maxL := 13) (ret := none) (by decide +kernel) rfl ?_
  intro p e s m args below meth c s₁ B hml hv
  obtain ⟨rfl, hG, hK⟩ := hv
  have hts : ∀ w ∈ lw_g, w.before _ s = true := fun w h => atoms_spec (ws := (Cond.code yX8_times cX8_times 13 none :: lw_g)) B.pre w (List.mem_cons_of_mem _ h)
  have C : g_C RX8 cX8_times 13 none True p s m _ meth c := ⟨B.exec, B.bytes, hml, findClass_of_methodNamed B.named, hts, B.returns, B.notSynchronized, trivial⟩
  obtain ⟨hx, hb, hml, hown, hts, hr, hlocks, hin⟩ := id C
  have hS : va_S (g_A D) s.heap s.heap [] := va_S.rf
  have hl := lv_entry ([.ref x0, .int x1, .int x2, .int x3]) (n := 13) (Nat.le_of_ble_eq_true rfl)
  rw [lg_entry_eq]
  generalize (lg_sl ([.ref x0, .int x1, .int x2, .int x3]) ++ List.replicate (13 - (lg_sl ([.ref x0, .int x1, .int x2, .int x3])).length) Slot.unset).toArray = ls at hl ⊢
  have hl : lv_has ls 13 [(0, .ref x0), (1, .int x1), (2, .int x2), (3, .int x3)] := hl
  unfold fX8_times at hf
  refine lv_aload_n hx hb dX8_times_0 rfl (lv_at hl 0 rfl) ?_
  obtain ⟨v1, hv1, hf⟩ := g_bind hf
  refine g_getr hx hb hts hown hK hG hv1 rfl iX8 (by decide) flX8_13 dX8_times_1 ?_
  refine lv_iload_n hx hb dX8_times_4 rfl (lv_at hl 1 rfl) ?_
  obtain ⟨v2, hv2, hf⟩ := g_bind hf
  refine g_iald hx hb hK hG hv2 rfl dX8_times_5 ?_
  refine lv_aload_n hx hb dX8_times_6 rfl (lv_at hl 0 rfl) ?_
  obtain ⟨v3, hv3, hf⟩ := g_bind hf
  refine g_getr hx hb hts hown hK hG hv3 rfl iX8 (by decide) flX8_13 dX8_times_7 ?_
  refine lv_iload_n hx hb dX8_times_10 rfl (lv_at hl 2 rfl) ?_
  obtain ⟨v4, hv4, hf⟩ := g_bind hf
  refine g_iald hx hb hK hG hv4 rfl dX8_times_11 ?_
  refine lv_iadd hx hb dX8_times_12 ?_
  obtain ⟨v5, ev5, hf⟩ := g_let_spec hf
  refine g_topi ev5 ?_
  refine lv_istore (lv' := [(4, .int v5), (0, .ref x0), (1, .int x1), (2, .int x2), (3, .int x3)]) hx hb dX8_times_13 hl (by decide) rfl (fun ls hl => ?_)
  refine lv_iconst (v := 0) hx hb dX8_times_15 (by decide +kernel) ?_
  refine lv_istore (lv' := [(5, .int 0), (4, .int v5), (0, .ref x0), (1, .int x1), (2, .int x2), (3, .int x3)]) hx hb dX8_times_16 hl (by decide) rfl (fun ls hl => ?_)
  exact tLX8_times_18 C hK  g_fuel _ _ _ _ _ _ _ _ _ _ hG hS (lv_sub hl [2, 3, 4, 5, 1, 0] rfl) hf

def rmX8_divide : Room := { frames := 1, cells := 0, slots := 0, locals := 23 }
noncomputable def LX8_divide_12  : Nat → g_S → Nat → Int32 → Int32 → Int64 → Int32 → Option (Int32 × g_S)
  | 0, _, _, _, _, _, _ => none
  | n + 1, σ, x0, x1, x2, x3, x5 => if x5 < 0 then ((g_fr σ 8 x0 2).bind fun v5 => (g_li σ 0 v5 x1).bind fun v6 => (g_o σ 8 x0).bind fun o7 => (fX8_trim σ x0 x1 v6).bind fun r8 => some (x3.toInt32, r8)) else ((g_o σ 8 x0).bind fun o9 => (fX8_at σ x0 x1 x5).bind fun r10 => g_let ((x3 * 65536) + r10.1.toInt64) fun v11 => g_if (¬ x2.toInt64 = 0) <| (g_o r10.2 8 x0).bind fun o13 => (fX8_puts r10.2 x0 x1 x5 ((v11 / x2.toInt64).toInt32)).bind fun r14 => g_if (¬ x2.toInt64 = 0) <| g_let (g_lrem v11 x2.toInt64) fun v16 => g_let (x5 + (-1)) fun v17 => (LX8_divide_12  n) r14 x0 x1 x2 v16 v17)
noncomputable def fX8_divide (σ : g_S) (x0 : Nat) (x1 : Int32) (x2 : Int32) : Option (Int32 × g_S) := (g_fr σ 8 x0 2).bind fun v1 => (g_li σ 0 v1 x1).bind fun v2 => g_let (v2 - 1) fun v3 => LX8_divide_12 g_fuel σ x0 x1 x2 0 v3
set_option maxHeartbeats 4000000 in
set_option maxRecDepth 100000 in
theorem tLX8_divide_12 {p : Program} {l : Launch} {e : Env} {s : State} {m : MethodId} {args : Array Value} {below : List Frame} {meth : Method} {c : Code} {D : g_D} {out : Int32 × g_S} (C : g_C RX8 cX8_divide 8 (some .int) True p s m args meth c) (hK : g_K D s)  : ∀ (n : Nat) (σ : g_S) (x0 : Nat) (x1 : Int32) (x2 : Int32) (x3 : Int64) (x5 : Int32) (H : Heap) (locs : List Loc) (ls : Array Slot), g_H D σ H → va_S (g_A D) s.heap H locs → lv_has ls 8 [(0, .ref x0), (1, .int x1), (2, .int x2), (3, .long x3), (5, .int x5)] → LX8_divide_12  n σ x0 x1 x2 x3 x5 = some out → W p l e rmX8_divide s m args below meth c H locs 0 0 (MQ below (g_Q D out.2 (some (.int out.1))) args s 0 0 (g_A D)) (F0 m 12 ls [])  := by
  obtain ⟨hx, hb, hml, hown, hts, hr, hlocks, hin⟩ := id C
  intro n
  induction n with
  | zero => intro σ x0 x1 x2 x3 x5 H locs ls hG hS hl hf; cases hf
  | succ n ih =>
    intro σ x0 x1 x2 x3 x5 H locs ls hG hS hl hf
    have hf : (if x5 < 0 then ((g_fr σ 8 x0 2).bind fun v5 => (g_li σ 0 v5 x1).bind fun v6 => (g_o σ 8 x0).bind fun o7 => (fX8_trim σ x0 x1 v6).bind fun r8 => some (x3.toInt32, r8)) else ((g_o σ 8 x0).bind fun o9 => (fX8_at σ x0 x1 x5).bind fun r10 => g_let ((x3 * 65536) + r10.1.toInt64) fun v11 => g_if (¬ x2.toInt64 = 0) <| (g_o r10.2 8 x0).bind fun o13 => (fX8_puts r10.2 x0 x1 x5 ((v11 / x2.toInt64).toInt32)).bind fun r14 => g_if (¬ x2.toInt64 = 0) <| g_let (g_lrem v11 x2.toInt64) fun v16 => g_let (x5 + (-1)) fun v17 => (LX8_divide_12  n) r14 x0 x1 x2 v16 v17)) = some out := hf
    have hk12 := ih
    refine lv_iload hx hb dX8_divide_12 (lv_at hl 4 rfl) ?_
    refine lv_if_lt (tgt := 58) hx hb dX8_divide_14 (by decide) (fun c4 => ?_) (fun c4 => ?_)
    · rw [if_pos c4] at hf
      refine lv_aload_n hx hb dX8_divide_58 rfl (lv_at hl 0 rfl) ?_
      refine lv_iload_n hx hb dX8_divide_59 rfl (lv_at hl 1 rfl) ?_
      refine lv_aload_n hx hb dX8_divide_60 rfl (lv_at hl 0 rfl) ?_
      obtain ⟨v5, hv5, hf⟩ := g_bind hf
      refine g_getr hx hb hts hown hK hG hv5 rfl iX8 (by decide) flX8_13 dX8_divide_61 ?_
      refine lv_iload_n hx hb dX8_divide_64 rfl (lv_at hl 1 rfl) ?_
      obtain ⟨v6, hv6, hf⟩ := g_bind hf
      refine g_iald hx hb hK hG hv6 rfl dX8_divide_65 ?_
      obtain ⟨o7, ho7, hf⟩ := g_bind hf
      obtain ⟨r8, hr8, hf⟩ := g_bind hf
      refine g_callV hx hb hml hl.1 hts hown hK hG hS (As := [.int x1, .int v6]) (rest := []) (tX8_trim l D hr8) vX8_trim mlX8_38 ho7 rfl rfl rfl rfl ⟨Nat.le_of_ble_eq_true rfl, Nat.le_of_ble_eq_true rfl⟩ rfl rfl (Nat.le_of_ble_eq_true rfl) ⟨Nat.le_of_ble_eq_true rfl, Nat.le_of_ble_eq_true rfl⟩ dX8_divide_66 (fun H locs hG hS => ?_)
      refine lv_lload_n hx hb dX8_divide_69 rfl (lv_at hl 3 rfl) ?_
      refine lv_l2i (v := x3.toInt32) hx hb dX8_divide_70 rfl ?_
      cases hf
      exact g_iret hx hb hr hlocks hG hS dX8_divide_71
    · rw [if_neg c4] at hf
      refine lv_lload_n hx hb dX8_divide_17 rfl (lv_at hl 3 rfl) ?_
      refine lv_ldc2 (v := 65536) hx hb hown (hts _ coX8_46) dX8_divide_18 ?_
      refine lv_lmul hx hb dX8_divide_21 ?_
      refine lv_aload_n hx hb dX8_divide_22 rfl (lv_at hl 0 rfl) ?_
      refine lv_iload_n hx hb dX8_divide_23 rfl (lv_at hl 1 rfl) ?_
      refine lv_iload hx hb dX8_divide_24 (lv_at hl 4 rfl) ?_
      obtain ⟨o9, ho9, hf⟩ := g_bind hf
      obtain ⟨r10, hr10, hf⟩ := g_bind hf
      refine g_callV hx hb hml hl.1 hts hown hK hG hS (As := [.int x1, .int x5]) (rest := [.long (x3 * 65536)]) (tX8_at l D hr10) vX8_at mlX8_41 ho9 rfl rfl rfl rfl ⟨Nat.le_of_ble_eq_true rfl, Nat.le_of_ble_eq_true rfl⟩ rfl rfl (Nat.le_of_ble_eq_true rfl) ⟨Nat.le_of_ble_eq_true rfl, Nat.le_of_ble_eq_true rfl⟩ dX8_divide_26 (fun H locs hG hS => ?_)
      refine lv_i2l (v := r10.1.toInt64) hx hb dX8_divide_29 rfl ?_
      refine lv_ladd hx hb dX8_divide_30 ?_
      obtain ⟨v11, ev11, hf⟩ := g_let_spec hf
      refine g_topl ev11 ?_
      refine lv_lstore (lv' := [(6, .long v11), (0, .ref x0), (1, .int x1), (2, .int x2), (3, .long x3), (5, .int x5)]) hx hb dX8_divide_31 hl (by decide) rfl (fun ls hl => ?_)
      refine lv_aload_n hx hb dX8_divide_33 rfl (lv_at hl 1 rfl) ?_
      refine lv_iload_n hx hb dX8_divide_34 rfl (lv_at hl 2 rfl) ?_
      refine lv_iload hx hb dX8_divide_35 (lv_at hl 5 rfl) ?_
      refine lv_lload hx hb dX8_divide_37 (lv_at hl 0 rfl) ?_
      refine lv_iload_n hx hb dX8_divide_39 rfl (lv_at hl 3 rfl) ?_
      refine lv_i2l (v := x2.toInt64) hx hb dX8_divide_40 rfl ?_
      obtain ⟨h12, hf⟩ := g_if_spec hf
      refine lv_ldiv hx hb dX8_divide_41 h12 ?_
      refine lv_l2i (v := (v11 / x2.toInt64).toInt32) hx hb dX8_divide_42 rfl ?_
      obtain ⟨o13, ho13, hf⟩ := g_bind hf
      obtain ⟨r14, hr14, hf⟩ := g_bind hf
      refine g_callV hx hb hml hl.1 hts hown hK hG hS (As := [.int x1, .int x5, .int ((v11 / x2.toInt64).toInt32)]) (rest := []) (tX8_puts l D hr14) vX8_puts mlX8_34 ho13 rfl rfl rfl rfl ⟨Nat.le_of_ble_eq_true rfl, Nat.le_of_ble_eq_true rfl⟩ rfl rfl (Nat.le_of_ble_eq_true rfl) ⟨Nat.le_of_ble_eq_true rfl, Nat.le_of_ble_eq_true rfl⟩ dX8_divide_43 (fun H locs hG hS => ?_)
      refine lv_lload hx hb dX8_divide_46 (lv_at hl 0 rfl) ?_
      refine lv_iload_n hx hb dX8_divide_48 rfl (lv_at hl 3 rfl) ?_
      refine lv_i2l (v := x2.toInt64) hx hb dX8_divide_49 rfl ?_
      obtain ⟨h15, hf⟩ := g_if_spec hf
      refine lv_lrem hx hb dX8_divide_50 h15 ?_
      refine g_topl (y := g_lrem v11 x2.toInt64) rfl ?_
      obtain ⟨v16, ev16, hf⟩ := g_let_spec hf
      refine g_topl ev16 ?_
      refine lv_lstore_n (lv' := [(3, .long v16), (6, .long v11), (0, .ref x0), (1, .int x1), (2, .int x2), (5, .int x5)]) hx hb dX8_divide_51 rfl hl (by decide) rfl (fun ls hl => ?_)
      obtain ⟨v17, ev17, hf⟩ := g_let_spec hf
      refine lv_iinc (v := v17) (lv' := [(5, .int v17), (3, .long v16), (6, .long v11), (0, .ref x0), (1, .int x1), (2, .int x2)]) hx hb dX8_divide_52 hl (k := 5) rfl (by rw [← ev17]; rfl) (by decide) rfl (fun ls hl => ?_)
      refine lv_goto (tgt := 12) hx hb dX8_divide_55 (by decide) ?_
      exact hk12 _ _ _ _ _ _ _ _ _ hG hS (lv_sub hl [3, 4, 5, 1, 0] rfl) hf

set_option maxHeartbeats 4000000 in
set_option maxRecDepth 100000 in
theorem tX8_divide (l : Launch) (D : g_D) {σ : g_S} {x0 : Nat} {x1 : Int32} {x2 : Int32} {out : Int32 × g_S} (hf : fX8_divide σ x0 x1 x2 = some out) : Met l yX8_divide (Cond.code yX8_divide cX8_divide 8 (some .int) :: lw_g) rmX8_divide (g_P D σ [.ref x0, .int x1, .int x2]) (g_Q D out.2 (some (.int out.1))) 0 0 (g_A D) := by
  refine Met.ofW (cc := cX8_divide) (maxL := 8) (ret := (some .int)) (by decide +kernel) rfl ?_
  intro p e s m args below meth c s₁ B hml hv
  obtain ⟨rfl, hG, hK⟩ := hv
  have hts : ∀ w ∈ lw_g, w.before _ s = true := fun w h => atoms_spec (ws := (Cond.code yX8_divide cX8_divide 8 (some .int) :: lw_g)) B.pre w (List.mem_cons_of_mem _ h)
  have C : g_C RX8 cX8_divide 8 (some .int) True p s m _ meth c := ⟨B.exec, B.bytes, hml, findClass_of_methodNamed B.named, hts, B.returns, B.notSynchronized, trivial⟩
  obtain ⟨hx, hb, hml, hown, hts, hr, hlocks, hin⟩ := id C
  have hS : va_S (g_A D) s.heap s.heap [] := va_S.rf
  have hl := lv_entry ([.ref x0, .int x1, .int x2]) (n := 8) (Nat.le_of_ble_eq_true rfl)
  rw [lg_entry_eq]
  generalize (lg_sl ([.ref x0, .int x1, .int x2]) ++ List.replicate (8 - (lg_sl ([.ref x0, .int x1, .int x2])).length) Slot.unset).toArray = ls at hl ⊢
  have hl : lv_has ls 8 [(0, .ref x0), (1, .int x1), (2, .int x2)] := hl
  unfold fX8_divide at hf
  refine lv_lconst (v := 0) hx hb dX8_divide_0 (by decide +kernel) ?_
  refine lv_lstore_n (lv' := [(3, .long 0), (0, .ref x0), (1, .int x1), (2, .int x2)]) hx hb dX8_divide_1 rfl hl (by decide) rfl (fun ls hl => ?_)
  refine lv_aload_n hx hb dX8_divide_2 rfl (lv_at hl 1 rfl) ?_
  obtain ⟨v1, hv1, hf⟩ := g_bind hf
  refine g_getr hx hb hts hown hK hG hv1 rfl iX8 (by decide) flX8_13 dX8_divide_3 ?_
  refine lv_iload_n hx hb dX8_divide_6 rfl (lv_at hl 2 rfl) ?_
  obtain ⟨v2, hv2, hf⟩ := g_bind hf
  refine g_iald hx hb hK hG hv2 rfl dX8_divide_7 ?_
  refine lv_iconst (v := 1) hx hb dX8_divide_8 (by decide +kernel) ?_
  refine lv_isub hx hb dX8_divide_9 ?_
  obtain ⟨v3, ev3, hf⟩ := g_let_spec hf
  refine g_topi ev3 ?_
  refine lv_istore (lv' := [(5, .int v3), (3, .long 0), (0, .ref x0), (1, .int x1), (2, .int x2)]) hx hb dX8_divide_10 hl (by decide) rfl (fun ls hl => ?_)
  exact tLX8_divide_12 C hK  g_fuel _ _ _ _ _ _ _ _ _ hG hS (lv_sub hl [2, 3, 4, 1, 0] rfl) hf

def rmX8_lifted : Room := { frames := 1, cells := 0, slots := 0, locals := 23 }
noncomputable def LX8_lifted_16  : Nat → g_S → Nat → Int32 → Int32 → Int32 → Int32 → Int32 → Int32 → Option (g_S)
  | 0, _, _, _, _, _, _, _, _ => none
  | n + 1, σ, x0, x1, x2, x3, x4, x5, x6 => if x4 ≤ x6 then ((g_fr σ 8 x0 2).bind fun v5 => (g_si σ 0 v5 x3 x4).bind fun σ6 => some σ6) else ((g_o σ 8 x0).bind fun o7 => (fX8_at σ x0 x1 x6).bind fun r8 => g_let ((g_ishl r8.1 x2) + x5) fun v9 => (g_o r8.2 8 x0).bind fun o10 => (fX8_puts r8.2 x0 x3 x6 (g_irem v9 65536)).bind fun r11 => g_let (v9 / 65536) fun v12 => g_let (x6 + 1) fun v13 => (LX8_lifted_16  n) r11 x0 x1 x2 x3 x4 v12 v13)
noncomputable def fX8_lifted (σ : g_S) (x0 : Nat) (x1 : Int32) (x2 : Int32) (x3 : Int32) : Option (g_S) := (g_fr σ 8 x0 2).bind fun v1 => (g_li σ 0 v1 x1).bind fun v2 => g_let (v2 + 1) fun v3 => LX8_lifted_16 g_fuel σ x0 x1 x2 x3 v3 0 0
set_option maxHeartbeats 4000000 in
set_option maxRecDepth 100000 in
theorem tLX8_lifted_16 {p : Program} {l : Launch} {e : Env} {s : State} {m : MethodId} {args : Array Value} {below : List Frame} {meth : Method} {c : Code} {D : g_D} {out : g_S} (C : g_C RX8 cX8_lifted 8 none True p s m args meth c) (hK : g_K D s)  : ∀ (n : Nat) (σ : g_S) (x0 : Nat) (x1 : Int32) (x2 : Int32) (x3 : Int32) (x4 : Int32) (x5 : Int32) (x6 : Int32) (H : Heap) (locs : List Loc) (ls : Array Slot), g_H D σ H → va_S (g_A D) s.heap H locs → lv_has ls 8 [(0, .ref x0), (1, .int x1), (2, .int x2), (3, .int x3), (4, .int x4), (5, .int x5), (6, .int x6)] → LX8_lifted_16  n σ x0 x1 x2 x3 x4 x5 x6 = some out → W p l e rmX8_lifted s m args below meth c H locs 0 0 (MQ below (g_Q D out (none)) args s 0 0 (g_A D)) (F0 m 16 ls [])  := by
  obtain ⟨hx, hb, hml, hown, hts, hr, hlocks, hin⟩ := id C
  intro n
  induction n with
  | zero => intro σ x0 x1 x2 x3 x4 x5 x6 H locs ls hG hS hl hf; cases hf
  | succ n ih =>
    intro σ x0 x1 x2 x3 x4 x5 x6 H locs ls hG hS hl hf
    have hf : (if x4 ≤ x6 then ((g_fr σ 8 x0 2).bind fun v5 => (g_si σ 0 v5 x3 x4).bind fun σ6 => some σ6) else ((g_o σ 8 x0).bind fun o7 => (fX8_at σ x0 x1 x6).bind fun r8 => g_let ((g_ishl r8.1 x2) + x5) fun v9 => (g_o r8.2 8 x0).bind fun o10 => (fX8_puts r8.2 x0 x3 x6 (g_irem v9 65536)).bind fun r11 => g_let (v9 / 65536) fun v12 => g_let (x6 + 1) fun v13 => (LX8_lifted_16  n) r11 x0 x1 x2 x3 x4 v12 v13)) = some out := hf
    have hk16 := ih
    refine lv_iload hx hb dX8_lifted_16 (lv_at hl 6 rfl) ?_
    refine lv_iload hx hb dX8_lifted_18 (lv_at hl 4 rfl) ?_
    refine lv_icmp_ge (tgt := 62) hx hb dX8_lifted_20 (by decide) (fun c4 => ?_) (fun c4 => ?_)
    · rw [if_pos c4] at hf
      refine lv_aload_n hx hb dX8_lifted_62 rfl (lv_at hl 0 rfl) ?_
      obtain ⟨v5, hv5, hf⟩ := g_bind hf
      refine g_getr hx hb hts hown hK hG hv5 rfl iX8 (by decide) flX8_13 dX8_lifted_63 ?_
      refine lv_iload_n hx hb dX8_lifted_66 rfl (lv_at hl 3 rfl) ?_
      refine lv_iload hx hb dX8_lifted_67 (lv_at hl 4 rfl) ?_
      obtain ⟨σ6, hσ6, hf⟩ := g_bind hf
      refine g_iast hx hb hK hG hS hσ6 rfl dX8_lifted_69 (fun H locs hG hS => ?_)
      cases hf
      exact g_vret hx hb hr hlocks hG hS dX8_lifted_70
    · rw [if_neg c4] at hf
      refine lv_aload_n hx hb dX8_lifted_23 rfl (lv_at hl 0 rfl) ?_
      refine lv_iload_n hx hb dX8_lifted_24 rfl (lv_at hl 1 rfl) ?_
      refine lv_iload hx hb dX8_lifted_25 (lv_at hl 6 rfl) ?_
      obtain ⟨o7, ho7, hf⟩ := g_bind hf
      obtain ⟨r8, hr8, hf⟩ := g_bind hf
      refine g_callV hx hb hml hl.1 hts hown hK hG hS (As := [.int x1, .int x6]) (rest := []) (tX8_at l D hr8) vX8_at mlX8_41 ho7 rfl rfl rfl rfl ⟨Nat.le_of_ble_eq_true rfl, Nat.le_of_ble_eq_true rfl⟩ rfl rfl (Nat.le_of_ble_eq_true rfl) ⟨Nat.le_of_ble_eq_true rfl, Nat.le_of_ble_eq_true rfl⟩ dX8_lifted_27 (fun H locs hG hS => ?_)
      refine lv_iload_n hx hb dX8_lifted_30 rfl (lv_at hl 2 rfl) ?_
      refine lv_ishl hx hb dX8_lifted_31 ?_
      refine g_topi (y := g_ishl r8.1 x2) rfl ?_
      refine lv_iload hx hb dX8_lifted_32 (lv_at hl 5 rfl) ?_
      refine lv_iadd hx hb dX8_lifted_34 ?_
      obtain ⟨v9, ev9, hf⟩ := g_let_spec hf
      refine g_topi ev9 ?_
      refine lv_istore (lv' := [(7, .int v9), (0, .ref x0), (1, .int x1), (2, .int x2), (3, .int x3), (4, .int x4), (5, .int x5), (6, .int x6)]) hx hb dX8_lifted_35 hl (by decide) rfl (fun ls hl => ?_)
      refine lv_aload_n hx hb dX8_lifted_37 rfl (lv_at hl 1 rfl) ?_
      refine lv_iload_n hx hb dX8_lifted_38 rfl (lv_at hl 4 rfl) ?_
      refine lv_iload hx hb dX8_lifted_39 (lv_at hl 7 rfl) ?_
      refine lv_iload hx hb dX8_lifted_41 (lv_at hl 0 rfl) ?_
      refine lv_ldc (v := 65536) hx hb hown (hts _ coX8_45) dX8_lifted_43 ?_
      refine lv_irem hx hb dX8_lifted_45 (by decide) ?_
      refine g_topi (y := g_irem v9 65536) rfl ?_
      obtain ⟨o10, ho10, hf⟩ := g_bind hf
      obtain ⟨r11, hr11, hf⟩ := g_bind hf
      refine g_callV hx hb hml hl.1 hts hown hK hG hS (As := [.int x3, .int x6, .int (g_irem v9 65536)]) (rest := []) (tX8_puts l D hr11) vX8_puts mlX8_34 ho10 rfl rfl rfl rfl ⟨Nat.le_of_ble_eq_true rfl, Nat.le_of_ble_eq_true rfl⟩ rfl rfl (Nat.le_of_ble_eq_true rfl) ⟨Nat.le_of_ble_eq_true rfl, Nat.le_of_ble_eq_true rfl⟩ dX8_lifted_46 (fun H locs hG hS => ?_)
      refine lv_iload hx hb dX8_lifted_49 (lv_at hl 0 rfl) ?_
      refine lv_ldc (v := 65536) hx hb hown (hts _ coX8_45) dX8_lifted_51 ?_
      refine lv_idiv hx hb dX8_lifted_53 (by decide) ?_
      obtain ⟨v12, ev12, hf⟩ := g_let_spec hf
      refine g_topi ev12 ?_
      refine lv_istore (lv' := [(5, .int v12), (7, .int v9), (0, .ref x0), (1, .int x1), (2, .int x2), (3, .int x3), (4, .int x4), (6, .int x6)]) hx hb dX8_lifted_54 hl (by decide) rfl (fun ls hl => ?_)
      obtain ⟨v13, ev13, hf⟩ := g_let_spec hf
      refine lv_iinc (v := v13) (lv' := [(6, .int v13), (5, .int v12), (7, .int v9), (0, .ref x0), (1, .int x1), (2, .int x2), (3, .int x3), (4, .int x4)]) hx hb dX8_lifted_56 hl (k := 7) rfl (by rw [← ev13]; rfl) (by decide) rfl (fun ls hl => ?_)
      refine lv_goto (tgt := 16) hx hb dX8_lifted_59 (by decide) ?_
      exact hk16 _ _ _ _ _ _ _ _ _ _ _ hG hS (lv_sub hl [3, 4, 5, 6, 7, 1, 0] rfl) hf

set_option maxHeartbeats 4000000 in
set_option maxRecDepth 100000 in
theorem tX8_lifted (l : Launch) (D : g_D) {σ : g_S} {x0 : Nat} {x1 : Int32} {x2 : Int32} {x3 : Int32} {out : g_S} (hf : fX8_lifted σ x0 x1 x2 x3 = some out) : Met l yX8_lifted (Cond.code yX8_lifted cX8_lifted 8 none :: lw_g) rmX8_lifted (g_P D σ [.ref x0, .int x1, .int x2, .int x3]) (g_Q D out (none)) 0 0 (g_A D) := by
  refine Met.ofW (cc := cX8_lifted) (maxL := 8) (ret := none) (by decide +kernel) rfl ?_
  intro p e s m args below meth c s₁ B hml hv
  obtain ⟨rfl, hG, hK⟩ := hv
  have hts : ∀ w ∈ lw_g, w.before _ s = true := fun w h => atoms_spec (ws := (Cond.code yX8_lifted cX8_lifted 8 none :: lw_g)) B.pre w (List.mem_cons_of_mem _ h)
  have C : g_C RX8 cX8_lifted 8 none True p s m _ meth c := ⟨B.exec, B.bytes, hml, findClass_of_methodNamed B.named, hts, B.returns, B.notSynchronized, trivial⟩
  obtain ⟨hx, hb, hml, hown, hts, hr, hlocks, hin⟩ := id C
  have hS : va_S (g_A D) s.heap s.heap [] := va_S.rf
  have hl := lv_entry ([.ref x0, .int x1, .int x2, .int x3]) (n := 8) (Nat.le_of_ble_eq_true rfl)
  rw [lg_entry_eq]
  generalize (lg_sl ([.ref x0, .int x1, .int x2, .int x3]) ++ List.replicate (8 - (lg_sl ([.ref x0, .int x1, .int x2, .int x3])).length) Slot.unset).toArray = ls at hl ⊢
  have hl : lv_has ls 8 [(0, .ref x0), (1, .int x1), (2, .int x2), (3, .int x3)] := hl
  unfold fX8_lifted at hf
  refine lv_aload_n hx hb dX8_lifted_0 rfl (lv_at hl 0 rfl) ?_
  obtain ⟨v1, hv1, hf⟩ := g_bind hf
  refine g_getr hx hb hts hown hK hG hv1 rfl iX8 (by decide) flX8_13 dX8_lifted_1 ?_
  refine lv_iload_n hx hb dX8_lifted_4 rfl (lv_at hl 1 rfl) ?_
  obtain ⟨v2, hv2, hf⟩ := g_bind hf
  refine g_iald hx hb hK hG hv2 rfl dX8_lifted_5 ?_
  refine lv_iconst (v := 1) hx hb dX8_lifted_6 (by decide +kernel) ?_
  refine lv_iadd hx hb dX8_lifted_7 ?_
  obtain ⟨v3, ev3, hf⟩ := g_let_spec hf
  refine g_topi ev3 ?_
  refine lv_istore (lv' := [(4, .int v3), (0, .ref x0), (1, .int x1), (2, .int x2), (3, .int x3)]) hx hb dX8_lifted_8 hl (by decide) rfl (fun ls hl => ?_)
  refine lv_iconst (v := 0) hx hb dX8_lifted_10 (by decide +kernel) ?_
  refine lv_istore (lv' := [(5, .int 0), (4, .int v3), (0, .ref x0), (1, .int x1), (2, .int x2), (3, .int x3)]) hx hb dX8_lifted_11 hl (by decide) rfl (fun ls hl => ?_)
  refine lv_iconst (v := 0) hx hb dX8_lifted_13 (by decide +kernel) ?_
  refine lv_istore (lv' := [(6, .int 0), (5, .int 0), (4, .int v3), (0, .ref x0), (1, .int x1), (2, .int x2), (3, .int x3)]) hx hb dX8_lifted_14 hl (by decide) rfl (fun ls hl => ?_)
  exact tLX8_lifted_16 C hK  g_fuel _ _ _ _ _ _ _ _ _ _ _ hG hS (lv_sub hl [3, 4, 5, 6, 2, 1, 0] rfl) hf

def rmX8_takes : Room := { frames := 1, cells := 0, slots := 0, locals := 23 }
noncomputable def BX8_takes_125  (σ : g_S) (y0 : Int32) : Option (Int32 × g_S) := g_if (y0 = 0 ∨ y0 = 1) <| some (y0, σ)
noncomputable def BX8_takes_80 (k6 : g_S → Nat → Int32 → Int32 → Int64 → Int64 → Int32 → Option (Int32 × g_S)) (σ : g_S) (x0 : Nat) (x1 : Int32) (x2 : Int32) (x3 : Int64) (x7 : Int32) (x8 : Int64) (y0 : Int64) (y1 : Int64) : Option (Int32 × g_S) := g_let (y0 + y1) fun v10 => (g_o σ 8 x0).bind fun o11 => (fX8_puts σ x0 40 (x1 + x7) v10.toInt32).bind fun r12 => g_let ((v10 - x8) / 65536) fun v13 => g_let (x7 + 1) fun v14 => k6 r12 x0 x1 x2 x3 v13 v14
noncomputable def BX8_takes_51 (k6 : g_S → Nat → Int32 → Int32 → Int64 → Int64 → Int32 → Option (Int32 × g_S)) (σ : g_S) (x0 : Nat) (x1 : Int32) (x2 : Int32) (x3 : Int64) (x7 : Int32) (y0 : Int64) (y1 : Int64) (y2 : Int32) : Option (Int32 × g_S) := g_let (y0 - (y1 * y2.toInt64)) fun v7 => g_let (g_lrem v7 65536) fun v8 => if 0 ≤ (lg_cmp v8 0) then (BX8_takes_80 k6 σ x0 x1 x2 x3 x7 v7 v8 0) else (BX8_takes_80 k6 σ x0 x1 x2 x3 x7 v7 v8 65536)
noncomputable def LX8_takes_6  : Nat → g_S → Nat → Int32 → Int32 → Int64 → Int64 → Int32 → Option (Int32 × g_S)
  | 0, _, _, _, _, _, _, _ => none
  | n + 1, σ, x0, x1, x2, x3, x5, x7 => if x2 < x7 then (if (lg_cmp x5 0) ≤ 0 then (BX8_takes_125 σ 0) else (BX8_takes_125 σ 1)) else ((g_fr σ 8 x0 1).bind fun v4 => (g_li σ 0 v4 ((10560 + x1) + x7)).bind fun v5 => if x2 ≤ x7 then (BX8_takes_51 (LX8_takes_6  n) σ x0 x1 x2 x3 x7 (v5.toInt64 - x5) x3 0) else ((g_fr σ 8 x0 1).bind fun v15 => (g_li σ 0 v15 (10824 + x7)).bind fun v16 => BX8_takes_51 (LX8_takes_6  n) σ x0 x1 x2 x3 x7 (v5.toInt64 - x5) x3 v16))
noncomputable def fX8_takes (σ : g_S) (x0 : Nat) (x1 : Int32) (x2 : Int32) (x3 : Int64) : Option (Int32 × g_S) := LX8_takes_6 g_fuel σ x0 x1 x2 x3 0 0
set_option maxHeartbeats 4000000 in
set_option maxRecDepth 100000 in
theorem tBX8_takes_125 {p : Program} {l : Launch} {e : Env} {s : State} {m : MethodId} {args : Array Value} {below : List Frame} {meth : Method} {c : Code} {D : g_D} {out : Int32 × g_S} (C : g_C RX8 cX8_takes 12 (some .boolean) True p s m args meth c) (hK : g_K D s)  : ∀ (σ : g_S) (y0 : Int32) (H : Heap) (locs : List Loc) (ls : Array Slot), g_H D σ H → va_S (g_A D) s.heap H locs → lv_has ls 12 [] → BX8_takes_125  σ y0 = some out → W p l e rmX8_takes s m args below meth c H locs 0 0 (MQ below (g_Q D out.2 (some (.int out.1))) args s 0 0 (g_A D)) (F0 m 125 ls [.int y0]) := by
  obtain ⟨hx, hb, hml, hown, hts, hr, hlocks, hin⟩ := id C
  intro σ y0 H locs ls hG hS hl hf
  unfold BX8_takes_125 at hf
  obtain ⟨z3, hf⟩ := g_if_spec hf
  cases hf
  exact g_zret hx hb hr hlocks z3 hG hS dX8_takes_125

set_option maxHeartbeats 4000000 in
set_option maxRecDepth 100000 in
theorem tBX8_takes_80 {p : Program} {l : Launch} {e : Env} {s : State} {m : MethodId} {args : Array Value} {below : List Frame} {meth : Method} {c : Code} {D : g_D} {out : Int32 × g_S} (C : g_C RX8 cX8_takes 12 (some .boolean) True p s m args meth c) (hK : g_K D s) (k6 : g_S → Nat → Int32 → Int32 → Int64 → Int64 → Int32 → Option (Int32 × g_S)) (hk6 : ∀ (σ : g_S) (x0 : Nat) (x1 : Int32) (x2 : Int32) (x3 : Int64) (x5 : Int64) (x7 : Int32) (H : Heap) (locs : List Loc) (ls : Array Slot), g_H D σ H → va_S (g_A D) s.heap H locs → lv_has ls 12 [(0, .ref x0), (1, .int x1), (2, .int x2), (3, .long x3), (5, .long x5), (7, .int x7)] → k6 σ x0 x1 x2 x3 x5 x7 = some out → W p l e rmX8_takes s m args below meth c H locs 0 0 (MQ below (g_Q D out.2 (some (.int out.1))) args s 0 0 (g_A D)) (F0 m 6 ls [])) : ∀ (σ : g_S) (x0 : Nat) (x1 : Int32) (x2 : Int32) (x3 : Int64) (x7 : Int32) (x8 : Int64) (y0 : Int64) (y1 : Int64) (H : Heap) (locs : List Loc) (ls : Array Slot), g_H D σ H → va_S (g_A D) s.heap H locs → lv_has ls 12 [(0, .ref x0), (1, .int x1), (2, .int x2), (3, .long x3), (7, .int x7), (8, .long x8)] → BX8_takes_80 k6 σ x0 x1 x2 x3 x7 x8 y0 y1 = some out → W p l e rmX8_takes s m args below meth c H locs 0 0 (MQ below (g_Q D out.2 (some (.int out.1))) args s 0 0 (g_A D)) (F0 m 80 ls [.long y1, .long y0]) := by
  obtain ⟨hx, hb, hml, hown, hts, hr, hlocks, hin⟩ := id C
  intro σ x0 x1 x2 x3 x7 x8 y0 y1 H locs ls hG hS hl hf
  unfold BX8_takes_80 at hf
  refine lv_ladd hx hb dX8_takes_80 ?_
  obtain ⟨v10, ev10, hf⟩ := g_let_spec hf
  refine g_topl ev10 ?_
  refine lv_lstore (lv' := [(10, .long v10), (0, .ref x0), (1, .int x1), (2, .int x2), (3, .long x3), (7, .int x7), (8, .long x8)]) hx hb dX8_takes_81 hl (by decide) rfl (fun ls hl => ?_)
  refine lv_aload_n hx hb dX8_takes_83 rfl (lv_at hl 1 rfl) ?_
  refine lv_bipush (v := 40) hx hb dX8_takes_84 (by decide +kernel) ?_
  refine lv_iload_n hx hb dX8_takes_86 rfl (lv_at hl 2 rfl) ?_
  refine lv_iload hx hb dX8_takes_87 (lv_at hl 5 rfl) ?_
  refine lv_iadd hx hb dX8_takes_89 ?_
  refine lv_lload hx hb dX8_takes_90 (lv_at hl 0 rfl) ?_
  refine lv_l2i (v := v10.toInt32) hx hb dX8_takes_92 rfl ?_
  obtain ⟨o11, ho11, hf⟩ := g_bind hf
  obtain ⟨r12, hr12, hf⟩ := g_bind hf
  refine g_callV hx hb hml hl.1 hts hown hK hG hS (As := [.int 40, .int (x1 + x7), .int v10.toInt32]) (rest := []) (tX8_puts l D hr12) vX8_puts mlX8_34 ho11 rfl rfl rfl rfl ⟨Nat.le_of_ble_eq_true rfl, Nat.le_of_ble_eq_true rfl⟩ rfl rfl (Nat.le_of_ble_eq_true rfl) ⟨Nat.le_of_ble_eq_true rfl, Nat.le_of_ble_eq_true rfl⟩ dX8_takes_93 (fun H locs hG hS => ?_)
  refine lv_lload hx hb dX8_takes_96 (lv_at hl 0 rfl) ?_
  refine lv_lload hx hb dX8_takes_98 (lv_at hl 6 rfl) ?_
  refine lv_lsub hx hb dX8_takes_100 ?_
  refine lv_ldc2 (v := 65536) hx hb hown (hts _ coX8_46) dX8_takes_101 ?_
  refine lv_ldiv hx hb dX8_takes_104 (by decide) ?_
  obtain ⟨v13, ev13, hf⟩ := g_let_spec hf
  refine g_topl ev13 ?_
  refine lv_lstore (lv' := [(5, .long v13), (10, .long v10), (0, .ref x0), (1, .int x1), (2, .int x2), (3, .long x3), (7, .int x7), (8, .long x8)]) hx hb dX8_takes_105 hl (by decide) rfl (fun ls hl => ?_)
  obtain ⟨v14, ev14, hf⟩ := g_let_spec hf
  refine lv_iinc (v := v14) (lv' := [(7, .int v14), (5, .long v13), (10, .long v10), (0, .ref x0), (1, .int x1), (2, .int x2), (3, .long x3), (8, .long x8)]) hx hb dX8_takes_107 hl (k := 6) rfl (by rw [← ev14]; rfl) (by decide) rfl (fun ls hl => ?_)
  refine lv_goto (tgt := 6) hx hb dX8_takes_110 (by decide) ?_
  exact hk6 _ _ _ _ _ _ _ _ _ _ hG hS (lv_sub hl [3, 4, 5, 6, 1, 0] rfl) hf

set_option maxHeartbeats 4000000 in
set_option maxRecDepth 100000 in
theorem tBX8_takes_51 {p : Program} {l : Launch} {e : Env} {s : State} {m : MethodId} {args : Array Value} {below : List Frame} {meth : Method} {c : Code} {D : g_D} {out : Int32 × g_S} (C : g_C RX8 cX8_takes 12 (some .boolean) True p s m args meth c) (hK : g_K D s) (k6 : g_S → Nat → Int32 → Int32 → Int64 → Int64 → Int32 → Option (Int32 × g_S)) (hk6 : ∀ (σ : g_S) (x0 : Nat) (x1 : Int32) (x2 : Int32) (x3 : Int64) (x5 : Int64) (x7 : Int32) (H : Heap) (locs : List Loc) (ls : Array Slot), g_H D σ H → va_S (g_A D) s.heap H locs → lv_has ls 12 [(0, .ref x0), (1, .int x1), (2, .int x2), (3, .long x3), (5, .long x5), (7, .int x7)] → k6 σ x0 x1 x2 x3 x5 x7 = some out → W p l e rmX8_takes s m args below meth c H locs 0 0 (MQ below (g_Q D out.2 (some (.int out.1))) args s 0 0 (g_A D)) (F0 m 6 ls [])) : ∀ (σ : g_S) (x0 : Nat) (x1 : Int32) (x2 : Int32) (x3 : Int64) (x7 : Int32) (y0 : Int64) (y1 : Int64) (y2 : Int32) (H : Heap) (locs : List Loc) (ls : Array Slot), g_H D σ H → va_S (g_A D) s.heap H locs → lv_has ls 12 [(0, .ref x0), (1, .int x1), (2, .int x2), (3, .long x3), (7, .int x7)] → BX8_takes_51 k6 σ x0 x1 x2 x3 x7 y0 y1 y2 = some out → W p l e rmX8_takes s m args below meth c H locs 0 0 (MQ below (g_Q D out.2 (some (.int out.1))) args s 0 0 (g_A D)) (F0 m 51 ls [.int y2, .long y1, .long y0]) := by
  obtain ⟨hx, hb, hml, hown, hts, hr, hlocks, hin⟩ := id C
  intro σ x0 x1 x2 x3 x7 y0 y1 y2 H locs ls hG hS hl hf
  unfold BX8_takes_51 at hf
  refine lv_i2l (v := y2.toInt64) hx hb dX8_takes_51 rfl ?_
  refine lv_lmul hx hb dX8_takes_52 ?_
  refine lv_lsub hx hb dX8_takes_53 ?_
  obtain ⟨v7, ev7, hf⟩ := g_let_spec hf
  refine g_topl ev7 ?_
  refine lv_lstore (lv' := [(8, .long v7), (0, .ref x0), (1, .int x1), (2, .int x2), (3, .long x3), (7, .int x7)]) hx hb dX8_takes_54 hl (by decide) rfl (fun ls hl => ?_)
  refine lv_lload hx hb dX8_takes_56 (lv_at hl 0 rfl) ?_
  refine lv_ldc2 (v := 65536) hx hb hown (hts _ coX8_46) dX8_takes_58 ?_
  refine lv_lrem hx hb dX8_takes_61 (by decide) ?_
  refine g_topl (y := g_lrem v7 65536) rfl ?_
  obtain ⟨v8, ev8, hf⟩ := g_let_spec hf
  refine g_topl ev8 ?_
  refine lv_lstore (lv' := [(10, .long v8), (8, .long v7), (0, .ref x0), (1, .int x1), (2, .int x2), (3, .long x3), (7, .int x7)]) hx hb dX8_takes_62 hl (by decide) rfl (fun ls hl => ?_)
  refine lv_lload hx hb dX8_takes_64 (lv_at hl 0 rfl) ?_
  refine lv_lload hx hb dX8_takes_66 (lv_at hl 0 rfl) ?_
  refine lv_lconst (v := 0) hx hb dX8_takes_68 (by decide +kernel) ?_
  refine W.lcmp hx hb dX8_takes_69 ?_
  refine lv_if_ge (tgt := 79) hx hb dX8_takes_70 (by decide) (fun c9 => ?_) (fun c9 => ?_)
  · rw [if_pos c9] at hf
    refine lv_lconst (v := 0) hx hb dX8_takes_79 (by decide +kernel) ?_
    exact tBX8_takes_80 C hK k6 hk6  _ _ _ _ _ _ _ _ _ _ _ _ hG hS (lv_sub hl [2, 3, 4, 5, 6, 1] rfl) hf
  · rw [if_neg c9] at hf
    refine lv_ldc2 (v := 65536) hx hb hown (hts _ coX8_46) dX8_takes_73 ?_
    refine lv_goto (tgt := 80) hx hb dX8_takes_76 (by decide) ?_
    exact tBX8_takes_80 C hK k6 hk6  _ _ _ _ _ _ _ _ _ _ _ _ hG hS (lv_sub hl [2, 3, 4, 5, 6, 1] rfl) hf

set_option maxHeartbeats 4000000 in
set_option maxRecDepth 100000 in
theorem tLX8_takes_6 {p : Program} {l : Launch} {e : Env} {s : State} {m : MethodId} {args : Array Value} {below : List Frame} {meth : Method} {c : Code} {D : g_D} {out : Int32 × g_S} (C : g_C RX8 cX8_takes 12 (some .boolean) True p s m args meth c) (hK : g_K D s)  : ∀ (n : Nat) (σ : g_S) (x0 : Nat) (x1 : Int32) (x2 : Int32) (x3 : Int64) (x5 : Int64) (x7 : Int32) (H : Heap) (locs : List Loc) (ls : Array Slot), g_H D σ H → va_S (g_A D) s.heap H locs → lv_has ls 12 [(0, .ref x0), (1, .int x1), (2, .int x2), (3, .long x3), (5, .long x5), (7, .int x7)] → LX8_takes_6  n σ x0 x1 x2 x3 x5 x7 = some out → W p l e rmX8_takes s m args below meth c H locs 0 0 (MQ below (g_Q D out.2 (some (.int out.1))) args s 0 0 (g_A D)) (F0 m 6 ls [])  := by
  obtain ⟨hx, hb, hml, hown, hts, hr, hlocks, hin⟩ := id C
  intro n
  induction n with
  | zero => intro σ x0 x1 x2 x3 x5 x7 H locs ls hG hS hl hf; cases hf
  | succ n ih =>
    intro σ x0 x1 x2 x3 x5 x7 H locs ls hG hS hl hf
    have hf : (if x2 < x7 then (if (lg_cmp x5 0) ≤ 0 then (BX8_takes_125 σ 0) else (BX8_takes_125 σ 1)) else ((g_fr σ 8 x0 1).bind fun v4 => (g_li σ 0 v4 ((10560 + x1) + x7)).bind fun v5 => if x2 ≤ x7 then (BX8_takes_51 (LX8_takes_6  n) σ x0 x1 x2 x3 x7 (v5.toInt64 - x5) x3 0) else ((g_fr σ 8 x0 1).bind fun v15 => (g_li σ 0 v15 (10824 + x7)).bind fun v16 => BX8_takes_51 (LX8_takes_6  n) σ x0 x1 x2 x3 x7 (v5.toInt64 - x5) x3 v16))) = some out := hf
    have hk6 := ih
    refine lv_iload hx hb dX8_takes_6 (lv_at hl 5 rfl) ?_
    refine lv_iload_n hx hb dX8_takes_8 rfl (lv_at hl 2 rfl) ?_
    refine lv_icmp_gt (tgt := 113) hx hb dX8_takes_9 (by decide) (fun c1 => ?_) (fun c1 => ?_)
    · rw [if_pos c1] at hf
      refine lv_lload hx hb dX8_takes_113 (lv_at hl 4 rfl) ?_
      refine lv_lconst (v := 0) hx hb dX8_takes_115 (by decide +kernel) ?_
      refine W.lcmp hx hb dX8_takes_116 ?_
      refine lv_if_le (tgt := 124) hx hb dX8_takes_117 (by decide) (fun c2 => ?_) (fun c2 => ?_)
      · rw [if_pos c2] at hf
        refine lv_iconst (v := 0) hx hb dX8_takes_124 (by decide +kernel) ?_
        exact tBX8_takes_125 C hK   _ _ _ _ _ hG hS (lv_sub hl [] rfl) hf
      · rw [if_neg c2] at hf
        refine lv_iconst (v := 1) hx hb dX8_takes_120 (by decide +kernel) ?_
        refine lv_goto (tgt := 125) hx hb dX8_takes_121 (by decide) ?_
        exact tBX8_takes_125 C hK   _ _ _ _ _ hG hS (lv_sub hl [] rfl) hf
    · rw [if_neg c1] at hf
      refine lv_aload_n hx hb dX8_takes_12 rfl (lv_at hl 0 rfl) ?_
      obtain ⟨v4, hv4, hf⟩ := g_bind hf
      refine g_getr hx hb hts hown hK hG hv4 rfl iX8 (by decide) flX8_7 dX8_takes_13 ?_
      refine lv_sipush (v := 10560) hx hb dX8_takes_16 (by decide +kernel) ?_
      refine lv_iload_n hx hb dX8_takes_19 rfl (lv_at hl 1 rfl) ?_
      refine lv_iadd hx hb dX8_takes_20 ?_
      refine lv_iload hx hb dX8_takes_21 (lv_at hl 5 rfl) ?_
      refine lv_iadd hx hb dX8_takes_23 ?_
      obtain ⟨v5, hv5, hf⟩ := g_bind hf
      refine g_iald hx hb hK hG hv5 rfl dX8_takes_24 ?_
      refine lv_i2l (v := v5.toInt64) hx hb dX8_takes_25 rfl ?_
      refine lv_lload hx hb dX8_takes_26 (lv_at hl 4 rfl) ?_
      refine lv_lsub hx hb dX8_takes_28 ?_
      refine lv_lload_n hx hb dX8_takes_29 rfl (lv_at hl 3 rfl) ?_
      refine lv_iload hx hb dX8_takes_30 (lv_at hl 5 rfl) ?_
      refine lv_iload_n hx hb dX8_takes_32 rfl (lv_at hl 2 rfl) ?_
      refine lv_icmp_ge (tgt := 50) hx hb dX8_takes_33 (by decide) (fun c6 => ?_) (fun c6 => ?_)
      · rw [if_pos c6] at hf
        refine lv_iconst (v := 0) hx hb dX8_takes_50 (by decide +kernel) ?_
        exact tBX8_takes_51 C hK (LX8_takes_6  n) hk6  _ _ _ _ _ _ _ _ _ _ _ _ hG hS (lv_sub hl [0, 1, 2, 3, 5] rfl) hf
      · rw [if_neg c6] at hf
        refine lv_aload_n hx hb dX8_takes_36 rfl (lv_at hl 0 rfl) ?_
        obtain ⟨v15, hv15, hf⟩ := g_bind hf
        refine g_getr hx hb hts hown hK hG hv15 rfl iX8 (by decide) flX8_7 dX8_takes_37 ?_
        refine lv_sipush (v := 10824) hx hb dX8_takes_40 (by decide +kernel) ?_
        refine lv_iload hx hb dX8_takes_43 (lv_at hl 5 rfl) ?_
        refine lv_iadd hx hb dX8_takes_45 ?_
        obtain ⟨v16, hv16, hf⟩ := g_bind hf
        refine g_iald hx hb hK hG hv16 rfl dX8_takes_46 ?_
        refine lv_goto (tgt := 51) hx hb dX8_takes_47 (by decide) ?_
        exact tBX8_takes_51 C hK (LX8_takes_6  n) hk6  _ _ _ _ _ _ _ _ _ _ _ _ hG hS (lv_sub hl [0, 1, 2, 3, 5] rfl) hf

set_option maxHeartbeats 4000000 in
set_option maxRecDepth 100000 in
theorem tX8_takes (l : Launch) (D : g_D) {σ : g_S} {x0 : Nat} {x1 : Int32} {x2 : Int32} {x3 : Int64} {out : Int32 × g_S} (hf : fX8_takes σ x0 x1 x2 x3 = some out) : Met l yX8_takes (Cond.code yX8_takes cX8_takes 12 (some .boolean) :: lw_g) rmX8_takes (g_P D σ [.ref x0, .int x1, .int x2, .long x3]) (g_Q D out.2 (some (.int out.1))) 0 0 (g_A D) := by
  refine Met.ofW (cc := cX8_takes) (maxL := 12) (ret := (some .boolean)) (by decide +kernel) rfl ?_
  intro p e s m args below meth c s₁ B hml hv
  obtain ⟨rfl, hG, hK⟩ := hv
  have hts : ∀ w ∈ lw_g, w.before _ s = true := fun w h => atoms_spec (ws := (Cond.code yX8_takes cX8_takes 12 (some .boolean) :: lw_g)) B.pre w (List.mem_cons_of_mem _ h)
  have C : g_C RX8 cX8_takes 12 (some .boolean) True p s m _ meth c := ⟨B.exec, B.bytes, hml, findClass_of_methodNamed B.named, hts, B.returns, B.notSynchronized, trivial⟩
  obtain ⟨hx, hb, hml, hown, hts, hr, hlocks, hin⟩ := id C
  have hS : va_S (g_A D) s.heap s.heap [] := va_S.rf
  have hl := lv_entry ([.ref x0, .int x1, .int x2, .long x3]) (n := 12) (Nat.le_of_ble_eq_true rfl)
  rw [lg_entry_eq]
  generalize (lg_sl ([.ref x0, .int x1, .int x2, .long x3]) ++ List.replicate (12 - (lg_sl ([.ref x0, .int x1, .int x2, .long x3])).length) Slot.unset).toArray = ls at hl ⊢
  have hl : lv_has ls 12 [(0, .ref x0), (1, .int x1), (2, .int x2), (3, .long x3)] := hl
  unfold fX8_takes at hf
  refine lv_lconst (v := 0) hx hb dX8_takes_0 (by decide +kernel) ?_
  refine lv_lstore (lv' := [(5, .long 0), (0, .ref x0), (1, .int x1), (2, .int x2), (3, .long x3)]) hx hb dX8_takes_1 hl (by decide) rfl (fun ls hl => ?_)
  refine lv_iconst (v := 0) hx hb dX8_takes_3 (by decide +kernel) ?_
  refine lv_istore (lv' := [(7, .int 0), (5, .long 0), (0, .ref x0), (1, .int x1), (2, .int x2), (3, .long x3)]) hx hb dX8_takes_4 hl (by decide) rfl (fun ls hl => ?_)
  exact tLX8_takes_6 C hK  g_fuel _ _ _ _ _ _ _ _ _ _ hG hS (lv_sub hl [2, 3, 4, 5, 1, 0] rfl) hf

def rmX8_givesBack : Room := { frames := 1, cells := 0, slots := 0, locals := 23 }
noncomputable def BX8_givesBack_45 (k5 : g_S → Nat → Int32 → Int32 → Int32 → Int32 → Option (g_S)) (σ : g_S) (x0 : Nat) (x1 : Int32) (x2 : Int32) (x3 : Int32) (x4 : Int32) (y0 : Int32) (y1 : Int32) : Option (g_S) := g_let ((y0 + y1) + x3) fun v5 => (g_o σ 8 x0).bind fun o6 => (fX8_puts σ x0 40 (x1 + x4) (g_irem v5 65536)).bind fun r7 => g_let (v5 / 65536) fun v8 => g_let (x4 + 1) fun v9 => k5 r7 x0 x1 x2 v8 v9
noncomputable def LX8_givesBack_5  : Nat → g_S → Nat → Int32 → Int32 → Int32 → Int32 → Option (g_S)
  | 0, _, _, _, _, _, _ => none
  | n + 1, σ, x0, x1, x2, x3, x4 => if x2 < x4 then (some σ) else ((g_fr σ 8 x0 1).bind fun v2 => (g_li σ 0 v2 ((10560 + x1) + x4)).bind fun v3 => if x2 ≤ x4 then (BX8_givesBack_45 (LX8_givesBack_5  n) σ x0 x1 x2 x3 x4 v3 0) else ((g_fr σ 8 x0 1).bind fun v10 => (g_li σ 0 v10 (10824 + x4)).bind fun v11 => BX8_givesBack_45 (LX8_givesBack_5  n) σ x0 x1 x2 x3 x4 v3 v11))
noncomputable def fX8_givesBack (σ : g_S) (x0 : Nat) (x1 : Int32) (x2 : Int32) : Option (g_S) := LX8_givesBack_5 g_fuel σ x0 x1 x2 0 0
set_option maxHeartbeats 4000000 in
set_option maxRecDepth 100000 in
theorem tBX8_givesBack_45 {p : Program} {l : Launch} {e : Env} {s : State} {m : MethodId} {args : Array Value} {below : List Frame} {meth : Method} {c : Code} {D : g_D} {out : g_S} (C : g_C RX8 cX8_givesBack 6 none True p s m args meth c) (hK : g_K D s) (k5 : g_S → Nat → Int32 → Int32 → Int32 → Int32 → Option (g_S)) (hk5 : ∀ (σ : g_S) (x0 : Nat) (x1 : Int32) (x2 : Int32) (x3 : Int32) (x4 : Int32) (H : Heap) (locs : List Loc) (ls : Array Slot), g_H D σ H → va_S (g_A D) s.heap H locs → lv_has ls 6 [(0, .ref x0), (1, .int x1), (2, .int x2), (3, .int x3), (4, .int x4)] → k5 σ x0 x1 x2 x3 x4 = some out → W p l e rmX8_givesBack s m args below meth c H locs 0 0 (MQ below (g_Q D out (none)) args s 0 0 (g_A D)) (F0 m 5 ls [])) : ∀ (σ : g_S) (x0 : Nat) (x1 : Int32) (x2 : Int32) (x3 : Int32) (x4 : Int32) (y0 : Int32) (y1 : Int32) (H : Heap) (locs : List Loc) (ls : Array Slot), g_H D σ H → va_S (g_A D) s.heap H locs → lv_has ls 6 [(0, .ref x0), (1, .int x1), (2, .int x2), (3, .int x3), (4, .int x4)] → BX8_givesBack_45 k5 σ x0 x1 x2 x3 x4 y0 y1 = some out → W p l e rmX8_givesBack s m args below meth c H locs 0 0 (MQ below (g_Q D out (none)) args s 0 0 (g_A D)) (F0 m 45 ls [.int y1, .int y0]) := by
  obtain ⟨hx, hb, hml, hown, hts, hr, hlocks, hin⟩ := id C
  intro σ x0 x1 x2 x3 x4 y0 y1 H locs ls hG hS hl hf
  unfold BX8_givesBack_45 at hf
  refine lv_iadd hx hb dX8_givesBack_45 ?_
  refine lv_iload_n hx hb dX8_givesBack_46 rfl (lv_at hl 3 rfl) ?_
  refine lv_iadd hx hb dX8_givesBack_47 ?_
  obtain ⟨v5, ev5, hf⟩ := g_let_spec hf
  refine g_topi ev5 ?_
  refine lv_istore (lv' := [(5, .int v5), (0, .ref x0), (1, .int x1), (2, .int x2), (3, .int x3), (4, .int x4)]) hx hb dX8_givesBack_48 hl (by decide) rfl (fun ls hl => ?_)
  refine lv_aload_n hx hb dX8_givesBack_50 rfl (lv_at hl 1 rfl) ?_
  refine lv_bipush (v := 40) hx hb dX8_givesBack_51 (by decide +kernel) ?_
  refine lv_iload_n hx hb dX8_givesBack_53 rfl (lv_at hl 2 rfl) ?_
  refine lv_iload hx hb dX8_givesBack_54 (lv_at hl 5 rfl) ?_
  refine lv_iadd hx hb dX8_givesBack_56 ?_
  refine lv_iload hx hb dX8_givesBack_57 (lv_at hl 0 rfl) ?_
  refine lv_ldc (v := 65536) hx hb hown (hts _ coX8_45) dX8_givesBack_59 ?_
  refine lv_irem hx hb dX8_givesBack_61 (by decide) ?_
  refine g_topi (y := g_irem v5 65536) rfl ?_
  obtain ⟨o6, ho6, hf⟩ := g_bind hf
  obtain ⟨r7, hr7, hf⟩ := g_bind hf
  refine g_callV hx hb hml hl.1 hts hown hK hG hS (As := [.int 40, .int (x1 + x4), .int (g_irem v5 65536)]) (rest := []) (tX8_puts l D hr7) vX8_puts mlX8_34 ho6 rfl rfl rfl rfl ⟨Nat.le_of_ble_eq_true rfl, Nat.le_of_ble_eq_true rfl⟩ rfl rfl (Nat.le_of_ble_eq_true rfl) ⟨Nat.le_of_ble_eq_true rfl, Nat.le_of_ble_eq_true rfl⟩ dX8_givesBack_62 (fun H locs hG hS => ?_)
  refine lv_iload hx hb dX8_givesBack_65 (lv_at hl 0 rfl) ?_
  refine lv_ldc (v := 65536) hx hb hown (hts _ coX8_45) dX8_givesBack_67 ?_
  refine lv_idiv hx hb dX8_givesBack_69 (by decide) ?_
  obtain ⟨v8, ev8, hf⟩ := g_let_spec hf
  refine g_topi ev8 ?_
  refine lv_istore_n (lv' := [(3, .int v8), (5, .int v5), (0, .ref x0), (1, .int x1), (2, .int x2), (4, .int x4)]) hx hb dX8_givesBack_70 rfl hl (by decide) rfl (fun ls hl => ?_)
  obtain ⟨v9, ev9, hf⟩ := g_let_spec hf
  refine lv_iinc (v := v9) (lv' := [(4, .int v9), (3, .int v8), (5, .int v5), (0, .ref x0), (1, .int x1), (2, .int x2)]) hx hb dX8_givesBack_71 hl (k := 5) rfl (by rw [← ev9]; rfl) (by decide) rfl (fun ls hl => ?_)
  refine lv_goto (tgt := 5) hx hb dX8_givesBack_74 (by decide) ?_
  exact hk5 _ _ _ _ _ _ _ _ _ hG hS (lv_sub hl [3, 4, 5, 1, 0] rfl) hf

set_option maxHeartbeats 4000000 in
set_option maxRecDepth 100000 in
theorem tLX8_givesBack_5 {p : Program} {l : Launch} {e : Env} {s : State} {m : MethodId} {args : Array Value} {below : List Frame} {meth : Method} {c : Code} {D : g_D} {out : g_S} (C : g_C RX8 cX8_givesBack 6 none True p s m args meth c) (hK : g_K D s)  : ∀ (n : Nat) (σ : g_S) (x0 : Nat) (x1 : Int32) (x2 : Int32) (x3 : Int32) (x4 : Int32) (H : Heap) (locs : List Loc) (ls : Array Slot), g_H D σ H → va_S (g_A D) s.heap H locs → lv_has ls 6 [(0, .ref x0), (1, .int x1), (2, .int x2), (3, .int x3), (4, .int x4)] → LX8_givesBack_5  n σ x0 x1 x2 x3 x4 = some out → W p l e rmX8_givesBack s m args below meth c H locs 0 0 (MQ below (g_Q D out (none)) args s 0 0 (g_A D)) (F0 m 5 ls [])  := by
  obtain ⟨hx, hb, hml, hown, hts, hr, hlocks, hin⟩ := id C
  intro n
  induction n with
  | zero => intro σ x0 x1 x2 x3 x4 H locs ls hG hS hl hf; cases hf
  | succ n ih =>
    intro σ x0 x1 x2 x3 x4 H locs ls hG hS hl hf
    have hf : (if x2 < x4 then (some σ) else ((g_fr σ 8 x0 1).bind fun v2 => (g_li σ 0 v2 ((10560 + x1) + x4)).bind fun v3 => if x2 ≤ x4 then (BX8_givesBack_45 (LX8_givesBack_5  n) σ x0 x1 x2 x3 x4 v3 0) else ((g_fr σ 8 x0 1).bind fun v10 => (g_li σ 0 v10 (10824 + x4)).bind fun v11 => BX8_givesBack_45 (LX8_givesBack_5  n) σ x0 x1 x2 x3 x4 v3 v11))) = some out := hf
    have hk5 := ih
    refine lv_iload hx hb dX8_givesBack_5 (lv_at hl 4 rfl) ?_
    refine lv_iload_n hx hb dX8_givesBack_7 rfl (lv_at hl 2 rfl) ?_
    refine lv_icmp_gt (tgt := 77) hx hb dX8_givesBack_8 (by decide) (fun c1 => ?_) (fun c1 => ?_)
    · rw [if_pos c1] at hf
      cases hf
      exact g_vret hx hb hr hlocks hG hS dX8_givesBack_77
    · rw [if_neg c1] at hf
      refine lv_aload_n hx hb dX8_givesBack_11 rfl (lv_at hl 0 rfl) ?_
      obtain ⟨v2, hv2, hf⟩ := g_bind hf
      refine g_getr hx hb hts hown hK hG hv2 rfl iX8 (by decide) flX8_7 dX8_givesBack_12 ?_
      refine lv_sipush (v := 10560) hx hb dX8_givesBack_15 (by decide +kernel) ?_
      refine lv_iload_n hx hb dX8_givesBack_18 rfl (lv_at hl 1 rfl) ?_
      refine lv_iadd hx hb dX8_givesBack_19 ?_
      refine lv_iload hx hb dX8_givesBack_20 (lv_at hl 4 rfl) ?_
      refine lv_iadd hx hb dX8_givesBack_22 ?_
      obtain ⟨v3, hv3, hf⟩ := g_bind hf
      refine g_iald hx hb hK hG hv3 rfl dX8_givesBack_23 ?_
      refine lv_iload hx hb dX8_givesBack_24 (lv_at hl 4 rfl) ?_
      refine lv_iload_n hx hb dX8_givesBack_26 rfl (lv_at hl 2 rfl) ?_
      refine lv_icmp_ge (tgt := 44) hx hb dX8_givesBack_27 (by decide) (fun c4 => ?_) (fun c4 => ?_)
      · rw [if_pos c4] at hf
        refine lv_iconst (v := 0) hx hb dX8_givesBack_44 (by decide +kernel) ?_
        exact tBX8_givesBack_45 C hK (LX8_givesBack_5  n) hk5  _ _ _ _ _ _ _ _ _ _ _ hG hS (lv_sub hl [0, 1, 2, 3, 4] rfl) hf
      · rw [if_neg c4] at hf
        refine lv_aload_n hx hb dX8_givesBack_30 rfl (lv_at hl 0 rfl) ?_
        obtain ⟨v10, hv10, hf⟩ := g_bind hf
        refine g_getr hx hb hts hown hK hG hv10 rfl iX8 (by decide) flX8_7 dX8_givesBack_31 ?_
        refine lv_sipush (v := 10824) hx hb dX8_givesBack_34 (by decide +kernel) ?_
        refine lv_iload hx hb dX8_givesBack_37 (lv_at hl 4 rfl) ?_
        refine lv_iadd hx hb dX8_givesBack_39 ?_
        obtain ⟨v11, hv11, hf⟩ := g_bind hf
        refine g_iald hx hb hK hG hv11 rfl dX8_givesBack_40 ?_
        refine lv_goto (tgt := 45) hx hb dX8_givesBack_41 (by decide) ?_
        exact tBX8_givesBack_45 C hK (LX8_givesBack_5  n) hk5  _ _ _ _ _ _ _ _ _ _ _ hG hS (lv_sub hl [0, 1, 2, 3, 4] rfl) hf

set_option maxHeartbeats 4000000 in
set_option maxRecDepth 100000 in
theorem tX8_givesBack (l : Launch) (D : g_D) {σ : g_S} {x0 : Nat} {x1 : Int32} {x2 : Int32} {out : g_S} (hf : fX8_givesBack σ x0 x1 x2 = some out) : Met l yX8_givesBack (Cond.code yX8_givesBack cX8_givesBack 6 none :: lw_g) rmX8_givesBack (g_P D σ [.ref x0, .int x1, .int x2]) (g_Q D out (none)) 0 0 (g_A D) := by
  refine Met.ofW (cc := cX8_givesBack) (maxL := 6) (ret := none) (by decide +kernel) rfl ?_
  intro p e s m args below meth c s₁ B hml hv
  obtain ⟨rfl, hG, hK⟩ := hv
  have hts : ∀ w ∈ lw_g, w.before _ s = true := fun w h => atoms_spec (ws := (Cond.code yX8_givesBack cX8_givesBack 6 none :: lw_g)) B.pre w (List.mem_cons_of_mem _ h)
  have C : g_C RX8 cX8_givesBack 6 none True p s m _ meth c := ⟨B.exec, B.bytes, hml, findClass_of_methodNamed B.named, hts, B.returns, B.notSynchronized, trivial⟩
  obtain ⟨hx, hb, hml, hown, hts, hr, hlocks, hin⟩ := id C
  have hS : va_S (g_A D) s.heap s.heap [] := va_S.rf
  have hl := lv_entry ([.ref x0, .int x1, .int x2]) (n := 6) (Nat.le_of_ble_eq_true rfl)
  rw [lg_entry_eq]
  generalize (lg_sl ([.ref x0, .int x1, .int x2]) ++ List.replicate (6 - (lg_sl ([.ref x0, .int x1, .int x2])).length) Slot.unset).toArray = ls at hl ⊢
  have hl : lv_has ls 6 [(0, .ref x0), (1, .int x1), (2, .int x2)] := hl
  unfold fX8_givesBack at hf
  refine lv_iconst (v := 0) hx hb dX8_givesBack_0 (by decide +kernel) ?_
  refine lv_istore_n (lv' := [(3, .int 0), (0, .ref x0), (1, .int x1), (2, .int x2)]) hx hb dX8_givesBack_1 rfl hl (by decide) rfl (fun ls hl => ?_)
  refine lv_iconst (v := 0) hx hb dX8_givesBack_2 (by decide +kernel) ?_
  refine lv_istore (lv' := [(4, .int 0), (3, .int 0), (0, .ref x0), (1, .int x1), (2, .int x2)]) hx hb dX8_givesBack_3 hl (by decide) rfl (fun ls hl => ?_)
  exact tLX8_givesBack_5 C hK  g_fuel _ _ _ _ _ _ _ _ _ hG hS (lv_sub hl [2, 3, 4, 1, 0] rfl) hf

def rmX8_guess : Room := { frames := 0, cells := 0, slots := 0, locals := 0 }
noncomputable def BX8_guess_137  (σ : g_S) (x7 : Int64) : Option (Int64 × g_S) := some (x7, σ)
noncomputable def BX8_guess_121 (k61 : g_S → Nat → Int32 → Int32 → Int64 → Int64 → Int64 → Option (Int64 × g_S)) (σ : g_S) (x0 : Nat) (x1 : Int32) (x2 : Int32) (x5 : Int64) (x7 : Int64) (x9 : Int64) : Option (Int64 × g_S) := g_let (x7 - 1) fun v15 => g_let (x9 + x5) fun v16 => k61 σ x0 x1 x2 x5 v15 v16
noncomputable def LX8_guess_61  : Nat → g_S → Nat → Int32 → Int32 → Int64 → Int64 → Int64 → Option (Int64 × g_S)
  | 0, _, _, _, _, _, _, _ => none
  | n + 1, σ, x0, x1, x2, x5, x7, x9 => if 0 ≤ (lg_cmp x9 65536) then (BX8_guess_137 σ x7) else (if 0 ≤ (lg_cmp x7 65536) then (BX8_guess_121 (LX8_guess_61  n) σ x0 x1 x2 x5 x7 x9) else ((g_fr σ 8 x0 1).bind fun v17 => (g_li σ 0 v17 ((10824 + x2) - 2)).bind fun v18 => (g_fr σ 8 x0 1).bind fun v19 => (g_li σ 0 v19 (((10560 + x1) + x2) - 2)).bind fun v20 => if (lg_cmp (x7 * v18.toInt64) ((x9 * 65536) + v20.toInt64)) ≤ 0 then (BX8_guess_137 σ x7) else (BX8_guess_121 (LX8_guess_61  n) σ x0 x1 x2 x5 x7 x9)))
noncomputable def fX8_guess (σ : g_S) (x0 : Nat) (x1 : Int32) (x2 : Int32) : Option (Int64 × g_S) := (g_fr σ 8 x0 1).bind fun v1 => (g_li σ 0 v1 ((10560 + x1) + x2)).bind fun v2 => (g_fr σ 8 x0 1).bind fun v3 => (g_li σ 0 v3 (((10560 + x1) + x2) - 1)).bind fun v4 => g_let ((v2.toInt64 * 65536) + v4.toInt64) fun v5 => (g_fr σ 8 x0 1).bind fun v6 => (g_li σ 0 v6 ((10824 + x2) - 1)).bind fun v7 => g_let v7.toInt64 fun v8 => g_if (¬ v8 = 0) <| g_let (v5 / v8) fun v10 => g_if (¬ v8 = 0) <| g_let (g_lrem v5 v8) fun v12 => LX8_guess_61 g_fuel σ x0 x1 x2 v8 v10 v12
set_option maxHeartbeats 4000000 in
set_option maxRecDepth 100000 in
theorem tBX8_guess_137 {p : Program} {l : Launch} {e : Env} {s : State} {m : MethodId} {args : Array Value} {below : List Frame} {meth : Method} {c : Code} {D : g_D} {out : Int64 × g_S} (C : g_C RX8 cX8_guess 11 (some .long) True p s m args meth c) (hK : g_K D s)  : ∀ (σ : g_S) (x7 : Int64) (H : Heap) (locs : List Loc) (ls : Array Slot), g_H D σ H → va_S (g_A D) s.heap H locs → lv_has ls 11 [(7, .long x7)] → BX8_guess_137  σ x7 = some out → W p l e rmX8_guess s m args below meth c H locs 0 0 (MQ below (g_Q D out.2 (some (.long out.1))) args s 0 0 (g_A D)) (F0 m 137 ls []) := by
  obtain ⟨hx, hb, hml, hown, hts, hr, hlocks, hin⟩ := id C
  intro σ x7 H locs ls hG hS hl hf
  unfold BX8_guess_137 at hf
  refine lv_lload hx hb dX8_guess_137 (lv_at hl 0 rfl) ?_
  cases hf
  exact g_lret hx hb hr hlocks hG hS dX8_guess_139

set_option maxHeartbeats 4000000 in
set_option maxRecDepth 100000 in
theorem tBX8_guess_121 {p : Program} {l : Launch} {e : Env} {s : State} {m : MethodId} {args : Array Value} {below : List Frame} {meth : Method} {c : Code} {D : g_D} {out : Int64 × g_S} (C : g_C RX8 cX8_guess 11 (some .long) True p s m args meth c) (hK : g_K D s) (k61 : g_S → Nat → Int32 → Int32 → Int64 → Int64 → Int64 → Option (Int64 × g_S)) (hk61 : ∀ (σ : g_S) (x0 : Nat) (x1 : Int32) (x2 : Int32) (x5 : Int64) (x7 : Int64) (x9 : Int64) (H : Heap) (locs : List Loc) (ls : Array Slot), g_H D σ H → va_S (g_A D) s.heap H locs → lv_has ls 11 [(0, .ref x0), (1, .int x1), (2, .int x2), (5, .long x5), (7, .long x7), (9, .long x9)] → k61 σ x0 x1 x2 x5 x7 x9 = some out → W p l e rmX8_guess s m args below meth c H locs 0 0 (MQ below (g_Q D out.2 (some (.long out.1))) args s 0 0 (g_A D)) (F0 m 61 ls [])) : ∀ (σ : g_S) (x0 : Nat) (x1 : Int32) (x2 : Int32) (x5 : Int64) (x7 : Int64) (x9 : Int64) (H : Heap) (locs : List Loc) (ls : Array Slot), g_H D σ H → va_S (g_A D) s.heap H locs → lv_has ls 11 [(0, .ref x0), (1, .int x1), (2, .int x2), (5, .long x5), (7, .long x7), (9, .long x9)] → BX8_guess_121 k61 σ x0 x1 x2 x5 x7 x9 = some out → W p l e rmX8_guess s m args below meth c H locs 0 0 (MQ below (g_Q D out.2 (some (.long out.1))) args s 0 0 (g_A D)) (F0 m 121 ls []) := by
  obtain ⟨hx, hb, hml, hown, hts, hr, hlocks, hin⟩ := id C
  intro σ x0 x1 x2 x5 x7 x9 H locs ls hG hS hl hf
  unfold BX8_guess_121 at hf
  refine lv_lload hx hb dX8_guess_121 (lv_at hl 4 rfl) ?_
  refine lv_lconst (v := 1) hx hb dX8_guess_123 (by decide +kernel) ?_
  refine lv_lsub hx hb dX8_guess_124 ?_
  obtain ⟨v15, ev15, hf⟩ := g_let_spec hf
  refine g_topl ev15 ?_
  refine lv_lstore (lv' := [(7, .long v15), (0, .ref x0), (1, .int x1), (2, .int x2), (5, .long x5), (9, .long x9)]) hx hb dX8_guess_125 hl (by decide) rfl (fun ls hl => ?_)
  refine lv_lload hx hb dX8_guess_127 (lv_at hl 5 rfl) ?_
  refine lv_lload hx hb dX8_guess_129 (lv_at hl 4 rfl) ?_
  refine lv_ladd hx hb dX8_guess_131 ?_
  obtain ⟨v16, ev16, hf⟩ := g_let_spec hf
  refine g_topl ev16 ?_
  refine lv_lstore (lv' := [(9, .long v16), (7, .long v15), (0, .ref x0), (1, .int x1), (2, .int x2), (5, .long x5)]) hx hb dX8_guess_132 hl (by decide) rfl (fun ls hl => ?_)
  refine lv_goto (tgt := 61) hx hb dX8_guess_134 (by decide) ?_
  exact hk61 _ _ _ _ _ _ _ _ _ _ hG hS (lv_sub hl [2, 3, 4, 5, 1, 0] rfl) hf

set_option maxHeartbeats 4000000 in
set_option maxRecDepth 100000 in
theorem tLX8_guess_61 {p : Program} {l : Launch} {e : Env} {s : State} {m : MethodId} {args : Array Value} {below : List Frame} {meth : Method} {c : Code} {D : g_D} {out : Int64 × g_S} (C : g_C RX8 cX8_guess 11 (some .long) True p s m args meth c) (hK : g_K D s)  : ∀ (n : Nat) (σ : g_S) (x0 : Nat) (x1 : Int32) (x2 : Int32) (x5 : Int64) (x7 : Int64) (x9 : Int64) (H : Heap) (locs : List Loc) (ls : Array Slot), g_H D σ H → va_S (g_A D) s.heap H locs → lv_has ls 11 [(0, .ref x0), (1, .int x1), (2, .int x2), (5, .long x5), (7, .long x7), (9, .long x9)] → LX8_guess_61  n σ x0 x1 x2 x5 x7 x9 = some out → W p l e rmX8_guess s m args below meth c H locs 0 0 (MQ below (g_Q D out.2 (some (.long out.1))) args s 0 0 (g_A D)) (F0 m 61 ls [])  := by
  obtain ⟨hx, hb, hml, hown, hts, hr, hlocks, hin⟩ := id C
  intro n
  induction n with
  | zero => intro σ x0 x1 x2 x5 x7 x9 H locs ls hG hS hl hf; cases hf
  | succ n ih =>
    intro σ x0 x1 x2 x5 x7 x9 H locs ls hG hS hl hf
    have hf : (if 0 ≤ (lg_cmp x9 65536) then (BX8_guess_137 σ x7) else (if 0 ≤ (lg_cmp x7 65536) then (BX8_guess_121 (LX8_guess_61  n) σ x0 x1 x2 x5 x7 x9) else ((g_fr σ 8 x0 1).bind fun v17 => (g_li σ 0 v17 ((10824 + x2) - 2)).bind fun v18 => (g_fr σ 8 x0 1).bind fun v19 => (g_li σ 0 v19 (((10560 + x1) + x2) - 2)).bind fun v20 => if (lg_cmp (x7 * v18.toInt64) ((x9 * 65536) + v20.toInt64)) ≤ 0 then (BX8_guess_137 σ x7) else (BX8_guess_121 (LX8_guess_61  n) σ x0 x1 x2 x5 x7 x9)))) = some out := hf
    have hk61 := ih
    refine lv_lload hx hb dX8_guess_61 (lv_at hl 5 rfl) ?_
    refine lv_ldc2 (v := 65536) hx hb hown (hts _ coX8_46) dX8_guess_63 ?_
    refine W.lcmp hx hb dX8_guess_66 ?_
    refine lv_if_ge (tgt := 137) hx hb dX8_guess_67 (by decide) (fun c13 => ?_) (fun c13 => ?_)
    · rw [if_pos c13] at hf
      exact tBX8_guess_137 C hK   _ _ _ _ _ hG hS (lv_sub hl [4] rfl) hf
    · rw [if_neg c13] at hf
      refine lv_lload hx hb dX8_guess_70 (lv_at hl 4 rfl) ?_
      refine lv_ldc2 (v := 65536) hx hb hown (hts _ coX8_46) dX8_guess_72 ?_
      refine W.lcmp hx hb dX8_guess_75 ?_
      refine lv_if_ge (tgt := 121) hx hb dX8_guess_76 (by decide) (fun c14 => ?_) (fun c14 => ?_)
      · rw [if_pos c14] at hf
        exact tBX8_guess_121 C hK (LX8_guess_61  n) hk61  _ _ _ _ _ _ _ _ _ _ hG hS (lv_sub hl [0, 1, 2, 3, 4, 5] rfl) hf
      · rw [if_neg c14] at hf
        refine lv_lload hx hb dX8_guess_79 (lv_at hl 4 rfl) ?_
        refine lv_aload_n hx hb dX8_guess_81 rfl (lv_at hl 0 rfl) ?_
        obtain ⟨v17, hv17, hf⟩ := g_bind hf
        refine g_getr hx hb hts hown hK hG hv17 rfl iX8 (by decide) flX8_7 dX8_guess_82 ?_
        refine lv_sipush (v := 10824) hx hb dX8_guess_85 (by decide +kernel) ?_
        refine lv_iload_n hx hb dX8_guess_88 rfl (lv_at hl 2 rfl) ?_
        refine lv_iadd hx hb dX8_guess_89 ?_
        refine lv_iconst (v := 2) hx hb dX8_guess_90 (by decide +kernel) ?_
        refine lv_isub hx hb dX8_guess_91 ?_
        obtain ⟨v18, hv18, hf⟩ := g_bind hf
        refine g_iald hx hb hK hG hv18 rfl dX8_guess_92 ?_
        refine lv_i2l (v := v18.toInt64) hx hb dX8_guess_93 rfl ?_
        refine lv_lmul hx hb dX8_guess_94 ?_
        refine lv_lload hx hb dX8_guess_95 (lv_at hl 5 rfl) ?_
        refine lv_ldc2 (v := 65536) hx hb hown (hts _ coX8_46) dX8_guess_97 ?_
        refine lv_lmul hx hb dX8_guess_100 ?_
        refine lv_aload_n hx hb dX8_guess_101 rfl (lv_at hl 0 rfl) ?_
        obtain ⟨v19, hv19, hf⟩ := g_bind hf
        refine g_getr hx hb hts hown hK hG hv19 rfl iX8 (by decide) flX8_7 dX8_guess_102 ?_
        refine lv_sipush (v := 10560) hx hb dX8_guess_105 (by decide +kernel) ?_
        refine lv_iload_n hx hb dX8_guess_108 rfl (lv_at hl 1 rfl) ?_
        refine lv_iadd hx hb dX8_guess_109 ?_
        refine lv_iload_n hx hb dX8_guess_110 rfl (lv_at hl 2 rfl) ?_
        refine lv_iadd hx hb dX8_guess_111 ?_
        refine lv_iconst (v := 2) hx hb dX8_guess_112 (by decide +kernel) ?_
        refine lv_isub hx hb dX8_guess_113 ?_
        obtain ⟨v20, hv20, hf⟩ := g_bind hf
        refine g_iald hx hb hK hG hv20 rfl dX8_guess_114 ?_
        refine lv_i2l (v := v20.toInt64) hx hb dX8_guess_115 rfl ?_
        refine lv_ladd hx hb dX8_guess_116 ?_
        refine W.lcmp hx hb dX8_guess_117 ?_
        refine lv_if_le (tgt := 137) hx hb dX8_guess_118 (by decide) (fun c21 => ?_) (fun c21 => ?_)
        · rw [if_pos c21] at hf
          exact tBX8_guess_137 C hK   _ _ _ _ _ hG hS (lv_sub hl [4] rfl) hf
        · rw [if_neg c21] at hf
          exact tBX8_guess_121 C hK (LX8_guess_61  n) hk61  _ _ _ _ _ _ _ _ _ _ hG hS (lv_sub hl [0, 1, 2, 3, 4, 5] rfl) hf

set_option maxHeartbeats 4000000 in
set_option maxRecDepth 100000 in
theorem tX8_guess (l : Launch) (D : g_D) {σ : g_S} {x0 : Nat} {x1 : Int32} {x2 : Int32} {out : Int64 × g_S} (hf : fX8_guess σ x0 x1 x2 = some out) : Met l yX8_guess (Cond.code yX8_guess cX8_guess 11 (some .long) :: lw_g) rmX8_guess (g_P D σ [.ref x0, .int x1, .int x2]) (g_Q D out.2 (some (.long out.1))) 0 0 (g_A D) := by
  refine Met.ofW (cc := cX8_guess) (maxL := 11) (ret := (some .long)) (by decide +kernel) rfl ?_
  intro p e s m args below meth c s₁ B hml hv
  obtain ⟨rfl, hG, hK⟩ := hv
  have hts : ∀ w ∈ lw_g, w.before _ s = true := fun w h => atoms_spec (ws := (Cond.code yX8_guess cX8_guess 11 (some .long) :: lw_g)) B.pre w (List.mem_cons_of_mem _ h)
  have C : g_C RX8 cX8_guess 11 (some .long) True p s m _ meth c := ⟨B.exec, B.bytes, hml, findClass_of_methodNamed B.named, hts, B.returns, B.notSynchronized, trivial⟩
  obtain ⟨hx, hb, hml, hown, hts, hr, hlocks, hin⟩ := id C
  have hS : va_S (g_A D) s.heap s.heap [] := va_S.rf
  have hl := lv_entry ([.ref x0, .int x1, .int x2]) (n := 11) (Nat.le_of_ble_eq_true rfl)
  rw [lg_entry_eq]
  generalize (lg_sl ([.ref x0, .int x1, .int x2]) ++ List.replicate (11 - (lg_sl ([.ref x0, .int x1, .int x2])).length) Slot.unset).toArray = ls at hl ⊢
  have hl : lv_has ls 11 [(0, .ref x0), (1, .int x1), (2, .int x2)] := hl
  unfold fX8_guess at hf
  refine lv_aload_n hx hb dX8_guess_0 rfl (lv_at hl 0 rfl) ?_
  obtain ⟨v1, hv1, hf⟩ := g_bind hf
  refine g_getr hx hb hts hown hK hG hv1 rfl iX8 (by decide) flX8_7 dX8_guess_1 ?_
  refine lv_sipush (v := 10560) hx hb dX8_guess_4 (by decide +kernel) ?_
  refine lv_iload_n hx hb dX8_guess_7 rfl (lv_at hl 1 rfl) ?_
  refine lv_iadd hx hb dX8_guess_8 ?_
  refine lv_iload_n hx hb dX8_guess_9 rfl (lv_at hl 2 rfl) ?_
  refine lv_iadd hx hb dX8_guess_10 ?_
  obtain ⟨v2, hv2, hf⟩ := g_bind hf
  refine g_iald hx hb hK hG hv2 rfl dX8_guess_11 ?_
  refine lv_i2l (v := v2.toInt64) hx hb dX8_guess_12 rfl ?_
  refine lv_ldc2 (v := 65536) hx hb hown (hts _ coX8_46) dX8_guess_13 ?_
  refine lv_lmul hx hb dX8_guess_16 ?_
  refine lv_aload_n hx hb dX8_guess_17 rfl (lv_at hl 0 rfl) ?_
  obtain ⟨v3, hv3, hf⟩ := g_bind hf
  refine g_getr hx hb hts hown hK hG hv3 rfl iX8 (by decide) flX8_7 dX8_guess_18 ?_
  refine lv_sipush (v := 10560) hx hb dX8_guess_21 (by decide +kernel) ?_
  refine lv_iload_n hx hb dX8_guess_24 rfl (lv_at hl 1 rfl) ?_
  refine lv_iadd hx hb dX8_guess_25 ?_
  refine lv_iload_n hx hb dX8_guess_26 rfl (lv_at hl 2 rfl) ?_
  refine lv_iadd hx hb dX8_guess_27 ?_
  refine lv_iconst (v := 1) hx hb dX8_guess_28 (by decide +kernel) ?_
  refine lv_isub hx hb dX8_guess_29 ?_
  obtain ⟨v4, hv4, hf⟩ := g_bind hf
  refine g_iald hx hb hK hG hv4 rfl dX8_guess_30 ?_
  refine lv_i2l (v := v4.toInt64) hx hb dX8_guess_31 rfl ?_
  refine lv_ladd hx hb dX8_guess_32 ?_
  obtain ⟨v5, ev5, hf⟩ := g_let_spec hf
  refine g_topl ev5 ?_
  refine lv_lstore_n (lv' := [(3, .long v5), (0, .ref x0), (1, .int x1), (2, .int x2)]) hx hb dX8_guess_33 rfl hl (by decide) rfl (fun ls hl => ?_)
  refine lv_aload_n hx hb dX8_guess_34 rfl (lv_at hl 1 rfl) ?_
  obtain ⟨v6, hv6, hf⟩ := g_bind hf
  refine g_getr hx hb hts hown hK hG hv6 rfl iX8 (by decide) flX8_7 dX8_guess_35 ?_
  refine lv_sipush (v := 10824) hx hb dX8_guess_38 (by decide +kernel) ?_
  refine lv_iload_n hx hb dX8_guess_41 rfl (lv_at hl 3 rfl) ?_
  refine lv_iadd hx hb dX8_guess_42 ?_
  refine lv_iconst (v := 1) hx hb dX8_guess_43 (by decide +kernel) ?_
  refine lv_isub hx hb dX8_guess_44 ?_
  obtain ⟨v7, hv7, hf⟩ := g_bind hf
  refine g_iald hx hb hK hG hv7 rfl dX8_guess_45 ?_
  refine lv_i2l (v := v7.toInt64) hx hb dX8_guess_46 rfl ?_
  obtain ⟨v8, ev8, hf⟩ := g_let_spec hf
  refine g_topl ev8 ?_
  refine lv_lstore (lv' := [(5, .long v8), (3, .long v5), (0, .ref x0), (1, .int x1), (2, .int x2)]) hx hb dX8_guess_47 hl (by decide) rfl (fun ls hl => ?_)
  refine lv_lload_n hx hb dX8_guess_49 rfl (lv_at hl 1 rfl) ?_
  refine lv_lload hx hb dX8_guess_50 (lv_at hl 0 rfl) ?_
  obtain ⟨h9, hf⟩ := g_if_spec hf
  refine lv_ldiv hx hb dX8_guess_52 h9 ?_
  obtain ⟨v10, ev10, hf⟩ := g_let_spec hf
  refine g_topl ev10 ?_
  refine lv_lstore (lv' := [(7, .long v10), (5, .long v8), (3, .long v5), (0, .ref x0), (1, .int x1), (2, .int x2)]) hx hb dX8_guess_53 hl (by decide) rfl (fun ls hl => ?_)
  refine lv_lload_n hx hb dX8_guess_55 rfl (lv_at hl 2 rfl) ?_
  refine lv_lload hx hb dX8_guess_56 (lv_at hl 1 rfl) ?_
  obtain ⟨h11, hf⟩ := g_if_spec hf
  refine lv_lrem hx hb dX8_guess_58 h11 ?_
  refine g_topl (y := g_lrem v5 v8) rfl ?_
  obtain ⟨v12, ev12, hf⟩ := g_let_spec hf
  refine g_topl ev12 ?_
  refine lv_lstore (lv' := [(9, .long v12), (7, .long v10), (5, .long v8), (3, .long v5), (0, .ref x0), (1, .int x1), (2, .int x2)]) hx hb dX8_guess_59 hl (by decide) rfl (fun ls hl => ?_)
  exact tLX8_guess_61 C hK  g_fuel _ _ _ _ _ _ _ _ _ _ hG hS (lv_sub hl [4, 5, 6, 2, 1, 0] rfl) hf

def rmX8_divides : Room := { frames := 2, cells := 0, slots := 0, locals := 54 }
noncomputable def LX8_divides_193  : Nat → g_S → Nat → Int32 → Int32 → Int32 → Option (g_S)
  | 0, _, _, _, _, _ => none
  | n + 1, σ, x0, x3, x4, x6 => if x3 ≤ x6 then ((g_o σ 8 x0).bind fun o21 => (fX8_trim σ x0 36 x3).bind fun r22 => some r22) else ((g_fr σ 8 x0 1).bind fun v23 => (g_li σ 0 v23 (10560 + x6)).bind fun v24 => (g_fr σ 8 x0 1).bind fun v25 => (g_li σ 0 v25 ((10560 + x6) + 1)).bind fun v26 => g_let ((g_ishr v24 x4) ||| ((g_ishl v26 (16 - x4)) &&& 65535)) fun v27 => (g_o σ 8 x0).bind fun o28 => (fX8_puts σ x0 36 x6 v27).bind fun r29 => g_let (x6 + 1) fun v30 => (LX8_divides_193  n) r29 x0 x3 x4 v30)
noncomputable def BX8_divides_163 (k124 : g_S → Nat → Int32 → Int32 → Int32 → Int32 → Option (g_S)) (σ : g_S) (x0 : Nat) (x3 : Int32) (x4 : Int32) (x5 : Int32) (x6 : Int32) (x7 : Int64) : Option (g_S) := (g_o σ 8 x0).bind fun o36 => (fX8_puts σ x0 35 x6 x7.toInt32).bind fun r37 => g_let (x6 + (-1)) fun v38 => k124 r37 x0 x3 x4 x5 v38
noncomputable def LX8_divides_124  : Nat → g_S → Nat → Int32 → Int32 → Int32 → Int32 → Option (g_S)
  | 0, _, _, _, _, _, _ => none
  | n + 1, σ, x0, x3, x4, x5, x6 => if x6 < 0 then ((g_o σ 8 x0).bind fun o18 => (fX8_trim σ x0 35 (x5 + 1)).bind fun r19 => LX8_divides_193 g_fuel r19 x0 x3 x4 0) else ((g_o σ 8 x0).bind fun o31 => (fX8_guess σ x0 x6 x3).bind fun r32 => (g_o r32.2 8 x0).bind fun o33 => (fX8_takes r32.2 x0 x6 x3 r32.1).bind fun r34 => if r34.1 = 0 then (BX8_divides_163 (LX8_divides_124  n) r34.2 x0 x3 x4 x5 x6 r32.1) else (g_let (r32.1 - 1) fun v39 => (g_o r34.2 8 x0).bind fun o40 => (fX8_givesBack r34.2 x0 x6 x3).bind fun r41 => BX8_divides_163 (LX8_divides_124  n) r41 x0 x3 x4 x5 x6 v39))
noncomputable def LX8_divides_70  : Nat → g_S → Nat → Int32 → Int32 → Int32 → Int32 → Option (g_S)
  | 0, _, _, _, _, _, _ => none
  | n + 1, σ, x0, x1, x2, x3, x4 => (g_o σ 8 x0).bind fun o7 => (fX8_at σ x0 x2 (x3 - 1)).bind fun r8 => if 32768 ≤ (g_ishl r8.1 x4) then ((g_fr r8.2 8 x0 2).bind fun v10 => (g_li r8.2 0 v10 x1).bind fun v11 => g_let (v11 - x3) fun v12 => (g_o r8.2 8 x0).bind fun o13 => (fX8_lifted r8.2 x0 x1 x4 40).bind fun r14 => (g_o r14 8 x0).bind fun o15 => (fX8_lifted r14 x0 x2 x4 41).bind fun r16 => LX8_divides_124 g_fuel r16 x0 x3 x4 v12 v12) else (g_let (x4 + 1) fun v42 => (LX8_divides_70  n) r8.2 x0 x1 x2 x3 v42)
noncomputable def fX8_divides (σ : g_S) (x0 : Nat) (x1 : Int32) (x2 : Int32) : Option (g_S) := (g_o σ 8 x0).bind fun o1 => (fX8_order σ x0 x1 x2).bind fun r2 => if 0 ≤ r2.1 then ((g_fr r2.2 8 x0 2).bind fun v4 => (g_li r2.2 0 v4 x2).bind fun v5 => if v5 = 1 then ((g_o r2.2 8 x0).bind fun o43 => (fX8_at r2.2 x0 x2 0).bind fun r44 => (g_o r44.2 8 x0).bind fun o45 => (fX8_copy r44.2 x0 x1 35).bind fun r46 => (g_o r46 8 x0).bind fun o47 => (fX8_divide r46 x0 35 r44.1).bind fun r48 => (g_o r48.2 8 x0).bind fun o49 => (fX8_small r48.2 x0 36 r48.1).bind fun r50 => some r50) else (LX8_divides_70 g_fuel r2.2 x0 x1 x2 v5 0)) else ((g_o r2.2 8 x0).bind fun o51 => (fX8_copy r2.2 x0 x1 36).bind fun r52 => (g_fr r52 8 x0 2).bind fun v53 => (g_si r52 0 v53 35 0).bind fun σ54 => some σ54)
set_option maxHeartbeats 4000000 in
set_option maxRecDepth 100000 in
theorem tLX8_divides_193 {p : Program} {l : Launch} {e : Env} {s : State} {m : MethodId} {args : Array Value} {below : List Frame} {meth : Method} {c : Code} {D : g_D} {out : g_S} (C : g_C RX8 cX8_divides 9 none True p s m args meth c) (hK : g_K D s)  : ∀ (n : Nat) (σ : g_S) (x0 : Nat) (x3 : Int32) (x4 : Int32) (x6 : Int32) (H : Heap) (locs : List Loc) (ls : Array Slot), g_H D σ H → va_S (g_A D) s.heap H locs → lv_has ls 9 [(0, .ref x0), (3, .int x3), (4, .int x4), (6, .int x6)] → LX8_divides_193  n σ x0 x3 x4 x6 = some out → W p l e rmX8_divides s m args below meth c H locs 0 0 (MQ below (g_Q D out (none)) args s 0 0 (g_A D)) (F0 m 193 ls [])  := by
  obtain ⟨hx, hb, hml, hown, hts, hr, hlocks, hin⟩ := id C
  intro n
  induction n with
  | zero => intro σ x0 x3 x4 x6 H locs ls hG hS hl hf; cases hf
  | succ n ih =>
    intro σ x0 x3 x4 x6 H locs ls hG hS hl hf
    have hf : (if x3 ≤ x6 then ((g_o σ 8 x0).bind fun o21 => (fX8_trim σ x0 36 x3).bind fun r22 => some r22) else ((g_fr σ 8 x0 1).bind fun v23 => (g_li σ 0 v23 (10560 + x6)).bind fun v24 => (g_fr σ 8 x0 1).bind fun v25 => (g_li σ 0 v25 ((10560 + x6) + 1)).bind fun v26 => g_let ((g_ishr v24 x4) ||| ((g_ishl v26 (16 - x4)) &&& 65535)) fun v27 => (g_o σ 8 x0).bind fun o28 => (fX8_puts σ x0 36 x6 v27).bind fun r29 => g_let (x6 + 1) fun v30 => (LX8_divides_193  n) r29 x0 x3 x4 v30)) = some out := hf
    have hk193 := ih
    refine lv_iload hx hb dX8_divides_193 (lv_at hl 3 rfl) ?_
    refine lv_iload_n hx hb dX8_divides_195 rfl (lv_at hl 1 rfl) ?_
    refine lv_icmp_ge (tgt := 254) hx hb dX8_divides_196 (by decide) (fun c20 => ?_) (fun c20 => ?_)
    · rw [if_pos c20] at hf
      refine lv_aload_n hx hb dX8_divides_254 rfl (lv_at hl 0 rfl) ?_
      refine lv_bipush (v := 36) hx hb dX8_divides_255 (by decide +kernel) ?_
      refine lv_iload_n hx hb dX8_divides_257 rfl (lv_at hl 1 rfl) ?_
      obtain ⟨o21, ho21, hf⟩ := g_bind hf
      obtain ⟨r22, hr22, hf⟩ := g_bind hf
      refine g_callV hx hb hml hl.1 hts hown hK hG hS (As := [.int 36, .int x3]) (rest := []) (tX8_trim l D hr22) vX8_trim mlX8_38 ho21 rfl rfl rfl rfl ⟨Nat.le_of_ble_eq_true rfl, Nat.le_of_ble_eq_true rfl⟩ rfl rfl (Nat.le_of_ble_eq_true rfl) ⟨Nat.le_of_ble_eq_true rfl, Nat.le_of_ble_eq_true rfl⟩ dX8_divides_258 (fun H locs hG hS => ?_)
      cases hf
      exact g_vret hx hb hr hlocks hG hS dX8_divides_261
    · rw [if_neg c20] at hf
      refine lv_aload_n hx hb dX8_divides_199 rfl (lv_at hl 0 rfl) ?_
      obtain ⟨v23, hv23, hf⟩ := g_bind hf
      refine g_getr hx hb hts hown hK hG hv23 rfl iX8 (by decide) flX8_7 dX8_divides_200 ?_
      refine lv_sipush (v := 10560) hx hb dX8_divides_203 (by decide +kernel) ?_
      refine lv_iload hx hb dX8_divides_206 (lv_at hl 3 rfl) ?_
      refine lv_iadd hx hb dX8_divides_208 ?_
      obtain ⟨v24, hv24, hf⟩ := g_bind hf
      refine g_iald hx hb hK hG hv24 rfl dX8_divides_209 ?_
      refine lv_iload hx hb dX8_divides_210 (lv_at hl 2 rfl) ?_
      refine lv_ishr hx hb dX8_divides_212 ?_
      refine g_topi (y := g_ishr v24 x4) rfl ?_
      refine lv_aload_n hx hb dX8_divides_213 rfl (lv_at hl 0 rfl) ?_
      obtain ⟨v25, hv25, hf⟩ := g_bind hf
      refine g_getr hx hb hts hown hK hG hv25 rfl iX8 (by decide) flX8_7 dX8_divides_214 ?_
      refine lv_sipush (v := 10560) hx hb dX8_divides_217 (by decide +kernel) ?_
      refine lv_iload hx hb dX8_divides_220 (lv_at hl 3 rfl) ?_
      refine lv_iadd hx hb dX8_divides_222 ?_
      refine lv_iconst (v := 1) hx hb dX8_divides_223 (by decide +kernel) ?_
      refine lv_iadd hx hb dX8_divides_224 ?_
      obtain ⟨v26, hv26, hf⟩ := g_bind hf
      refine g_iald hx hb hK hG hv26 rfl dX8_divides_225 ?_
      refine lv_bipush (v := 16) hx hb dX8_divides_226 (by decide +kernel) ?_
      refine lv_iload hx hb dX8_divides_228 (lv_at hl 2 rfl) ?_
      refine lv_isub hx hb dX8_divides_230 ?_
      refine lv_ishl hx hb dX8_divides_231 ?_
      refine g_topi (y := g_ishl v26 (16 - x4)) rfl ?_
      refine lv_ldc (v := 65535) hx hb hown (hts _ coX8_72) dX8_divides_232 ?_
      refine lv_iand hx hb dX8_divides_234 ?_
      refine lv_ior hx hb dX8_divides_235 ?_
      obtain ⟨v27, ev27, hf⟩ := g_let_spec hf
      refine g_topi ev27 ?_
      refine lv_istore (lv' := [(7, .int v27), (0, .ref x0), (3, .int x3), (4, .int x4), (6, .int x6)]) hx hb dX8_divides_236 hl (by decide) rfl (fun ls hl => ?_)
      refine lv_aload_n hx hb dX8_divides_238 rfl (lv_at hl 1 rfl) ?_
      refine lv_bipush (v := 36) hx hb dX8_divides_239 (by decide +kernel) ?_
      refine lv_iload hx hb dX8_divides_241 (lv_at hl 4 rfl) ?_
      refine lv_iload hx hb dX8_divides_243 (lv_at hl 0 rfl) ?_
      obtain ⟨o28, ho28, hf⟩ := g_bind hf
      obtain ⟨r29, hr29, hf⟩ := g_bind hf
      refine g_callV hx hb hml hl.1 hts hown hK hG hS (As := [.int 36, .int x6, .int v27]) (rest := []) (tX8_puts l D hr29) vX8_puts mlX8_34 ho28 rfl rfl rfl rfl ⟨Nat.le_of_ble_eq_true rfl, Nat.le_of_ble_eq_true rfl⟩ rfl rfl (Nat.le_of_ble_eq_true rfl) ⟨Nat.le_of_ble_eq_true rfl, Nat.le_of_ble_eq_true rfl⟩ dX8_divides_245 (fun H locs hG hS => ?_)
      obtain ⟨v30, ev30, hf⟩ := g_let_spec hf
      refine lv_iinc (v := v30) (lv' := [(6, .int v30), (7, .int v27), (0, .ref x0), (3, .int x3), (4, .int x4)]) hx hb dX8_divides_248 hl (k := 4) rfl (by rw [← ev30]; rfl) (by decide) rfl (fun ls hl => ?_)
      refine lv_goto (tgt := 193) hx hb dX8_divides_251 (by decide) ?_
      exact hk193 _ _ _ _ _ _ _ _ hG hS (lv_sub hl [2, 3, 4, 0] rfl) hf

set_option maxHeartbeats 4000000 in
set_option maxRecDepth 100000 in
theorem tBX8_divides_163 {p : Program} {l : Launch} {e : Env} {s : State} {m : MethodId} {args : Array Value} {below : List Frame} {meth : Method} {c : Code} {D : g_D} {out : g_S} (C : g_C RX8 cX8_divides 9 none True p s m args meth c) (hK : g_K D s) (k124 : g_S → Nat → Int32 → Int32 → Int32 → Int32 → Option (g_S)) (hk124 : ∀ (σ : g_S) (x0 : Nat) (x3 : Int32) (x4 : Int32) (x5 : Int32) (x6 : Int32) (H : Heap) (locs : List Loc) (ls : Array Slot), g_H D σ H → va_S (g_A D) s.heap H locs → lv_has ls 9 [(0, .ref x0), (3, .int x3), (4, .int x4), (5, .int x5), (6, .int x6)] → k124 σ x0 x3 x4 x5 x6 = some out → W p l e rmX8_divides s m args below meth c H locs 0 0 (MQ below (g_Q D out (none)) args s 0 0 (g_A D)) (F0 m 124 ls [])) : ∀ (σ : g_S) (x0 : Nat) (x3 : Int32) (x4 : Int32) (x5 : Int32) (x6 : Int32) (x7 : Int64) (H : Heap) (locs : List Loc) (ls : Array Slot), g_H D σ H → va_S (g_A D) s.heap H locs → lv_has ls 9 [(0, .ref x0), (3, .int x3), (4, .int x4), (5, .int x5), (6, .int x6), (7, .long x7)] → BX8_divides_163 k124 σ x0 x3 x4 x5 x6 x7 = some out → W p l e rmX8_divides s m args below meth c H locs 0 0 (MQ below (g_Q D out (none)) args s 0 0 (g_A D)) (F0 m 163 ls []) := by
  obtain ⟨hx, hb, hml, hown, hts, hr, hlocks, hin⟩ := id C
  intro σ x0 x3 x4 x5 x6 x7 H locs ls hG hS hl hf
  unfold BX8_divides_163 at hf
  refine lv_aload_n hx hb dX8_divides_163 rfl (lv_at hl 0 rfl) ?_
  refine lv_bipush (v := 35) hx hb dX8_divides_164 (by decide +kernel) ?_
  refine lv_iload hx hb dX8_divides_166 (lv_at hl 4 rfl) ?_
  refine lv_lload hx hb dX8_divides_168 (lv_at hl 5 rfl) ?_
  refine lv_l2i (v := x7.toInt32) hx hb dX8_divides_170 rfl ?_
  obtain ⟨o36, ho36, hf⟩ := g_bind hf
  obtain ⟨r37, hr37, hf⟩ := g_bind hf
  refine g_callV hx hb hml hl.1 hts hown hK hG hS (As := [.int 35, .int x6, .int x7.toInt32]) (rest := []) (tX8_puts l D hr37) vX8_puts mlX8_34 ho36 rfl rfl rfl rfl ⟨Nat.le_of_ble_eq_true rfl, Nat.le_of_ble_eq_true rfl⟩ rfl rfl (Nat.le_of_ble_eq_true rfl) ⟨Nat.le_of_ble_eq_true rfl, Nat.le_of_ble_eq_true rfl⟩ dX8_divides_171 (fun H locs hG hS => ?_)
  obtain ⟨v38, ev38, hf⟩ := g_let_spec hf
  refine lv_iinc (v := v38) (lv' := [(6, .int v38), (0, .ref x0), (3, .int x3), (4, .int x4), (5, .int x5), (7, .long x7)]) hx hb dX8_divides_174 hl (k := 4) rfl (by rw [← ev38]; rfl) (by decide) rfl (fun ls hl => ?_)
  refine lv_goto (tgt := 124) hx hb dX8_divides_177 (by decide) ?_
  exact hk124 _ _ _ _ _ _ _ _ _ hG hS (lv_sub hl [1, 2, 3, 4, 0] rfl) hf

set_option maxHeartbeats 4000000 in
set_option maxRecDepth 100000 in
theorem tLX8_divides_124 {p : Program} {l : Launch} {e : Env} {s : State} {m : MethodId} {args : Array Value} {below : List Frame} {meth : Method} {c : Code} {D : g_D} {out : g_S} (C : g_C RX8 cX8_divides 9 none True p s m args meth c) (hK : g_K D s)  : ∀ (n : Nat) (σ : g_S) (x0 : Nat) (x3 : Int32) (x4 : Int32) (x5 : Int32) (x6 : Int32) (H : Heap) (locs : List Loc) (ls : Array Slot), g_H D σ H → va_S (g_A D) s.heap H locs → lv_has ls 9 [(0, .ref x0), (3, .int x3), (4, .int x4), (5, .int x5), (6, .int x6)] → LX8_divides_124  n σ x0 x3 x4 x5 x6 = some out → W p l e rmX8_divides s m args below meth c H locs 0 0 (MQ below (g_Q D out (none)) args s 0 0 (g_A D)) (F0 m 124 ls [])  := by
  obtain ⟨hx, hb, hml, hown, hts, hr, hlocks, hin⟩ := id C
  intro n
  induction n with
  | zero => intro σ x0 x3 x4 x5 x6 H locs ls hG hS hl hf; cases hf
  | succ n ih =>
    intro σ x0 x3 x4 x5 x6 H locs ls hG hS hl hf
    have hf : (if x6 < 0 then ((g_o σ 8 x0).bind fun o18 => (fX8_trim σ x0 35 (x5 + 1)).bind fun r19 => LX8_divides_193 g_fuel r19 x0 x3 x4 0) else ((g_o σ 8 x0).bind fun o31 => (fX8_guess σ x0 x6 x3).bind fun r32 => (g_o r32.2 8 x0).bind fun o33 => (fX8_takes r32.2 x0 x6 x3 r32.1).bind fun r34 => if r34.1 = 0 then (BX8_divides_163 (LX8_divides_124  n) r34.2 x0 x3 x4 x5 x6 r32.1) else (g_let (r32.1 - 1) fun v39 => (g_o r34.2 8 x0).bind fun o40 => (fX8_givesBack r34.2 x0 x6 x3).bind fun r41 => BX8_divides_163 (LX8_divides_124  n) r41 x0 x3 x4 x5 x6 v39))) = some out := hf
    have hk124 := ih
    refine lv_iload hx hb dX8_divides_124 (lv_at hl 4 rfl) ?_
    refine lv_if_lt (tgt := 180) hx hb dX8_divides_126 (by decide) (fun c17 => ?_) (fun c17 => ?_)
    · rw [if_pos c17] at hf
      refine lv_aload_n hx hb dX8_divides_180 rfl (lv_at hl 0 rfl) ?_
      refine lv_bipush (v := 35) hx hb dX8_divides_181 (by decide +kernel) ?_
      refine lv_iload hx hb dX8_divides_183 (lv_at hl 3 rfl) ?_
      refine lv_iconst (v := 1) hx hb dX8_divides_185 (by decide +kernel) ?_
      refine lv_iadd hx hb dX8_divides_186 ?_
      obtain ⟨o18, ho18, hf⟩ := g_bind hf
      obtain ⟨r19, hr19, hf⟩ := g_bind hf
      refine g_callV hx hb hml hl.1 hts hown hK hG hS (As := [.int 35, .int (x5 + 1)]) (rest := []) (tX8_trim l D hr19) vX8_trim mlX8_38 ho18 rfl rfl rfl rfl ⟨Nat.le_of_ble_eq_true rfl, Nat.le_of_ble_eq_true rfl⟩ rfl rfl (Nat.le_of_ble_eq_true rfl) ⟨Nat.le_of_ble_eq_true rfl, Nat.le_of_ble_eq_true rfl⟩ dX8_divides_187 (fun H locs hG hS => ?_)
      refine lv_iconst (v := 0) hx hb dX8_divides_190 (by decide +kernel) ?_
      refine lv_istore (lv' := [(6, .int 0), (0, .ref x0), (3, .int x3), (4, .int x4), (5, .int x5)]) hx hb dX8_divides_191 hl (by decide) rfl (fun ls hl => ?_)
      exact tLX8_divides_193 C hK  g_fuel _ _ _ _ _ _ _ _ hG hS (lv_sub hl [1, 2, 3, 0] rfl) hf
    · rw [if_neg c17] at hf
      refine lv_aload_n hx hb dX8_divides_129 rfl (lv_at hl 0 rfl) ?_
      refine lv_iload hx hb dX8_divides_130 (lv_at hl 4 rfl) ?_
      refine lv_iload_n hx hb dX8_divides_132 rfl (lv_at hl 1 rfl) ?_
      obtain ⟨o31, ho31, hf⟩ := g_bind hf
      obtain ⟨r32, hr32, hf⟩ := g_bind hf
      refine g_callV hx hb hml hl.1 hts hown hK hG hS (As := [.int x6, .int x3]) (rest := []) (tX8_guess l D hr32) vX8_guess mlX8_61 ho31 rfl rfl rfl rfl ⟨Nat.le_of_ble_eq_true rfl, Nat.le_of_ble_eq_true rfl⟩ rfl rfl (Nat.le_of_ble_eq_true rfl) ⟨Nat.le_of_ble_eq_true rfl, Nat.le_of_ble_eq_true rfl⟩ dX8_divides_133 (fun H locs hG hS => ?_)
      refine lv_lstore (lv' := [(7, .long r32.1), (0, .ref x0), (3, .int x3), (4, .int x4), (5, .int x5), (6, .int x6)]) hx hb dX8_divides_136 hl (by decide) rfl (fun ls hl => ?_)
      refine lv_aload_n hx hb dX8_divides_138 rfl (lv_at hl 1 rfl) ?_
      refine lv_iload hx hb dX8_divides_139 (lv_at hl 5 rfl) ?_
      refine lv_iload_n hx hb dX8_divides_141 rfl (lv_at hl 2 rfl) ?_
      refine lv_lload hx hb dX8_divides_142 (lv_at hl 0 rfl) ?_
      obtain ⟨o33, ho33, hf⟩ := g_bind hf
      obtain ⟨r34, hr34, hf⟩ := g_bind hf
      refine g_callV hx hb hml hl.1 hts hown hK hG hS (As := [.int x6, .int x3, .long r32.1]) (rest := []) (tX8_takes l D hr34) vX8_takes mlX8_65 ho33 rfl rfl rfl rfl ⟨Nat.le_of_ble_eq_true rfl, Nat.le_of_ble_eq_true rfl⟩ rfl rfl (Nat.le_of_ble_eq_true rfl) ⟨Nat.le_of_ble_eq_true rfl, Nat.le_of_ble_eq_true rfl⟩ dX8_divides_144 (fun H locs hG hS => ?_)
      refine lv_if_eq (tgt := 163) hx hb dX8_divides_147 (by decide) (fun c35 => ?_) (fun c35 => ?_)
      · rw [if_pos c35] at hf
        exact tBX8_divides_163 C hK (LX8_divides_124  n) hk124  _ _ _ _ _ _ _ _ _ _ hG hS (lv_sub hl [1, 2, 3, 4, 5, 0] rfl) hf
      · rw [if_neg c35] at hf
        refine lv_lload hx hb dX8_divides_150 (lv_at hl 0 rfl) ?_
        refine lv_lconst (v := 1) hx hb dX8_divides_152 (by decide +kernel) ?_
        refine lv_lsub hx hb dX8_divides_153 ?_
        obtain ⟨v39, ev39, hf⟩ := g_let_spec hf
        refine g_topl ev39 ?_
        refine lv_lstore (lv' := [(7, .long v39), (0, .ref x0), (3, .int x3), (4, .int x4), (5, .int x5), (6, .int x6)]) hx hb dX8_divides_154 hl (by decide) rfl (fun ls hl => ?_)
        refine lv_aload_n hx hb dX8_divides_156 rfl (lv_at hl 1 rfl) ?_
        refine lv_iload hx hb dX8_divides_157 (lv_at hl 5 rfl) ?_
        refine lv_iload_n hx hb dX8_divides_159 rfl (lv_at hl 2 rfl) ?_
        obtain ⟨o40, ho40, hf⟩ := g_bind hf
        obtain ⟨r41, hr41, hf⟩ := g_bind hf
        refine g_callV hx hb hml hl.1 hts hown hK hG hS (As := [.int x6, .int x3]) (rest := []) (tX8_givesBack l D hr41) vX8_givesBack mlX8_69 ho40 rfl rfl rfl rfl ⟨Nat.le_of_ble_eq_true rfl, Nat.le_of_ble_eq_true rfl⟩ rfl rfl (Nat.le_of_ble_eq_true rfl) ⟨Nat.le_of_ble_eq_true rfl, Nat.le_of_ble_eq_true rfl⟩ dX8_divides_160 (fun H locs hG hS => ?_)
        exact tBX8_divides_163 C hK (LX8_divides_124  n) hk124  _ _ _ _ _ _ _ _ _ _ hG hS (lv_sub hl [1, 2, 3, 4, 5, 0] rfl) hf

set_option maxHeartbeats 4000000 in
set_option maxRecDepth 100000 in
theorem tLX8_divides_70 {p : Program} {l : Launch} {e : Env} {s : State} {m : MethodId} {args : Array Value} {below : List Frame} {meth : Method} {c : Code} {D : g_D} {out : g_S} (C : g_C RX8 cX8_divides 9 none True p s m args meth c) (hK : g_K D s)  : ∀ (n : Nat) (σ : g_S) (x0 : Nat) (x1 : Int32) (x2 : Int32) (x3 : Int32) (x4 : Int32) (H : Heap) (locs : List Loc) (ls : Array Slot), g_H D σ H → va_S (g_A D) s.heap H locs → lv_has ls 9 [(0, .ref x0), (1, .int x1), (2, .int x2), (3, .int x3), (4, .int x4)] → LX8_divides_70  n σ x0 x1 x2 x3 x4 = some out → W p l e rmX8_divides s m args below meth c H locs 0 0 (MQ below (g_Q D out (none)) args s 0 0 (g_A D)) (F0 m 70 ls [])  := by
  obtain ⟨hx, hb, hml, hown, hts, hr, hlocks, hin⟩ := id C
  intro n
  induction n with
  | zero => intro σ x0 x1 x2 x3 x4 H locs ls hG hS hl hf; cases hf
  | succ n ih =>
    intro σ x0 x1 x2 x3 x4 H locs ls hG hS hl hf
    have hf : ((g_o σ 8 x0).bind fun o7 => (fX8_at σ x0 x2 (x3 - 1)).bind fun r8 => if 32768 ≤ (g_ishl r8.1 x4) then ((g_fr r8.2 8 x0 2).bind fun v10 => (g_li r8.2 0 v10 x1).bind fun v11 => g_let (v11 - x3) fun v12 => (g_o r8.2 8 x0).bind fun o13 => (fX8_lifted r8.2 x0 x1 x4 40).bind fun r14 => (g_o r14 8 x0).bind fun o15 => (fX8_lifted r14 x0 x2 x4 41).bind fun r16 => LX8_divides_124 g_fuel r16 x0 x3 x4 v12 v12) else (g_let (x4 + 1) fun v42 => (LX8_divides_70  n) r8.2 x0 x1 x2 x3 v42)) = some out := hf
    have hk70 := ih
    refine lv_aload_n hx hb dX8_divides_70 rfl (lv_at hl 0 rfl) ?_
    refine lv_iload_n hx hb dX8_divides_71 rfl (lv_at hl 2 rfl) ?_
    refine lv_iload_n hx hb dX8_divides_72 rfl (lv_at hl 3 rfl) ?_
    refine lv_iconst (v := 1) hx hb dX8_divides_73 (by decide +kernel) ?_
    refine lv_isub hx hb dX8_divides_74 ?_
    obtain ⟨o7, ho7, hf⟩ := g_bind hf
    obtain ⟨r8, hr8, hf⟩ := g_bind hf
    refine g_callV hx hb hml hl.1 hts hown hK hG hS (As := [.int x2, .int (x3 - 1)]) (rest := []) (tX8_at l D hr8) vX8_at mlX8_41 ho7 rfl rfl rfl rfl ⟨Nat.le_of_ble_eq_true rfl, Nat.le_of_ble_eq_true rfl⟩ rfl rfl (Nat.le_of_ble_eq_true rfl) ⟨Nat.le_of_ble_eq_true rfl, Nat.le_of_ble_eq_true rfl⟩ dX8_divides_75 (fun H locs hG hS => ?_)
    refine lv_iload hx hb dX8_divides_78 (lv_at hl 4 rfl) ?_
    refine lv_ishl hx hb dX8_divides_80 ?_
    refine g_topi (y := g_ishl r8.1 x4) rfl ?_
    refine lv_ldc (v := 32768) hx hb hown (hts _ coX8_57) dX8_divides_81 ?_
    refine lv_icmp_ge (tgt := 92) hx hb dX8_divides_83 (by decide) (fun c9 => ?_) (fun c9 => ?_)
    · rw [if_pos c9] at hf
      refine lv_aload_n hx hb dX8_divides_92 rfl (lv_at hl 0 rfl) ?_
      obtain ⟨v10, hv10, hf⟩ := g_bind hf
      refine g_getr hx hb hts hown hK hG hv10 rfl iX8 (by decide) flX8_13 dX8_divides_93 ?_
      refine lv_iload_n hx hb dX8_divides_96 rfl (lv_at hl 1 rfl) ?_
      obtain ⟨v11, hv11, hf⟩ := g_bind hf
      refine g_iald hx hb hK hG hv11 rfl dX8_divides_97 ?_
      refine lv_iload_n hx hb dX8_divides_98 rfl (lv_at hl 3 rfl) ?_
      refine lv_isub hx hb dX8_divides_99 ?_
      obtain ⟨v12, ev12, hf⟩ := g_let_spec hf
      refine g_topi ev12 ?_
      refine lv_istore (lv' := [(5, .int v12), (0, .ref x0), (1, .int x1), (2, .int x2), (3, .int x3), (4, .int x4)]) hx hb dX8_divides_100 hl (by decide) rfl (fun ls hl => ?_)
      refine lv_aload_n hx hb dX8_divides_102 rfl (lv_at hl 1 rfl) ?_
      refine lv_iload_n hx hb dX8_divides_103 rfl (lv_at hl 2 rfl) ?_
      refine lv_iload hx hb dX8_divides_104 (lv_at hl 5 rfl) ?_
      refine lv_bipush (v := 40) hx hb dX8_divides_106 (by decide +kernel) ?_
      obtain ⟨o13, ho13, hf⟩ := g_bind hf
      obtain ⟨r14, hr14, hf⟩ := g_bind hf
      refine g_callV hx hb hml hl.1 hts hown hK hG hS (As := [.int x1, .int x4, .int 40]) (rest := []) (tX8_lifted l D hr14) vX8_lifted mlX8_58 ho13 rfl rfl rfl rfl ⟨Nat.le_of_ble_eq_true rfl, Nat.le_of_ble_eq_true rfl⟩ rfl rfl (Nat.le_of_ble_eq_true rfl) ⟨Nat.le_of_ble_eq_true rfl, Nat.le_of_ble_eq_true rfl⟩ dX8_divides_108 (fun H locs hG hS => ?_)
      refine lv_aload_n hx hb dX8_divides_111 rfl (lv_at hl 1 rfl) ?_
      refine lv_iload_n hx hb dX8_divides_112 rfl (lv_at hl 3 rfl) ?_
      refine lv_iload hx hb dX8_divides_113 (lv_at hl 5 rfl) ?_
      refine lv_bipush (v := 41) hx hb dX8_divides_115 (by decide +kernel) ?_
      obtain ⟨o15, ho15, hf⟩ := g_bind hf
      obtain ⟨r16, hr16, hf⟩ := g_bind hf
      refine g_callV hx hb hml hl.1 hts hown hK hG hS (As := [.int x2, .int x4, .int 41]) (rest := []) (tX8_lifted l D hr16) vX8_lifted mlX8_58 ho15 rfl rfl rfl rfl ⟨Nat.le_of_ble_eq_true rfl, Nat.le_of_ble_eq_true rfl⟩ rfl rfl (Nat.le_of_ble_eq_true rfl) ⟨Nat.le_of_ble_eq_true rfl, Nat.le_of_ble_eq_true rfl⟩ dX8_divides_117 (fun H locs hG hS => ?_)
      refine lv_iload hx hb dX8_divides_120 (lv_at hl 0 rfl) ?_
      refine lv_istore (lv' := [(6, .int v12), (5, .int v12), (0, .ref x0), (1, .int x1), (2, .int x2), (3, .int x3), (4, .int x4)]) hx hb dX8_divides_122 hl (by decide) rfl (fun ls hl => ?_)
      exact tLX8_divides_124 C hK  g_fuel _ _ _ _ _ _ _ _ _ hG hS (lv_sub hl [2, 5, 6, 1, 0] rfl) hf
    · rw [if_neg c9] at hf
      obtain ⟨v42, ev42, hf⟩ := g_let_spec hf
      refine lv_iinc (v := v42) (lv' := [(4, .int v42), (0, .ref x0), (1, .int x1), (2, .int x2), (3, .int x3)]) hx hb dX8_divides_86 hl (k := 4) rfl (by rw [← ev42]; rfl) (by decide) rfl (fun ls hl => ?_)
      refine lv_goto (tgt := 70) hx hb dX8_divides_89 (by decide) ?_
      exact hk70 _ _ _ _ _ _ _ _ _ hG hS (lv_sub hl [1, 2, 3, 4, 0] rfl) hf

set_option maxHeartbeats 4000000 in
set_option maxRecDepth 100000 in
theorem tX8_divides (l : Launch) (D : g_D) {σ : g_S} {x0 : Nat} {x1 : Int32} {x2 : Int32} {out : g_S} (hf : fX8_divides σ x0 x1 x2 = some out) : Met l yX8_divides (Cond.code yX8_divides cX8_divides 9 none :: lw_g) rmX8_divides (g_P D σ [.ref x0, .int x1, .int x2]) (g_Q D out (none)) 0 0 (g_A D) := by
  refine Met.ofW (cc := cX8_divides) (maxL := 9) (ret := none) (by decide +kernel) rfl ?_
  intro p e s m args below meth c s₁ B hml hv
  obtain ⟨rfl, hG, hK⟩ := hv
  have hts : ∀ w ∈ lw_g, w.before _ s = true := fun w h => atoms_spec (ws := (Cond.code yX8_divides cX8_divides 9 none :: lw_g)) B.pre w (List.mem_cons_of_mem _ h)
  have C : g_C RX8 cX8_divides 9 none True p s m _ meth c := ⟨B.exec, B.bytes, hml, findClass_of_methodNamed B.named, hts, B.returns, B.notSynchronized, trivial⟩
  obtain ⟨hx, hb, hml, hown, hts, hr, hlocks, hin⟩ := id C
  have hS : va_S (g_A D) s.heap s.heap [] := va_S.rf
  have hl := lv_entry ([.ref x0, .int x1, .int x2]) (n := 9) (Nat.le_of_ble_eq_true rfl)
  rw [lg_entry_eq]
  generalize (lg_sl ([.ref x0, .int x1, .int x2]) ++ List.replicate (9 - (lg_sl ([.ref x0, .int x1, .int x2])).length) Slot.unset).toArray = ls at hl ⊢
  have hl : lv_has ls 9 [(0, .ref x0), (1, .int x1), (2, .int x2)] := hl
  unfold fX8_divides at hf
  refine lv_aload_n hx hb dX8_divides_0 rfl (lv_at hl 0 rfl) ?_
  refine lv_iload_n hx hb dX8_divides_1 rfl (lv_at hl 1 rfl) ?_
  refine lv_iload_n hx hb dX8_divides_2 rfl (lv_at hl 2 rfl) ?_
  obtain ⟨o1, ho1, hf⟩ := g_bind hf
  obtain ⟨r2, hr2, hf⟩ := g_bind hf
  refine g_callV hx hb hml hl.1 hts hown hK hG hS (As := [.int x1, .int x2]) (rest := []) (tX8_order l D hr2) vX8_order mlX8_48 ho1 rfl rfl rfl rfl ⟨Nat.le_of_ble_eq_true rfl, Nat.le_of_ble_eq_true rfl⟩ rfl rfl (Nat.le_of_ble_eq_true rfl) ⟨Nat.le_of_ble_eq_true rfl, Nat.le_of_ble_eq_true rfl⟩ dX8_divides_3 (fun H locs hG hS => ?_)
  refine lv_if_ge (tgt := 25) hx hb dX8_divides_6 (by decide) (fun c3 => ?_) (fun c3 => ?_)
  · rw [if_pos c3] at hf
    refine lv_aload_n hx hb dX8_divides_25 rfl (lv_at hl 0 rfl) ?_
    obtain ⟨v4, hv4, hf⟩ := g_bind hf
    refine g_getr hx hb hts hown hK hG hv4 rfl iX8 (by decide) flX8_13 dX8_divides_26 ?_
    refine lv_iload_n hx hb dX8_divides_29 rfl (lv_at hl 2 rfl) ?_
    obtain ⟨v5, hv5, hf⟩ := g_bind hf
    refine g_iald hx hb hK hG hv5 rfl dX8_divides_30 ?_
    refine lv_istore_n (lv' := [(3, .int v5), (0, .ref x0), (1, .int x1), (2, .int x2)]) hx hb dX8_divides_31 rfl hl (by decide) rfl (fun ls hl => ?_)
    refine lv_iload_n hx hb dX8_divides_32 rfl (lv_at hl 0 rfl) ?_
    refine lv_iconst (v := 1) hx hb dX8_divides_33 (by decide +kernel) ?_
    refine lv_icmp_ne (tgt := 67) hx hb dX8_divides_34 (by decide) (fun c6 => ?_) (fun c6 => ?_)
    · rw [if_neg c6] at hf
      refine lv_iconst (v := 0) hx hb dX8_divides_67 (by decide +kernel) ?_
      refine lv_istore (lv' := [(4, .int 0), (3, .int v5), (0, .ref x0), (1, .int x1), (2, .int x2)]) hx hb dX8_divides_68 hl (by decide) rfl (fun ls hl => ?_)
      exact tLX8_divides_70 C hK  g_fuel _ _ _ _ _ _ _ _ _ hG hS (lv_sub hl [2, 3, 4, 1, 0] rfl) hf
    · rw [if_pos c6] at hf
      refine lv_aload_n hx hb dX8_divides_37 rfl (lv_at hl 1 rfl) ?_
      refine lv_iload_n hx hb dX8_divides_38 rfl (lv_at hl 3 rfl) ?_
      refine lv_iconst (v := 0) hx hb dX8_divides_39 (by decide +kernel) ?_
      obtain ⟨o43, ho43, hf⟩ := g_bind hf
      obtain ⟨r44, hr44, hf⟩ := g_bind hf
      refine g_callV hx hb hml hl.1 hts hown hK hG hS (As := [.int x2, .int 0]) (rest := []) (tX8_at l D hr44) vX8_at mlX8_41 ho43 rfl rfl rfl rfl ⟨Nat.le_of_ble_eq_true rfl, Nat.le_of_ble_eq_true rfl⟩ rfl rfl (Nat.le_of_ble_eq_true rfl) ⟨Nat.le_of_ble_eq_true rfl, Nat.le_of_ble_eq_true rfl⟩ dX8_divides_40 (fun H locs hG hS => ?_)
      refine lv_istore (lv' := [(4, .int r44.1), (3, .int v5), (0, .ref x0), (1, .int x1), (2, .int x2)]) hx hb dX8_divides_43 hl (by decide) rfl (fun ls hl => ?_)
      refine lv_aload_n hx hb dX8_divides_45 rfl (lv_at hl 2 rfl) ?_
      refine lv_iload_n hx hb dX8_divides_46 rfl (lv_at hl 3 rfl) ?_
      refine lv_bipush (v := 35) hx hb dX8_divides_47 (by decide +kernel) ?_
      obtain ⟨o45, ho45, hf⟩ := g_bind hf
      obtain ⟨r46, hr46, hf⟩ := g_bind hf
      refine g_callV hx hb hml hl.1 hts hown hK hG hS (As := [.int x1, .int 35]) (rest := []) (tX8_copy l D hr46) vX8_copy mlX8_51 ho45 rfl rfl rfl rfl ⟨Nat.le_of_ble_eq_true rfl, Nat.le_of_ble_eq_true rfl⟩ rfl rfl (Nat.le_of_ble_eq_true rfl) ⟨Nat.le_of_ble_eq_true rfl, Nat.le_of_ble_eq_true rfl⟩ dX8_divides_49 (fun H locs hG hS => ?_)
      refine lv_aload_n hx hb dX8_divides_52 rfl (lv_at hl 2 rfl) ?_
      refine lv_bipush (v := 36) hx hb dX8_divides_53 (by decide +kernel) ?_
      refine lv_aload_n hx hb dX8_divides_55 rfl (lv_at hl 2 rfl) ?_
      refine lv_bipush (v := 35) hx hb dX8_divides_56 (by decide +kernel) ?_
      refine lv_iload hx hb dX8_divides_58 (lv_at hl 0 rfl) ?_
      obtain ⟨o47, ho47, hf⟩ := g_bind hf
      obtain ⟨r48, hr48, hf⟩ := g_bind hf
      refine g_callV hx hb hml hl.1 hts hown hK hG hS (As := [.int 35, .int r44.1]) (rest := [.int 36, .ref x0]) (tX8_divide l D hr48) vX8_divide mlX8_54 ho47 rfl rfl rfl rfl ⟨Nat.le_of_ble_eq_true rfl, Nat.le_of_ble_eq_true rfl⟩ rfl rfl (Nat.le_of_ble_eq_true rfl) ⟨Nat.le_of_ble_eq_true rfl, Nat.le_of_ble_eq_true rfl⟩ dX8_divides_60 (fun H locs hG hS => ?_)
      obtain ⟨o49, ho49, hf⟩ := g_bind hf
      obtain ⟨r50, hr50, hf⟩ := g_bind hf
      refine g_callV hx hb hml hl.1 hts hown hK hG hS (As := [.int 36, .int r48.1]) (rest := []) (tX8_small l D hr50) vX8_small mlX8_26 ho49 rfl rfl rfl rfl ⟨Nat.le_of_ble_eq_true rfl, Nat.le_of_ble_eq_true rfl⟩ rfl rfl (Nat.le_of_ble_eq_true rfl) ⟨Nat.le_of_ble_eq_true rfl, Nat.le_of_ble_eq_true rfl⟩ dX8_divides_63 (fun H locs hG hS => ?_)
      cases hf
      exact g_vret hx hb hr hlocks hG hS dX8_divides_66
  · rw [if_neg c3] at hf
    refine lv_aload_n hx hb dX8_divides_9 rfl (lv_at hl 0 rfl) ?_
    refine lv_iload_n hx hb dX8_divides_10 rfl (lv_at hl 1 rfl) ?_
    refine lv_bipush (v := 36) hx hb dX8_divides_11 (by decide +kernel) ?_
    obtain ⟨o51, ho51, hf⟩ := g_bind hf
    obtain ⟨r52, hr52, hf⟩ := g_bind hf
    refine g_callV hx hb hml hl.1 hts hown hK hG hS (As := [.int x1, .int 36]) (rest := []) (tX8_copy l D hr52) vX8_copy mlX8_51 ho51 rfl rfl rfl rfl ⟨Nat.le_of_ble_eq_true rfl, Nat.le_of_ble_eq_true rfl⟩ rfl rfl (Nat.le_of_ble_eq_true rfl) ⟨Nat.le_of_ble_eq_true rfl, Nat.le_of_ble_eq_true rfl⟩ dX8_divides_13 (fun H locs hG hS => ?_)
    refine lv_aload_n hx hb dX8_divides_16 rfl (lv_at hl 0 rfl) ?_
    obtain ⟨v53, hv53, hf⟩ := g_bind hf
    refine g_getr hx hb hts hown hK hG hv53 rfl iX8 (by decide) flX8_13 dX8_divides_17 ?_
    refine lv_bipush (v := 35) hx hb dX8_divides_20 (by decide +kernel) ?_
    refine lv_iconst (v := 0) hx hb dX8_divides_22 (by decide +kernel) ?_
    obtain ⟨σ54, hσ54, hf⟩ := g_bind hf
    refine g_iast hx hb hK hG hS hσ54 rfl dX8_divides_23 (fun H locs hG hS => ?_)
    cases hf
    exact g_vret hx hb hr hlocks hG hS dX8_divides_24

def rmX8_common : Room := { frames := 3, cells := 0, slots := 0, locals := 82 }
noncomputable def LX8_common_14  : Nat → g_S → Nat → Option (g_S)
  | 0, _, _ => none
  | n + 1, σ, x0 => (g_o σ 8 x0).bind fun o5 => (fX8_isZero σ x0 38).bind fun r6 => if r6.1 = 0 then ((g_o r6.2 8 x0).bind fun o10 => (fX8_divides r6.2 x0 37 38).bind fun r11 => (g_o r11 8 x0).bind fun o12 => (fX8_copy r11 x0 38 37).bind fun r13 => (g_o r13 8 x0).bind fun o14 => (fX8_copy r13 x0 36 38).bind fun r15 => (LX8_common_14  n) r15 x0) else ((g_o r6.2 8 x0).bind fun o8 => (fX8_copy r6.2 x0 37 39).bind fun r9 => some r9)
noncomputable def fX8_common (σ : g_S) (x0 : Nat) (x1 : Int32) (x2 : Int32) : Option (g_S) := (g_o σ 8 x0).bind fun o1 => (fX8_copy σ x0 x1 37).bind fun r2 => (g_o r2 8 x0).bind fun o3 => (fX8_copy r2 x0 x2 38).bind fun r4 => LX8_common_14 g_fuel r4 x0
set_option maxHeartbeats 4000000 in
set_option maxRecDepth 100000 in
theorem tLX8_common_14 {p : Program} {l : Launch} {e : Env} {s : State} {m : MethodId} {args : Array Value} {below : List Frame} {meth : Method} {c : Code} {D : g_D} {out : g_S} (C : g_C RX8 cX8_common 3 none True p s m args meth c) (hK : g_K D s)  : ∀ (n : Nat) (σ : g_S) (x0 : Nat) (H : Heap) (locs : List Loc) (ls : Array Slot), g_H D σ H → va_S (g_A D) s.heap H locs → lv_has ls 3 [(0, .ref x0)] → LX8_common_14  n σ x0 = some out → W p l e rmX8_common s m args below meth c H locs 0 0 (MQ below (g_Q D out (none)) args s 0 0 (g_A D)) (F0 m 14 ls [])  := by
  obtain ⟨hx, hb, hml, hown, hts, hr, hlocks, hin⟩ := id C
  intro n
  induction n with
  | zero => intro σ x0 H locs ls hG hS hl hf; cases hf
  | succ n ih =>
    intro σ x0 H locs ls hG hS hl hf
    have hf : ((g_o σ 8 x0).bind fun o5 => (fX8_isZero σ x0 38).bind fun r6 => if r6.1 = 0 then ((g_o r6.2 8 x0).bind fun o10 => (fX8_divides r6.2 x0 37 38).bind fun r11 => (g_o r11 8 x0).bind fun o12 => (fX8_copy r11 x0 38 37).bind fun r13 => (g_o r13 8 x0).bind fun o14 => (fX8_copy r13 x0 36 38).bind fun r15 => (LX8_common_14  n) r15 x0) else ((g_o r6.2 8 x0).bind fun o8 => (fX8_copy r6.2 x0 37 39).bind fun r9 => some r9)) = some out := hf
    have hk14 := ih
    refine lv_aload_n hx hb dX8_common_14 rfl (lv_at hl 0 rfl) ?_
    refine lv_bipush (v := 38) hx hb dX8_common_15 (by decide +kernel) ?_
    obtain ⟨o5, ho5, hf⟩ := g_bind hf
    obtain ⟨r6, hr6, hf⟩ := g_bind hf
    refine g_callV hx hb hml hl.1 hts hown hK hG hS (As := [.int 38]) (rest := []) (tX8_isZero l D hr6) vX8_isZero mlX8_73 ho5 rfl rfl rfl rfl ⟨Nat.le_of_ble_eq_true rfl, Nat.le_of_ble_eq_true rfl⟩ rfl rfl (Nat.le_of_ble_eq_true rfl) ⟨Nat.le_of_ble_eq_true rfl, Nat.le_of_ble_eq_true rfl⟩ dX8_common_17 (fun H locs hG hS => ?_)
    refine lv_if_ne (tgt := 50) hx hb dX8_common_20 (by decide) (fun c7 => ?_) (fun c7 => ?_)
    · rw [if_neg c7] at hf
      refine lv_aload_n hx hb dX8_common_50 rfl (lv_at hl 0 rfl) ?_
      refine lv_bipush (v := 37) hx hb dX8_common_51 (by decide +kernel) ?_
      refine lv_bipush (v := 39) hx hb dX8_common_53 (by decide +kernel) ?_
      obtain ⟨o8, ho8, hf⟩ := g_bind hf
      obtain ⟨r9, hr9, hf⟩ := g_bind hf
      refine g_callV hx hb hml hl.1 hts hown hK hG hS (As := [.int 37, .int 39]) (rest := []) (tX8_copy l D hr9) vX8_copy mlX8_51 ho8 rfl rfl rfl rfl ⟨Nat.le_of_ble_eq_true rfl, Nat.le_of_ble_eq_true rfl⟩ rfl rfl (Nat.le_of_ble_eq_true rfl) ⟨Nat.le_of_ble_eq_true rfl, Nat.le_of_ble_eq_true rfl⟩ dX8_common_55 (fun H locs hG hS => ?_)
      cases hf
      exact g_vret hx hb hr hlocks hG hS dX8_common_58
    · rw [if_pos c7] at hf
      refine lv_aload_n hx hb dX8_common_23 rfl (lv_at hl 0 rfl) ?_
      refine lv_bipush (v := 37) hx hb dX8_common_24 (by decide +kernel) ?_
      refine lv_bipush (v := 38) hx hb dX8_common_26 (by decide +kernel) ?_
      obtain ⟨o10, ho10, hf⟩ := g_bind hf
      obtain ⟨r11, hr11, hf⟩ := g_bind hf
      refine g_callV hx hb hml hl.1 hts hown hK hG hS (As := [.int 37, .int 38]) (rest := []) (tX8_divides l D hr11) vX8_divides mlX8_77 ho10 rfl rfl rfl rfl ⟨Nat.le_of_ble_eq_true rfl, Nat.le_of_ble_eq_true rfl⟩ rfl rfl (Nat.le_of_ble_eq_true rfl) ⟨Nat.le_of_ble_eq_true rfl, Nat.le_of_ble_eq_true rfl⟩ dX8_common_28 (fun H locs hG hS => ?_)
      refine lv_aload_n hx hb dX8_common_31 rfl (lv_at hl 0 rfl) ?_
      refine lv_bipush (v := 38) hx hb dX8_common_32 (by decide +kernel) ?_
      refine lv_bipush (v := 37) hx hb dX8_common_34 (by decide +kernel) ?_
      obtain ⟨o12, ho12, hf⟩ := g_bind hf
      obtain ⟨r13, hr13, hf⟩ := g_bind hf
      refine g_callV hx hb hml hl.1 hts hown hK hG hS (As := [.int 38, .int 37]) (rest := []) (tX8_copy l D hr13) vX8_copy mlX8_51 ho12 rfl rfl rfl rfl ⟨Nat.le_of_ble_eq_true rfl, Nat.le_of_ble_eq_true rfl⟩ rfl rfl (Nat.le_of_ble_eq_true rfl) ⟨Nat.le_of_ble_eq_true rfl, Nat.le_of_ble_eq_true rfl⟩ dX8_common_36 (fun H locs hG hS => ?_)
      refine lv_aload_n hx hb dX8_common_39 rfl (lv_at hl 0 rfl) ?_
      refine lv_bipush (v := 36) hx hb dX8_common_40 (by decide +kernel) ?_
      refine lv_bipush (v := 38) hx hb dX8_common_42 (by decide +kernel) ?_
      obtain ⟨o14, ho14, hf⟩ := g_bind hf
      obtain ⟨r15, hr15, hf⟩ := g_bind hf
      refine g_callV hx hb hml hl.1 hts hown hK hG hS (As := [.int 36, .int 38]) (rest := []) (tX8_copy l D hr15) vX8_copy mlX8_51 ho14 rfl rfl rfl rfl ⟨Nat.le_of_ble_eq_true rfl, Nat.le_of_ble_eq_true rfl⟩ rfl rfl (Nat.le_of_ble_eq_true rfl) ⟨Nat.le_of_ble_eq_true rfl, Nat.le_of_ble_eq_true rfl⟩ dX8_common_44 (fun H locs hG hS => ?_)
      refine lv_goto (tgt := 14) hx hb dX8_common_47 (by decide) ?_
      exact hk14 _ _ _ _ _ hG hS (lv_sub hl [0] rfl) hf

set_option maxHeartbeats 4000000 in
set_option maxRecDepth 100000 in
theorem tX8_common (l : Launch) (D : g_D) {σ : g_S} {x0 : Nat} {x1 : Int32} {x2 : Int32} {out : g_S} (hf : fX8_common σ x0 x1 x2 = some out) : Met l yX8_common (Cond.code yX8_common cX8_common 3 none :: lw_g) rmX8_common (g_P D σ [.ref x0, .int x1, .int x2]) (g_Q D out (none)) 0 0 (g_A D) := by
  refine Met.ofW (cc := cX8_common) (maxL := 3) (ret := none) (by decide +kernel) rfl ?_
  intro p e s m args below meth c s₁ B hml hv
  obtain ⟨rfl, hG, hK⟩ := hv
  have hts : ∀ w ∈ lw_g, w.before _ s = true := fun w h => atoms_spec (ws := (Cond.code yX8_common cX8_common 3 none :: lw_g)) B.pre w (List.mem_cons_of_mem _ h)
  have C : g_C RX8 cX8_common 3 none True p s m _ meth c := ⟨B.exec, B.bytes, hml, findClass_of_methodNamed B.named, hts, B.returns, B.notSynchronized, trivial⟩
  obtain ⟨hx, hb, hml, hown, hts, hr, hlocks, hin⟩ := id C
  have hS : va_S (g_A D) s.heap s.heap [] := va_S.rf
  have hl := lv_entry ([.ref x0, .int x1, .int x2]) (n := 3) (Nat.le_of_ble_eq_true rfl)
  rw [lg_entry_eq]
  generalize (lg_sl ([.ref x0, .int x1, .int x2]) ++ List.replicate (3 - (lg_sl ([.ref x0, .int x1, .int x2])).length) Slot.unset).toArray = ls at hl ⊢
  have hl : lv_has ls 3 [(0, .ref x0), (1, .int x1), (2, .int x2)] := hl
  unfold fX8_common at hf
  refine lv_aload_n hx hb dX8_common_0 rfl (lv_at hl 0 rfl) ?_
  refine lv_iload_n hx hb dX8_common_1 rfl (lv_at hl 1 rfl) ?_
  refine lv_bipush (v := 37) hx hb dX8_common_2 (by decide +kernel) ?_
  obtain ⟨o1, ho1, hf⟩ := g_bind hf
  obtain ⟨r2, hr2, hf⟩ := g_bind hf
  refine g_callV hx hb hml hl.1 hts hown hK hG hS (As := [.int x1, .int 37]) (rest := []) (tX8_copy l D hr2) vX8_copy mlX8_51 ho1 rfl rfl rfl rfl ⟨Nat.le_of_ble_eq_true rfl, Nat.le_of_ble_eq_true rfl⟩ rfl rfl (Nat.le_of_ble_eq_true rfl) ⟨Nat.le_of_ble_eq_true rfl, Nat.le_of_ble_eq_true rfl⟩ dX8_common_4 (fun H locs hG hS => ?_)
  refine lv_aload_n hx hb dX8_common_7 rfl (lv_at hl 0 rfl) ?_
  refine lv_iload_n hx hb dX8_common_8 rfl (lv_at hl 2 rfl) ?_
  refine lv_bipush (v := 38) hx hb dX8_common_9 (by decide +kernel) ?_
  obtain ⟨o3, ho3, hf⟩ := g_bind hf
  obtain ⟨r4, hr4, hf⟩ := g_bind hf
  refine g_callV hx hb hml hl.1 hts hown hK hG hS (As := [.int x2, .int 38]) (rest := []) (tX8_copy l D hr4) vX8_copy mlX8_51 ho3 rfl rfl rfl rfl ⟨Nat.le_of_ble_eq_true rfl, Nat.le_of_ble_eq_true rfl⟩ rfl rfl (Nat.le_of_ble_eq_true rfl) ⟨Nat.le_of_ble_eq_true rfl, Nat.le_of_ble_eq_true rfl⟩ dX8_common_11 (fun H locs hG hS => ?_)
  exact tLX8_common_14 C hK  g_fuel _ _ _ _ _ hG hS (lv_sub hl [0] rfl) hf

def rmX8_least : Room := { frames := 4, cells := 0, slots := 0, locals := 104 }
noncomputable def BX8_least_57  (σ : g_S)  : Option (g_S) := some σ
noncomputable def fX8_least (σ : g_S) (x0 : Nat) : Option (g_S) := (g_o σ 8 x0).bind fun o1 => (fX8_common σ x0 32 33).bind fun r2 => (g_o r2 8 x0).bind fun o3 => (fX8_isOne r2 x0 39).bind fun r4 => if r4.1 = 0 then ((g_o r4.2 8 x0).bind fun o6 => (fX8_divides r4.2 x0 32 39).bind fun r7 => (g_o r7 8 x0).bind fun o8 => (fX8_copy r7 x0 35 43).bind fun r9 => (g_o r9 8 x0).bind fun o10 => (fX8_divides r9 x0 33 39).bind fun r11 => (g_o r11 8 x0).bind fun o12 => (fX8_copy r11 x0 35 33).bind fun r13 => (g_o r13 8 x0).bind fun o14 => (fX8_copy r13 x0 43 32).bind fun r15 => BX8_least_57 r15) else (BX8_least_57 r4.2)
set_option maxHeartbeats 4000000 in
set_option maxRecDepth 100000 in
theorem tBX8_least_57 {p : Program} {l : Launch} {e : Env} {s : State} {m : MethodId} {args : Array Value} {below : List Frame} {meth : Method} {c : Code} {D : g_D} {out : g_S} (C : g_C RX8 cX8_least 1 none True p s m args meth c) (hK : g_K D s)  : ∀ (σ : g_S)  (H : Heap) (locs : List Loc) (ls : Array Slot), g_H D σ H → va_S (g_A D) s.heap H locs → lv_has ls 1 [] → BX8_least_57  σ  = some out → W p l e rmX8_least s m args below meth c H locs 0 0 (MQ below (g_Q D out (none)) args s 0 0 (g_A D)) (F0 m 57 ls []) := by
  obtain ⟨hx, hb, hml, hown, hts, hr, hlocks, hin⟩ := id C
  intro σ  H locs ls hG hS hl hf
  unfold BX8_least_57 at hf
  cases hf
  exact g_vret hx hb hr hlocks hG hS dX8_least_57

set_option maxHeartbeats 4000000 in
set_option maxRecDepth 100000 in
theorem tX8_least (l : Launch) (D : g_D) {σ : g_S} {x0 : Nat} {out : g_S} (hf : fX8_least σ x0 = some out) : Met l yX8_least (Cond.code yX8_least cX8_least 1 none :: lw_g) rmX8_least (g_P D σ [.ref x0]) (g_Q D out (none)) 0 0 (g_A D) := by
  refine Met.ofW (cc := cX8_least) (maxL := 1) (ret := none) (by decide +kernel) rfl ?_
  intro p e s m args below meth c s₁ B hml hv
  obtain ⟨rfl, hG, hK⟩ := hv
  have hts : ∀ w ∈ lw_g, w.before _ s = true := fun w h => atoms_spec (ws := (Cond.code yX8_least cX8_least 1 none :: lw_g)) B.pre w (List.mem_cons_of_mem _ h)
  have C : g_C RX8 cX8_least 1 none True p s m _ meth c := ⟨B.exec, B.bytes, hml, findClass_of_methodNamed B.named, hts, B.returns, B.notSynchronized, trivial⟩
  obtain ⟨hx, hb, hml, hown, hts, hr, hlocks, hin⟩ := id C
  have hS : va_S (g_A D) s.heap s.heap [] := va_S.rf
  have hl := lv_entry ([.ref x0]) (n := 1) (Nat.le_of_ble_eq_true rfl)
  rw [lg_entry_eq]
  generalize (lg_sl ([.ref x0]) ++ List.replicate (1 - (lg_sl ([.ref x0])).length) Slot.unset).toArray = ls at hl ⊢
  have hl : lv_has ls 1 [(0, .ref x0)] := hl
  unfold fX8_least at hf
  refine lv_aload_n hx hb dX8_least_0 rfl (lv_at hl 0 rfl) ?_
  refine lv_bipush (v := 32) hx hb dX8_least_1 (by decide +kernel) ?_
  refine lv_bipush (v := 33) hx hb dX8_least_3 (by decide +kernel) ?_
  obtain ⟨o1, ho1, hf⟩ := g_bind hf
  obtain ⟨r2, hr2, hf⟩ := g_bind hf
  refine g_callV hx hb hml hl.1 hts hown hK hG hS (As := [.int 32, .int 33]) (rest := []) (tX8_common l D hr2) vX8_common mlX8_80 ho1 rfl rfl rfl rfl ⟨Nat.le_of_ble_eq_true rfl, Nat.le_of_ble_eq_true rfl⟩ rfl rfl (Nat.le_of_ble_eq_true rfl) ⟨Nat.le_of_ble_eq_true rfl, Nat.le_of_ble_eq_true rfl⟩ dX8_least_5 (fun H locs hG hS => ?_)
  refine lv_aload_n hx hb dX8_least_8 rfl (lv_at hl 0 rfl) ?_
  refine lv_bipush (v := 39) hx hb dX8_least_9 (by decide +kernel) ?_
  obtain ⟨o3, ho3, hf⟩ := g_bind hf
  obtain ⟨r4, hr4, hf⟩ := g_bind hf
  refine g_callV hx hb hml hl.1 hts hown hK hG hS (As := [.int 39]) (rest := []) (tX8_isOne l D hr4) vX8_isOne mlX8_83 ho3 rfl rfl rfl rfl ⟨Nat.le_of_ble_eq_true rfl, Nat.le_of_ble_eq_true rfl⟩ rfl rfl (Nat.le_of_ble_eq_true rfl) ⟨Nat.le_of_ble_eq_true rfl, Nat.le_of_ble_eq_true rfl⟩ dX8_least_11 (fun H locs hG hS => ?_)
  refine lv_if_ne (tgt := 57) hx hb dX8_least_14 (by decide) (fun c5 => ?_) (fun c5 => ?_)
  · rw [if_neg c5] at hf
    exact tBX8_least_57 C hK   _  _ _ _ hG hS (lv_sub hl [] rfl) hf
  · rw [if_pos c5] at hf
    refine lv_aload_n hx hb dX8_least_17 rfl (lv_at hl 0 rfl) ?_
    refine lv_bipush (v := 32) hx hb dX8_least_18 (by decide +kernel) ?_
    refine lv_bipush (v := 39) hx hb dX8_least_20 (by decide +kernel) ?_
    obtain ⟨o6, ho6, hf⟩ := g_bind hf
    obtain ⟨r7, hr7, hf⟩ := g_bind hf
    refine g_callV hx hb hml hl.1 hts hown hK hG hS (As := [.int 32, .int 39]) (rest := []) (tX8_divides l D hr7) vX8_divides mlX8_77 ho6 rfl rfl rfl rfl ⟨Nat.le_of_ble_eq_true rfl, Nat.le_of_ble_eq_true rfl⟩ rfl rfl (Nat.le_of_ble_eq_true rfl) ⟨Nat.le_of_ble_eq_true rfl, Nat.le_of_ble_eq_true rfl⟩ dX8_least_22 (fun H locs hG hS => ?_)
    refine lv_aload_n hx hb dX8_least_25 rfl (lv_at hl 0 rfl) ?_
    refine lv_bipush (v := 35) hx hb dX8_least_26 (by decide +kernel) ?_
    refine lv_bipush (v := 43) hx hb dX8_least_28 (by decide +kernel) ?_
    obtain ⟨o8, ho8, hf⟩ := g_bind hf
    obtain ⟨r9, hr9, hf⟩ := g_bind hf
    refine g_callV hx hb hml hl.1 hts hown hK hG hS (As := [.int 35, .int 43]) (rest := []) (tX8_copy l D hr9) vX8_copy mlX8_51 ho8 rfl rfl rfl rfl ⟨Nat.le_of_ble_eq_true rfl, Nat.le_of_ble_eq_true rfl⟩ rfl rfl (Nat.le_of_ble_eq_true rfl) ⟨Nat.le_of_ble_eq_true rfl, Nat.le_of_ble_eq_true rfl⟩ dX8_least_30 (fun H locs hG hS => ?_)
    refine lv_aload_n hx hb dX8_least_33 rfl (lv_at hl 0 rfl) ?_
    refine lv_bipush (v := 33) hx hb dX8_least_34 (by decide +kernel) ?_
    refine lv_bipush (v := 39) hx hb dX8_least_36 (by decide +kernel) ?_
    obtain ⟨o10, ho10, hf⟩ := g_bind hf
    obtain ⟨r11, hr11, hf⟩ := g_bind hf
    refine g_callV hx hb hml hl.1 hts hown hK hG hS (As := [.int 33, .int 39]) (rest := []) (tX8_divides l D hr11) vX8_divides mlX8_77 ho10 rfl rfl rfl rfl ⟨Nat.le_of_ble_eq_true rfl, Nat.le_of_ble_eq_true rfl⟩ rfl rfl (Nat.le_of_ble_eq_true rfl) ⟨Nat.le_of_ble_eq_true rfl, Nat.le_of_ble_eq_true rfl⟩ dX8_least_38 (fun H locs hG hS => ?_)
    refine lv_aload_n hx hb dX8_least_41 rfl (lv_at hl 0 rfl) ?_
    refine lv_bipush (v := 35) hx hb dX8_least_42 (by decide +kernel) ?_
    refine lv_bipush (v := 33) hx hb dX8_least_44 (by decide +kernel) ?_
    obtain ⟨o12, ho12, hf⟩ := g_bind hf
    obtain ⟨r13, hr13, hf⟩ := g_bind hf
    refine g_callV hx hb hml hl.1 hts hown hK hG hS (As := [.int 35, .int 33]) (rest := []) (tX8_copy l D hr13) vX8_copy mlX8_51 ho12 rfl rfl rfl rfl ⟨Nat.le_of_ble_eq_true rfl, Nat.le_of_ble_eq_true rfl⟩ rfl rfl (Nat.le_of_ble_eq_true rfl) ⟨Nat.le_of_ble_eq_true rfl, Nat.le_of_ble_eq_true rfl⟩ dX8_least_46 (fun H locs hG hS => ?_)
    refine lv_aload_n hx hb dX8_least_49 rfl (lv_at hl 0 rfl) ?_
    refine lv_bipush (v := 43) hx hb dX8_least_50 (by decide +kernel) ?_
    refine lv_bipush (v := 32) hx hb dX8_least_52 (by decide +kernel) ?_
    obtain ⟨o14, ho14, hf⟩ := g_bind hf
    obtain ⟨r15, hr15, hf⟩ := g_bind hf
    refine g_callV hx hb hml hl.1 hts hown hK hG hS (As := [.int 43, .int 32]) (rest := []) (tX8_copy l D hr15) vX8_copy mlX8_51 ho14 rfl rfl rfl rfl ⟨Nat.le_of_ble_eq_true rfl, Nat.le_of_ble_eq_true rfl⟩ rfl rfl (Nat.le_of_ble_eq_true rfl) ⟨Nat.le_of_ble_eq_true rfl, Nat.le_of_ble_eq_true rfl⟩ dX8_least_54 (fun H locs hG hS => ?_)
    exact tBX8_least_57 C hK   _  _ _ _ hG hS (lv_sub hl [] rfl) hf

def rmX8_isTooGreat : Room := { frames := 0, cells := 0, slots := 0, locals := 0 }
noncomputable def BX8_isTooGreat_17  (σ : g_S) (y0 : Int32) : Option (Int32 × g_S) := g_if (y0 = 0 ∨ y0 = 1) <| some (y0, σ)
noncomputable def fX8_isTooGreat (σ : g_S) (x0 : Nat) (x1 : Int32) : Option (Int32 × g_S) := (g_fr σ 8 x0 2).bind fun v1 => (g_li σ 0 v1 x1).bind fun v2 => if v2 ≤ 128 then (BX8_isTooGreat_17 σ 0) else (BX8_isTooGreat_17 σ 1)
set_option maxHeartbeats 4000000 in
set_option maxRecDepth 100000 in
theorem tBX8_isTooGreat_17 {p : Program} {l : Launch} {e : Env} {s : State} {m : MethodId} {args : Array Value} {below : List Frame} {meth : Method} {c : Code} {D : g_D} {out : Int32 × g_S} (C : g_C RX8 cX8_isTooGreat 2 (some .boolean) True p s m args meth c) (hK : g_K D s)  : ∀ (σ : g_S) (y0 : Int32) (H : Heap) (locs : List Loc) (ls : Array Slot), g_H D σ H → va_S (g_A D) s.heap H locs → lv_has ls 2 [] → BX8_isTooGreat_17  σ y0 = some out → W p l e rmX8_isTooGreat s m args below meth c H locs 0 0 (MQ below (g_Q D out.2 (some (.int out.1))) args s 0 0 (g_A D)) (F0 m 17 ls [.int y0]) := by
  obtain ⟨hx, hb, hml, hown, hts, hr, hlocks, hin⟩ := id C
  intro σ y0 H locs ls hG hS hl hf
  unfold BX8_isTooGreat_17 at hf
  obtain ⟨z4, hf⟩ := g_if_spec hf
  cases hf
  exact g_zret hx hb hr hlocks z4 hG hS dX8_isTooGreat_17

set_option maxHeartbeats 4000000 in
set_option maxRecDepth 100000 in
theorem tX8_isTooGreat (l : Launch) (D : g_D) {σ : g_S} {x0 : Nat} {x1 : Int32} {out : Int32 × g_S} (hf : fX8_isTooGreat σ x0 x1 = some out) : Met l yX8_isTooGreat (Cond.code yX8_isTooGreat cX8_isTooGreat 2 (some .boolean) :: lw_g) rmX8_isTooGreat (g_P D σ [.ref x0, .int x1]) (g_Q D out.2 (some (.int out.1))) 0 0 (g_A D) := by
  refine Met.ofW (cc := cX8_isTooGreat) (maxL := 2) (ret := (some .boolean)) (by decide +kernel) rfl ?_
  intro p e s m args below meth c s₁ B hml hv
  obtain ⟨rfl, hG, hK⟩ := hv
  have hts : ∀ w ∈ lw_g, w.before _ s = true := fun w h => atoms_spec (ws := (Cond.code yX8_isTooGreat cX8_isTooGreat 2 (some .boolean) :: lw_g)) B.pre w (List.mem_cons_of_mem _ h)
  have C : g_C RX8 cX8_isTooGreat 2 (some .boolean) True p s m _ meth c := ⟨B.exec, B.bytes, hml, findClass_of_methodNamed B.named, hts, B.returns, B.notSynchronized, trivial⟩
  obtain ⟨hx, hb, hml, hown, hts, hr, hlocks, hin⟩ := id C
  have hS : va_S (g_A D) s.heap s.heap [] := va_S.rf
  have hl := lv_entry ([.ref x0, .int x1]) (n := 2) (Nat.le_of_ble_eq_true rfl)
  rw [lg_entry_eq]
  generalize (lg_sl ([.ref x0, .int x1]) ++ List.replicate (2 - (lg_sl ([.ref x0, .int x1])).length) Slot.unset).toArray = ls at hl ⊢
  have hl : lv_has ls 2 [(0, .ref x0), (1, .int x1)] := hl
  unfold fX8_isTooGreat at hf
  refine lv_aload_n hx hb dX8_isTooGreat_0 rfl (lv_at hl 0 rfl) ?_
  obtain ⟨v1, hv1, hf⟩ := g_bind hf
  refine g_getr hx hb hts hown hK hG hv1 rfl iX8 (by decide) flX8_13 dX8_isTooGreat_1 ?_
  refine lv_iload_n hx hb dX8_isTooGreat_4 rfl (lv_at hl 1 rfl) ?_
  obtain ⟨v2, hv2, hf⟩ := g_bind hf
  refine g_iald hx hb hK hG hv2 rfl dX8_isTooGreat_5 ?_
  refine lv_sipush (v := 128) hx hb dX8_isTooGreat_6 (by decide +kernel) ?_
  refine lv_icmp_le (tgt := 16) hx hb dX8_isTooGreat_9 (by decide) (fun c3 => ?_) (fun c3 => ?_)
  · rw [if_pos c3] at hf
    refine lv_iconst (v := 0) hx hb dX8_isTooGreat_16 (by decide +kernel) ?_
    exact tBX8_isTooGreat_17 C hK   _ _ _ _ _ hG hS (lv_sub hl [] rfl) hf
  · rw [if_neg c3] at hf
    refine lv_iconst (v := 1) hx hb dX8_isTooGreat_12 (by decide +kernel) ?_
    refine lv_goto (tgt := 17) hx hb dX8_isTooGreat_13 (by decide) ?_
    exact tBX8_isTooGreat_17 C hK   _ _ _ _ _ hG hS (lv_sub hl [] rfl) hf

def rmX8_holds : Room := { frames := 2, cells := 0, slots := 0, locals := 46 }
noncomputable def BX8_holds_18  (σ : g_S)  : Option (Int32 × g_S) := some ((-3), σ)
noncomputable def BX8_holds_64  (σ : g_S) (y0 : Nat) (y1 : Int32) (y2 : Int32) : Option (Int32 × g_S) := (g_si σ 5 y0 y1 (vp_nar .boolean y2)).bind fun σ13 => some (0, σ13)
noncomputable def BX8_holds_63  (σ : g_S) (y0 : Nat) (y1 : Int32) : Option (Int32 × g_S) := BX8_holds_64 σ y0 y1 0
noncomputable def fX8_holds (σ : g_S) (x0 : Nat) (x1 : Int32) (x2 : Int32) : Option (Int32 × g_S) := (g_o σ 8 x0).bind fun o1 => (fX8_isTooGreat σ x0 32).bind fun r2 => if r2.1 = 0 then ((g_o r2.2 8 x0).bind fun o4 => (fX8_isTooGreat r2.2 x0 33).bind fun r5 => if r5.1 = 0 then ((g_o r5.2 8 x0).bind fun o7 => (fX8_copy r5.2 x0 32 (2 * x1)).bind fun r8 => (g_o r8 8 x0).bind fun o9 => (fX8_copy r8 x0 33 ((2 * x1) + 1)).bind fun r10 => (g_fr r10 8 x0 3).bind fun v11 => if x2 = 0 then (BX8_holds_63 r10 v11 x1) else ((g_o r10 8 x0).bind fun o14 => (fX8_isZero r10 x0 32).bind fun r15 => if r15.1 = 0 then (BX8_holds_64 r15.2 v11 x1 1) else (BX8_holds_63 r15.2 v11 x1))) else (BX8_holds_18 r5.2)) else (BX8_holds_18 r2.2)
set_option maxHeartbeats 4000000 in
set_option maxRecDepth 100000 in
theorem tBX8_holds_18 {p : Program} {l : Launch} {e : Env} {s : State} {m : MethodId} {args : Array Value} {below : List Frame} {meth : Method} {c : Code} {D : g_D} {out : Int32 × g_S} (C : g_C RX8 cX8_holds 3 (some .int) True p s m args meth c) (hK : g_K D s)  : ∀ (σ : g_S)  (H : Heap) (locs : List Loc) (ls : Array Slot), g_H D σ H → va_S (g_A D) s.heap H locs → lv_has ls 3 [] → BX8_holds_18  σ  = some out → W p l e rmX8_holds s m args below meth c H locs 0 0 (MQ below (g_Q D out.2 (some (.int out.1))) args s 0 0 (g_A D)) (F0 m 18 ls []) := by
  obtain ⟨hx, hb, hml, hown, hts, hr, hlocks, hin⟩ := id C
  intro σ  H locs ls hG hS hl hf
  unfold BX8_holds_18 at hf
  refine lv_bipush (v := (-3)) hx hb dX8_holds_18 (by decide +kernel) ?_
  cases hf
  exact g_iret hx hb hr hlocks hG hS dX8_holds_20

set_option maxHeartbeats 4000000 in
set_option maxRecDepth 100000 in
theorem tBX8_holds_64 {p : Program} {l : Launch} {e : Env} {s : State} {m : MethodId} {args : Array Value} {below : List Frame} {meth : Method} {c : Code} {D : g_D} {out : Int32 × g_S} (C : g_C RX8 cX8_holds 3 (some .int) True p s m args meth c) (hK : g_K D s)  : ∀ (σ : g_S) (y0 : Nat) (y1 : Int32) (y2 : Int32) (H : Heap) (locs : List Loc) (ls : Array Slot), g_H D σ H → va_S (g_A D) s.heap H locs → lv_has ls 3 [] → BX8_holds_64  σ y0 y1 y2 = some out → W p l e rmX8_holds s m args below meth c H locs 0 0 (MQ below (g_Q D out.2 (some (.int out.1))) args s 0 0 (g_A D)) (F0 m 64 ls [.int y2, .int y1, .ref y0]) := by
  obtain ⟨hx, hb, hml, hown, hts, hr, hlocks, hin⟩ := id C
  intro σ y0 y1 y2 H locs ls hG hS hl hf
  unfold BX8_holds_64 at hf
  obtain ⟨σ13, hσ13, hf⟩ := g_bind hf
  refine g_zast hx hb hK hG hS hσ13 rfl dX8_holds_64 (fun H locs hG hS => ?_)
  refine lv_iconst (v := 0) hx hb dX8_holds_65 (by decide +kernel) ?_
  cases hf
  exact g_iret hx hb hr hlocks hG hS dX8_holds_66

set_option maxHeartbeats 4000000 in
set_option maxRecDepth 100000 in
theorem tBX8_holds_63 {p : Program} {l : Launch} {e : Env} {s : State} {m : MethodId} {args : Array Value} {below : List Frame} {meth : Method} {c : Code} {D : g_D} {out : Int32 × g_S} (C : g_C RX8 cX8_holds 3 (some .int) True p s m args meth c) (hK : g_K D s)  : ∀ (σ : g_S) (y0 : Nat) (y1 : Int32) (H : Heap) (locs : List Loc) (ls : Array Slot), g_H D σ H → va_S (g_A D) s.heap H locs → lv_has ls 3 [] → BX8_holds_63  σ y0 y1 = some out → W p l e rmX8_holds s m args below meth c H locs 0 0 (MQ below (g_Q D out.2 (some (.int out.1))) args s 0 0 (g_A D)) (F0 m 63 ls [.int y1, .ref y0]) := by
  obtain ⟨hx, hb, hml, hown, hts, hr, hlocks, hin⟩ := id C
  intro σ y0 y1 H locs ls hG hS hl hf
  unfold BX8_holds_63 at hf
  refine lv_iconst (v := 0) hx hb dX8_holds_63 (by decide +kernel) ?_
  exact tBX8_holds_64 C hK   _ _ _ _ _ _ _ hG hS (lv_sub hl [] rfl) hf

set_option maxHeartbeats 4000000 in
set_option maxRecDepth 100000 in
theorem tX8_holds (l : Launch) (D : g_D) {σ : g_S} {x0 : Nat} {x1 : Int32} {x2 : Int32} {out : Int32 × g_S} (hf : fX8_holds σ x0 x1 x2 = some out) : Met l yX8_holds (Cond.code yX8_holds cX8_holds 3 (some .int) :: lw_g) rmX8_holds (g_P D σ [.ref x0, .int x1, .int x2]) (g_Q D out.2 (some (.int out.1))) 0 0 (g_A D) := by
  refine Met.ofW (cc := cX8_holds) (maxL := 3) (ret := (some .int)) (by decide +kernel) rfl ?_
  intro p e s m args below meth c s₁ B hml hv
  obtain ⟨rfl, hG, hK⟩ := hv
  have hts : ∀ w ∈ lw_g, w.before _ s = true := fun w h => atoms_spec (ws := (Cond.code yX8_holds cX8_holds 3 (some .int) :: lw_g)) B.pre w (List.mem_cons_of_mem _ h)
  have C : g_C RX8 cX8_holds 3 (some .int) True p s m _ meth c := ⟨B.exec, B.bytes, hml, findClass_of_methodNamed B.named, hts, B.returns, B.notSynchronized, trivial⟩
  obtain ⟨hx, hb, hml, hown, hts, hr, hlocks, hin⟩ := id C
  have hS : va_S (g_A D) s.heap s.heap [] := va_S.rf
  have hl := lv_entry ([.ref x0, .int x1, .int x2]) (n := 3) (Nat.le_of_ble_eq_true rfl)
  rw [lg_entry_eq]
  generalize (lg_sl ([.ref x0, .int x1, .int x2]) ++ List.replicate (3 - (lg_sl ([.ref x0, .int x1, .int x2])).length) Slot.unset).toArray = ls at hl ⊢
  have hl : lv_has ls 3 [(0, .ref x0), (1, .int x1), (2, .int x2)] := hl
  unfold fX8_holds at hf
  refine lv_aload_n hx hb dX8_holds_0 rfl (lv_at hl 0 rfl) ?_
  refine lv_bipush (v := 32) hx hb dX8_holds_1 (by decide +kernel) ?_
  obtain ⟨o1, ho1, hf⟩ := g_bind hf
  obtain ⟨r2, hr2, hf⟩ := g_bind hf
  refine g_callV hx hb hml hl.1 hts hown hK hG hS (As := [.int 32]) (rest := []) (tX8_isTooGreat l D hr2) vX8_isTooGreat mlX8_86 ho1 rfl rfl rfl rfl ⟨Nat.le_of_ble_eq_true rfl, Nat.le_of_ble_eq_true rfl⟩ rfl rfl (Nat.le_of_ble_eq_true rfl) ⟨Nat.le_of_ble_eq_true rfl, Nat.le_of_ble_eq_true rfl⟩ dX8_holds_3 (fun H locs hG hS => ?_)
  refine lv_if_ne (tgt := 18) hx hb dX8_holds_6 (by decide) (fun c3 => ?_) (fun c3 => ?_)
  · rw [if_neg c3] at hf
    exact tBX8_holds_18 C hK   _  _ _ _ hG hS (lv_sub hl [] rfl) hf
  · rw [if_pos c3] at hf
    refine lv_aload_n hx hb dX8_holds_9 rfl (lv_at hl 0 rfl) ?_
    refine lv_bipush (v := 33) hx hb dX8_holds_10 (by decide +kernel) ?_
    obtain ⟨o4, ho4, hf⟩ := g_bind hf
    obtain ⟨r5, hr5, hf⟩ := g_bind hf
    refine g_callV hx hb hml hl.1 hts hown hK hG hS (As := [.int 33]) (rest := []) (tX8_isTooGreat l D hr5) vX8_isTooGreat mlX8_86 ho4 rfl rfl rfl rfl ⟨Nat.le_of_ble_eq_true rfl, Nat.le_of_ble_eq_true rfl⟩ rfl rfl (Nat.le_of_ble_eq_true rfl) ⟨Nat.le_of_ble_eq_true rfl, Nat.le_of_ble_eq_true rfl⟩ dX8_holds_12 (fun H locs hG hS => ?_)
    refine lv_if_eq (tgt := 21) hx hb dX8_holds_15 (by decide) (fun c6 => ?_) (fun c6 => ?_)
    · rw [if_pos c6] at hf
      refine lv_aload_n hx hb dX8_holds_21 rfl (lv_at hl 0 rfl) ?_
      refine lv_bipush (v := 32) hx hb dX8_holds_22 (by decide +kernel) ?_
      refine lv_iconst (v := 2) hx hb dX8_holds_24 (by decide +kernel) ?_
      refine lv_iload_n hx hb dX8_holds_25 rfl (lv_at hl 1 rfl) ?_
      refine lv_imul hx hb dX8_holds_26 ?_
      obtain ⟨o7, ho7, hf⟩ := g_bind hf
      obtain ⟨r8, hr8, hf⟩ := g_bind hf
      refine g_callV hx hb hml hl.1 hts hown hK hG hS (As := [.int 32, .int (2 * x1)]) (rest := []) (tX8_copy l D hr8) vX8_copy mlX8_51 ho7 rfl rfl rfl rfl ⟨Nat.le_of_ble_eq_true rfl, Nat.le_of_ble_eq_true rfl⟩ rfl rfl (Nat.le_of_ble_eq_true rfl) ⟨Nat.le_of_ble_eq_true rfl, Nat.le_of_ble_eq_true rfl⟩ dX8_holds_27 (fun H locs hG hS => ?_)
      refine lv_aload_n hx hb dX8_holds_30 rfl (lv_at hl 0 rfl) ?_
      refine lv_bipush (v := 33) hx hb dX8_holds_31 (by decide +kernel) ?_
      refine lv_iconst (v := 2) hx hb dX8_holds_33 (by decide +kernel) ?_
      refine lv_iload_n hx hb dX8_holds_34 rfl (lv_at hl 1 rfl) ?_
      refine lv_imul hx hb dX8_holds_35 ?_
      refine lv_iconst (v := 1) hx hb dX8_holds_36 (by decide +kernel) ?_
      refine lv_iadd hx hb dX8_holds_37 ?_
      obtain ⟨o9, ho9, hf⟩ := g_bind hf
      obtain ⟨r10, hr10, hf⟩ := g_bind hf
      refine g_callV hx hb hml hl.1 hts hown hK hG hS (As := [.int 33, .int ((2 * x1) + 1)]) (rest := []) (tX8_copy l D hr10) vX8_copy mlX8_51 ho9 rfl rfl rfl rfl ⟨Nat.le_of_ble_eq_true rfl, Nat.le_of_ble_eq_true rfl⟩ rfl rfl (Nat.le_of_ble_eq_true rfl) ⟨Nat.le_of_ble_eq_true rfl, Nat.le_of_ble_eq_true rfl⟩ dX8_holds_38 (fun H locs hG hS => ?_)
      refine lv_aload_n hx hb dX8_holds_41 rfl (lv_at hl 0 rfl) ?_
      obtain ⟨v11, hv11, hf⟩ := g_bind hf
      refine g_getr hx hb hts hown hK hG hv11 rfl iX8 (by decide) flX8_16 dX8_holds_42 ?_
      refine lv_iload_n hx hb dX8_holds_45 rfl (lv_at hl 1 rfl) ?_
      refine lv_iload_n hx hb dX8_holds_46 rfl (lv_at hl 2 rfl) ?_
      refine lv_if_eq (tgt := 63) hx hb dX8_holds_47 (by decide) (fun c12 => ?_) (fun c12 => ?_)
      · rw [if_pos c12] at hf
        exact tBX8_holds_63 C hK   _ _ _ _ _ _ hG hS (lv_sub hl [] rfl) hf
      · rw [if_neg c12] at hf
        refine lv_aload_n hx hb dX8_holds_50 rfl (lv_at hl 0 rfl) ?_
        refine lv_bipush (v := 32) hx hb dX8_holds_51 (by decide +kernel) ?_
        obtain ⟨o14, ho14, hf⟩ := g_bind hf
        obtain ⟨r15, hr15, hf⟩ := g_bind hf
        refine g_callV hx hb hml hl.1 hts hown hK hG hS (As := [.int 32]) (rest := [.int x1, .ref v11]) (tX8_isZero l D hr15) vX8_isZero mlX8_73 ho14 rfl rfl rfl rfl ⟨Nat.le_of_ble_eq_true rfl, Nat.le_of_ble_eq_true rfl⟩ rfl rfl (Nat.le_of_ble_eq_true rfl) ⟨Nat.le_of_ble_eq_true rfl, Nat.le_of_ble_eq_true rfl⟩ dX8_holds_53 (fun H locs hG hS => ?_)
        refine lv_if_ne (tgt := 63) hx hb dX8_holds_56 (by decide) (fun c16 => ?_) (fun c16 => ?_)
        · rw [if_neg c16] at hf
          exact tBX8_holds_63 C hK   _ _ _ _ _ _ hG hS (lv_sub hl [] rfl) hf
        · rw [if_pos c16] at hf
          refine lv_iconst (v := 1) hx hb dX8_holds_59 (by decide +kernel) ?_
          refine lv_goto (tgt := 64) hx hb dX8_holds_60 (by decide) ?_
          exact tBX8_holds_64 C hK   _ _ _ _ _ _ _ hG hS (lv_sub hl [] rfl) hf
    · rw [if_neg c6] at hf
      exact tBX8_holds_18 C hK   _  _ _ _ hG hS (lv_sub hl [] rfl) hf

def rmX8_isPlace : Room := { frames := 0, cells := 0, slots := 0, locals := 0 }
noncomputable def BX8_isPlace_15  (σ : g_S) (y0 : Int32) : Option (Int32 × g_S) := g_if (y0 = 0 ∨ y0 = 1) <| some (y0, σ)
noncomputable def BX8_isPlace_14  (σ : g_S)  : Option (Int32 × g_S) := BX8_isPlace_15 σ 0
noncomputable def fX8_isPlace (σ : g_S) (x0 : Int32) : Option (Int32 × g_S) := if x0 < 0 then (BX8_isPlace_14 σ) else (if 16 ≤ x0 then (BX8_isPlace_14 σ) else (BX8_isPlace_15 σ 1))
set_option maxHeartbeats 4000000 in
set_option maxRecDepth 100000 in
theorem tBX8_isPlace_15 {p : Program} {l : Launch} {e : Env} {s : State} {m : MethodId} {args : Array Value} {below : List Frame} {meth : Method} {c : Code} {D : g_D} {out : Int32 × g_S} (C : g_C RX8 cX8_isPlace 1 (some .boolean) True p s m args meth c) (hK : g_K D s)  : ∀ (σ : g_S) (y0 : Int32) (H : Heap) (locs : List Loc) (ls : Array Slot), g_H D σ H → va_S (g_A D) s.heap H locs → lv_has ls 1 [] → BX8_isPlace_15  σ y0 = some out → W p l e rmX8_isPlace s m args below meth c H locs 0 0 (MQ below (g_Q D out.2 (some (.int out.1))) args s 0 0 (g_A D)) (F0 m 15 ls [.int y0]) := by
  obtain ⟨hx, hb, hml, hown, hts, hr, hlocks, hin⟩ := id C
  intro σ y0 H locs ls hG hS hl hf
  unfold BX8_isPlace_15 at hf
  obtain ⟨z2, hf⟩ := g_if_spec hf
  cases hf
  exact g_zret hx hb hr hlocks z2 hG hS dX8_isPlace_15

set_option maxHeartbeats 4000000 in
set_option maxRecDepth 100000 in
theorem tBX8_isPlace_14 {p : Program} {l : Launch} {e : Env} {s : State} {m : MethodId} {args : Array Value} {below : List Frame} {meth : Method} {c : Code} {D : g_D} {out : Int32 × g_S} (C : g_C RX8 cX8_isPlace 1 (some .boolean) True p s m args meth c) (hK : g_K D s)  : ∀ (σ : g_S)  (H : Heap) (locs : List Loc) (ls : Array Slot), g_H D σ H → va_S (g_A D) s.heap H locs → lv_has ls 1 [] → BX8_isPlace_14  σ  = some out → W p l e rmX8_isPlace s m args below meth c H locs 0 0 (MQ below (g_Q D out.2 (some (.int out.1))) args s 0 0 (g_A D)) (F0 m 14 ls []) := by
  obtain ⟨hx, hb, hml, hown, hts, hr, hlocks, hin⟩ := id C
  intro σ  H locs ls hG hS hl hf
  unfold BX8_isPlace_14 at hf
  refine lv_iconst (v := 0) hx hb dX8_isPlace_14 (by decide +kernel) ?_
  exact tBX8_isPlace_15 C hK   _ _ _ _ _ hG hS (lv_sub hl [] rfl) hf

set_option maxHeartbeats 4000000 in
set_option maxRecDepth 100000 in
theorem tX8_isPlace (l : Launch) (D : g_D) {σ : g_S} {x0 : Int32} {out : Int32 × g_S} (hf : fX8_isPlace σ x0 = some out) : Met l yX8_isPlace (Cond.code yX8_isPlace cX8_isPlace 1 (some .boolean) :: lw_g) rmX8_isPlace (g_P D σ [.int x0]) (g_Q D out.2 (some (.int out.1))) 0 0 (g_A D) := by
  refine Met.ofW (cc := cX8_isPlace) (maxL := 1) (ret := (some .boolean)) (by decide +kernel) rfl ?_
  intro p e s m args below meth c s₁ B hml hv
  obtain ⟨rfl, hG, hK⟩ := hv
  have hts : ∀ w ∈ lw_g, w.before _ s = true := fun w h => atoms_spec (ws := (Cond.code yX8_isPlace cX8_isPlace 1 (some .boolean) :: lw_g)) B.pre w (List.mem_cons_of_mem _ h)
  have C : g_C RX8 cX8_isPlace 1 (some .boolean) True p s m _ meth c := ⟨B.exec, B.bytes, hml, findClass_of_methodNamed B.named, hts, B.returns, B.notSynchronized, trivial⟩
  obtain ⟨hx, hb, hml, hown, hts, hr, hlocks, hin⟩ := id C
  have hS : va_S (g_A D) s.heap s.heap [] := va_S.rf
  have hl := lv_entry ([.int x0]) (n := 1) (Nat.le_of_ble_eq_true rfl)
  rw [lg_entry_eq]
  generalize (lg_sl ([.int x0]) ++ List.replicate (1 - (lg_sl ([.int x0])).length) Slot.unset).toArray = ls at hl ⊢
  have hl : lv_has ls 1 [(0, .int x0)] := hl
  unfold fX8_isPlace at hf
  refine lv_iload_n hx hb dX8_isPlace_0 rfl (lv_at hl 0 rfl) ?_
  refine lv_if_lt (tgt := 14) hx hb dX8_isPlace_1 (by decide) (fun c1 => ?_) (fun c1 => ?_)
  · rw [if_pos c1] at hf
    exact tBX8_isPlace_14 C hK   _  _ _ _ hG hS (lv_sub hl [] rfl) hf
  · rw [if_neg c1] at hf
    refine lv_iload_n hx hb dX8_isPlace_4 rfl (lv_at hl 0 rfl) ?_
    refine lv_bipush (v := 16) hx hb dX8_isPlace_5 (by decide +kernel) ?_
    refine lv_icmp_ge (tgt := 14) hx hb dX8_isPlace_7 (by decide) (fun c3 => ?_) (fun c3 => ?_)
    · rw [if_pos c3] at hf
      exact tBX8_isPlace_14 C hK   _  _ _ _ hG hS (lv_sub hl [] rfl) hf
    · rw [if_neg c3] at hf
      refine lv_iconst (v := 1) hx hb dX8_isPlace_10 (by decide +kernel) ?_
      refine lv_goto (tgt := 15) hx hb dX8_isPlace_11 (by decide) ?_
      exact tBX8_isPlace_15 C hK   _ _ _ _ _ hG hS (lv_sub hl [] rfl) hf

def rmX8_isWhole : Room := { frames := 1, cells := 0, slots := 0, locals := 21 }
noncomputable def fX8_isWhole (σ : g_S) (x0 : Nat) (x1 : Int32) : Option (Int32 × g_S) := (g_o σ 8 x0).bind fun o1 => (fX8_isOne σ x0 ((2 * x1) + 1)).bind fun r2 => g_if (r2.1 = 0 ∨ r2.1 = 1) <| some (r2.1, r2.2)
set_option maxHeartbeats 4000000 in
set_option maxRecDepth 100000 in
theorem tX8_isWhole (l : Launch) (D : g_D) {σ : g_S} {x0 : Nat} {x1 : Int32} {out : Int32 × g_S} (hf : fX8_isWhole σ x0 x1 = some out) : Met l yX8_isWhole (Cond.code yX8_isWhole cX8_isWhole 2 (some .boolean) :: lw_g) rmX8_isWhole (g_P D σ [.ref x0, .int x1]) (g_Q D out.2 (some (.int out.1))) 0 0 (g_A D) := by
  refine Met.ofW (cc := cX8_isWhole) (maxL := 2) (ret := (some .boolean)) (by decide +kernel) rfl ?_
  intro p e s m args below meth c s₁ B hml hv
  obtain ⟨rfl, hG, hK⟩ := hv
  have hts : ∀ w ∈ lw_g, w.before _ s = true := fun w h => atoms_spec (ws := (Cond.code yX8_isWhole cX8_isWhole 2 (some .boolean) :: lw_g)) B.pre w (List.mem_cons_of_mem _ h)
  have C : g_C RX8 cX8_isWhole 2 (some .boolean) True p s m _ meth c := ⟨B.exec, B.bytes, hml, findClass_of_methodNamed B.named, hts, B.returns, B.notSynchronized, trivial⟩
  obtain ⟨hx, hb, hml, hown, hts, hr, hlocks, hin⟩ := id C
  have hS : va_S (g_A D) s.heap s.heap [] := va_S.rf
  have hl := lv_entry ([.ref x0, .int x1]) (n := 2) (Nat.le_of_ble_eq_true rfl)
  rw [lg_entry_eq]
  generalize (lg_sl ([.ref x0, .int x1]) ++ List.replicate (2 - (lg_sl ([.ref x0, .int x1])).length) Slot.unset).toArray = ls at hl ⊢
  have hl : lv_has ls 2 [(0, .ref x0), (1, .int x1)] := hl
  unfold fX8_isWhole at hf
  refine lv_aload_n hx hb dX8_isWhole_0 rfl (lv_at hl 0 rfl) ?_
  refine lv_iconst (v := 2) hx hb dX8_isWhole_1 (by decide +kernel) ?_
  refine lv_iload_n hx hb dX8_isWhole_2 rfl (lv_at hl 1 rfl) ?_
  refine lv_imul hx hb dX8_isWhole_3 ?_
  refine lv_iconst (v := 1) hx hb dX8_isWhole_4 (by decide +kernel) ?_
  refine lv_iadd hx hb dX8_isWhole_5 ?_
  obtain ⟨o1, ho1, hf⟩ := g_bind hf
  obtain ⟨r2, hr2, hf⟩ := g_bind hf
  refine g_callV hx hb hml hl.1 hts hown hK hG hS (As := [.int ((2 * x1) + 1)]) (rest := []) (tX8_isOne l D hr2) vX8_isOne mlX8_83 ho1 rfl rfl rfl rfl ⟨Nat.le_of_ble_eq_true rfl, Nat.le_of_ble_eq_true rfl⟩ rfl rfl (Nat.le_of_ble_eq_true rfl) ⟨Nat.le_of_ble_eq_true rfl, Nat.le_of_ble_eq_true rfl⟩ dX8_isWhole_6 (fun H locs hG hS => ?_)
  obtain ⟨z3, hf⟩ := g_if_spec hf
  cases hf
  exact g_zret hx hb hr hlocks z3 hG hS dX8_isWhole_9

def rmX8_feed : Room := { frames := 0, cells := 0, slots := 0, locals := 0 }
noncomputable def BX8_feed_76 (k23 : g_S → Nat → Int32 → Int32 → Int32 → Int32 → Int32 → Int32 → Option (Int32 × g_S)) (σ : g_S) (x0 : Nat) (x1 : Int32) (x2 : Int32) (x3 : Int32) (x4 : Int32) (x5 : Int32) (x6 : Int32) (y0 : Int32) : Option (Int32 × g_S) := (g_fr σ 8 x0 4).bind fun v9 => (g_fi σ 8 x0 5).bind fun v10 => (g_si σ 0 v9 v10 ((g_ishr y0 (24 - (8 * (g_irem x6 4)))) &&& 255)).bind fun σ11 => (g_fi σ11 8 x0 5).bind fun v12 => (g_p σ11 8 x0 5 (.int (v12 + 1))).bind fun σ13 => g_let (x6 + 1) fun v14 => k23 σ13 x0 x1 x2 x3 x4 x5 v14
noncomputable def LX8_feed_23  : Nat → g_S → Nat → Int32 → Int32 → Int32 → Int32 → Int32 → Int32 → Option (Int32 × g_S)
  | 0, _, _, _, _, _, _, _, _ => none
  | n + 1, σ, x0, x1, x2, x3, x4, x5, x6 => if 20 ≤ x6 then (some (1, σ)) else (if 4 ≤ x6 then (if 8 ≤ x6 then (if 12 ≤ x6 then (if 16 ≤ x6 then (BX8_feed_76 (LX8_feed_23  n) σ x0 x1 x2 x3 x4 x5 x6 x5) else (BX8_feed_76 (LX8_feed_23  n) σ x0 x1 x2 x3 x4 x5 x6 x4)) else (BX8_feed_76 (LX8_feed_23  n) σ x0 x1 x2 x3 x4 x5 x6 x3)) else (BX8_feed_76 (LX8_feed_23  n) σ x0 x1 x2 x3 x4 x5 x6 x2)) else (BX8_feed_76 (LX8_feed_23  n) σ x0 x1 x2 x3 x4 x5 x6 x1))
noncomputable def fX8_feed (σ : g_S) (x0 : Nat) (x1 : Int32) (x2 : Int32) (x3 : Int32) (x4 : Int32) (x5 : Int32) : Option (Int32 × g_S) := (g_p σ 8 x0 0 (.int 0)).bind fun σ1 => (g_fi σ1 8 x0 5).bind fun v2 => if (v2 + 20) ≤ 1400 then (LX8_feed_23 g_fuel σ1 x0 x1 x2 x3 x4 x5 0) else (some (0, σ1))
set_option maxHeartbeats 4000000 in
set_option maxRecDepth 100000 in
theorem tBX8_feed_76 {p : Program} {l : Launch} {e : Env} {s : State} {m : MethodId} {args : Array Value} {below : List Frame} {meth : Method} {c : Code} {D : g_D} {out : Int32 × g_S} (C : g_C RX8 cX8_feed 8 (some .boolean) True p s m args meth c) (hK : g_K D s) (k23 : g_S → Nat → Int32 → Int32 → Int32 → Int32 → Int32 → Int32 → Option (Int32 × g_S)) (hk23 : ∀ (σ : g_S) (x0 : Nat) (x1 : Int32) (x2 : Int32) (x3 : Int32) (x4 : Int32) (x5 : Int32) (x6 : Int32) (H : Heap) (locs : List Loc) (ls : Array Slot), g_H D σ H → va_S (g_A D) s.heap H locs → lv_has ls 8 [(0, .ref x0), (1, .int x1), (2, .int x2), (3, .int x3), (4, .int x4), (5, .int x5), (6, .int x6)] → k23 σ x0 x1 x2 x3 x4 x5 x6 = some out → W p l e rmX8_feed s m args below meth c H locs 0 0 (MQ below (g_Q D out.2 (some (.int out.1))) args s 0 0 (g_A D)) (F0 m 23 ls [])) : ∀ (σ : g_S) (x0 : Nat) (x1 : Int32) (x2 : Int32) (x3 : Int32) (x4 : Int32) (x5 : Int32) (x6 : Int32) (y0 : Int32) (H : Heap) (locs : List Loc) (ls : Array Slot), g_H D σ H → va_S (g_A D) s.heap H locs → lv_has ls 8 [(0, .ref x0), (1, .int x1), (2, .int x2), (3, .int x3), (4, .int x4), (5, .int x5), (6, .int x6)] → BX8_feed_76 k23 σ x0 x1 x2 x3 x4 x5 x6 y0 = some out → W p l e rmX8_feed s m args below meth c H locs 0 0 (MQ below (g_Q D out.2 (some (.int out.1))) args s 0 0 (g_A D)) (F0 m 76 ls [.int y0]) := by
  obtain ⟨hx, hb, hml, hown, hts, hr, hlocks, hin⟩ := id C
  intro σ x0 x1 x2 x3 x4 x5 x6 y0 H locs ls hG hS hl hf
  unfold BX8_feed_76 at hf
  refine lv_istore (lv' := [(7, .int y0), (0, .ref x0), (1, .int x1), (2, .int x2), (3, .int x3), (4, .int x4), (5, .int x5), (6, .int x6)]) hx hb dX8_feed_76 hl (by decide) rfl (fun ls hl => ?_)
  refine lv_aload_n hx hb dX8_feed_78 rfl (lv_at hl 1 rfl) ?_
  obtain ⟨v9, hv9, hf⟩ := g_bind hf
  refine g_getr hx hb hts hown hK hG hv9 rfl iX8 (by decide) flX8_20 dX8_feed_79 ?_
  refine lv_aload_n hx hb dX8_feed_82 rfl (lv_at hl 1 rfl) ?_
  obtain ⟨v10, hv10, hf⟩ := g_bind hf
  refine g_geti hx hb hts hown hK hG hv10 rfl iX8 (by decide) flX8_89 dX8_feed_83 ?_
  refine lv_iload hx hb dX8_feed_86 (lv_at hl 0 rfl) ?_
  refine lv_bipush (v := 24) hx hb dX8_feed_88 (by decide +kernel) ?_
  refine lv_bipush (v := 8) hx hb dX8_feed_90 (by decide +kernel) ?_
  refine lv_iload hx hb dX8_feed_92 (lv_at hl 7 rfl) ?_
  refine lv_iconst (v := 4) hx hb dX8_feed_94 (by decide +kernel) ?_
  refine lv_irem hx hb dX8_feed_95 (by decide) ?_
  refine g_topi (y := g_irem x6 4) rfl ?_
  refine lv_imul hx hb dX8_feed_96 ?_
  refine lv_isub hx hb dX8_feed_97 ?_
  refine lv_ishr hx hb dX8_feed_98 ?_
  refine g_topi (y := g_ishr y0 (24 - (8 * (g_irem x6 4)))) rfl ?_
  refine lv_sipush (v := 255) hx hb dX8_feed_99 (by decide +kernel) ?_
  refine lv_iand hx hb dX8_feed_102 ?_
  obtain ⟨σ11, hσ11, hf⟩ := g_bind hf
  refine g_iast hx hb hK hG hS hσ11 rfl dX8_feed_103 (fun H locs hG hS => ?_)
  refine lv_aload_n hx hb dX8_feed_104 rfl (lv_at hl 1 rfl) ?_
  refine lv_dup hx hb dX8_feed_105 rfl ?_
  obtain ⟨v12, hv12, hf⟩ := g_bind hf
  refine g_geti hx hb hts hown hK hG hv12 rfl iX8 (by decide) flX8_89 dX8_feed_106 ?_
  refine lv_iconst (v := 1) hx hb dX8_feed_109 (by decide +kernel) ?_
  refine lv_iadd hx hb dX8_feed_110 ?_
  obtain ⟨σ13, hσ13, hf⟩ := g_bind hf
  refine g_put hx hb hts hown hK hG hS hσ13 rfl iX8 tyX8 tyX8_ok nmX8 (by decide) flX8_89 rfl rfl rfl dX8_feed_111 (fun H locs hG hS => ?_)
  obtain ⟨v14, ev14, hf⟩ := g_let_spec hf
  refine lv_iinc (v := v14) (lv' := [(6, .int v14), (7, .int y0), (0, .ref x0), (1, .int x1), (2, .int x2), (3, .int x3), (4, .int x4), (5, .int x5)]) hx hb dX8_feed_114 hl (k := 7) rfl (by rw [← ev14]; rfl) (by decide) rfl (fun ls hl => ?_)
  refine lv_goto (tgt := 23) hx hb dX8_feed_117 (by decide) ?_
  exact hk23 _ _ _ _ _ _ _ _ _ _ _ hG hS (lv_sub hl [2, 3, 4, 5, 6, 7, 0] rfl) hf

set_option maxHeartbeats 4000000 in
set_option maxRecDepth 100000 in
theorem tLX8_feed_23 {p : Program} {l : Launch} {e : Env} {s : State} {m : MethodId} {args : Array Value} {below : List Frame} {meth : Method} {c : Code} {D : g_D} {out : Int32 × g_S} (C : g_C RX8 cX8_feed 8 (some .boolean) True p s m args meth c) (hK : g_K D s)  : ∀ (n : Nat) (σ : g_S) (x0 : Nat) (x1 : Int32) (x2 : Int32) (x3 : Int32) (x4 : Int32) (x5 : Int32) (x6 : Int32) (H : Heap) (locs : List Loc) (ls : Array Slot), g_H D σ H → va_S (g_A D) s.heap H locs → lv_has ls 8 [(0, .ref x0), (1, .int x1), (2, .int x2), (3, .int x3), (4, .int x4), (5, .int x5), (6, .int x6)] → LX8_feed_23  n σ x0 x1 x2 x3 x4 x5 x6 = some out → W p l e rmX8_feed s m args below meth c H locs 0 0 (MQ below (g_Q D out.2 (some (.int out.1))) args s 0 0 (g_A D)) (F0 m 23 ls [])  := by
  obtain ⟨hx, hb, hml, hown, hts, hr, hlocks, hin⟩ := id C
  intro n
  induction n with
  | zero => intro σ x0 x1 x2 x3 x4 x5 x6 H locs ls hG hS hl hf; cases hf
  | succ n ih =>
    intro σ x0 x1 x2 x3 x4 x5 x6 H locs ls hG hS hl hf
    have hf : (if 20 ≤ x6 then (some (1, σ)) else (if 4 ≤ x6 then (if 8 ≤ x6 then (if 12 ≤ x6 then (if 16 ≤ x6 then (BX8_feed_76 (LX8_feed_23  n) σ x0 x1 x2 x3 x4 x5 x6 x5) else (BX8_feed_76 (LX8_feed_23  n) σ x0 x1 x2 x3 x4 x5 x6 x4)) else (BX8_feed_76 (LX8_feed_23  n) σ x0 x1 x2 x3 x4 x5 x6 x3)) else (BX8_feed_76 (LX8_feed_23  n) σ x0 x1 x2 x3 x4 x5 x6 x2)) else (BX8_feed_76 (LX8_feed_23  n) σ x0 x1 x2 x3 x4 x5 x6 x1))) = some out := hf
    have hk23 := ih
    refine lv_iload hx hb dX8_feed_23 (lv_at hl 6 rfl) ?_
    refine lv_bipush (v := 20) hx hb dX8_feed_25 (by decide +kernel) ?_
    refine lv_icmp_ge (tgt := 120) hx hb dX8_feed_27 (by decide) (fun c4 => ?_) (fun c4 => ?_)
    · rw [if_pos c4] at hf
      refine lv_iconst (v := 1) hx hb dX8_feed_120 (by decide +kernel) ?_
      cases hf
      exact g_zret hx hb hr hlocks (Or.inr rfl) hG hS dX8_feed_121
    · rw [if_neg c4] at hf
      refine lv_iload hx hb dX8_feed_30 (lv_at hl 6 rfl) ?_
      refine lv_iconst (v := 4) hx hb dX8_feed_32 (by decide +kernel) ?_
      refine lv_icmp_ge (tgt := 40) hx hb dX8_feed_33 (by decide) (fun c5 => ?_) (fun c5 => ?_)
      · rw [if_pos c5] at hf
        refine lv_iload hx hb dX8_feed_40 (lv_at hl 6 rfl) ?_
        refine lv_bipush (v := 8) hx hb dX8_feed_42 (by decide +kernel) ?_
        refine lv_icmp_ge (tgt := 51) hx hb dX8_feed_44 (by decide) (fun c6 => ?_) (fun c6 => ?_)
        · rw [if_pos c6] at hf
          refine lv_iload hx hb dX8_feed_51 (lv_at hl 6 rfl) ?_
          refine lv_bipush (v := 12) hx hb dX8_feed_53 (by decide +kernel) ?_
          refine lv_icmp_ge (tgt := 62) hx hb dX8_feed_55 (by decide) (fun c7 => ?_) (fun c7 => ?_)
          · rw [if_pos c7] at hf
            refine lv_iload hx hb dX8_feed_62 (lv_at hl 6 rfl) ?_
            refine lv_bipush (v := 16) hx hb dX8_feed_64 (by decide +kernel) ?_
            refine lv_icmp_ge (tgt := 74) hx hb dX8_feed_66 (by decide) (fun c8 => ?_) (fun c8 => ?_)
            · rw [if_pos c8] at hf
              refine lv_iload hx hb dX8_feed_74 (lv_at hl 5 rfl) ?_
              exact tBX8_feed_76 C hK (LX8_feed_23  n) hk23  _ _ _ _ _ _ _ _ _ _ _ _ hG hS (lv_sub hl [0, 1, 2, 3, 4, 5, 6] rfl) hf
            · rw [if_neg c8] at hf
              refine lv_iload hx hb dX8_feed_69 (lv_at hl 4 rfl) ?_
              refine lv_goto (tgt := 76) hx hb dX8_feed_71 (by decide) ?_
              exact tBX8_feed_76 C hK (LX8_feed_23  n) hk23  _ _ _ _ _ _ _ _ _ _ _ _ hG hS (lv_sub hl [0, 1, 2, 3, 4, 5, 6] rfl) hf
          · rw [if_neg c7] at hf
            refine lv_iload_n hx hb dX8_feed_58 rfl (lv_at hl 3 rfl) ?_
            refine lv_goto (tgt := 76) hx hb dX8_feed_59 (by decide) ?_
            exact tBX8_feed_76 C hK (LX8_feed_23  n) hk23  _ _ _ _ _ _ _ _ _ _ _ _ hG hS (lv_sub hl [0, 1, 2, 3, 4, 5, 6] rfl) hf
        · rw [if_neg c6] at hf
          refine lv_iload_n hx hb dX8_feed_47 rfl (lv_at hl 2 rfl) ?_
          refine lv_goto (tgt := 76) hx hb dX8_feed_48 (by decide) ?_
          exact tBX8_feed_76 C hK (LX8_feed_23  n) hk23  _ _ _ _ _ _ _ _ _ _ _ _ hG hS (lv_sub hl [0, 1, 2, 3, 4, 5, 6] rfl) hf
      · rw [if_neg c5] at hf
        refine lv_iload_n hx hb dX8_feed_36 rfl (lv_at hl 1 rfl) ?_
        refine lv_goto (tgt := 76) hx hb dX8_feed_37 (by decide) ?_
        exact tBX8_feed_76 C hK (LX8_feed_23  n) hk23  _ _ _ _ _ _ _ _ _ _ _ _ hG hS (lv_sub hl [0, 1, 2, 3, 4, 5, 6] rfl) hf

set_option maxHeartbeats 4000000 in
set_option maxRecDepth 100000 in
theorem tX8_feed (l : Launch) (D : g_D) {σ : g_S} {x0 : Nat} {x1 : Int32} {x2 : Int32} {x3 : Int32} {x4 : Int32} {x5 : Int32} {out : Int32 × g_S} (hf : fX8_feed σ x0 x1 x2 x3 x4 x5 = some out) : Met l yX8_feed (Cond.code yX8_feed cX8_feed 8 (some .boolean) :: lw_g) rmX8_feed (g_P D σ [.ref x0, .int x1, .int x2, .int x3, .int x4, .int x5]) (g_Q D out.2 (some (.int out.1))) 0 0 (g_A D) := by
  refine Met.ofW (cc := cX8_feed) (maxL := 8) (ret := (some .boolean)) (by decide +kernel) rfl ?_
  intro p e s m args below meth c s₁ B hml hv
  obtain ⟨rfl, hG, hK⟩ := hv
  have hts : ∀ w ∈ lw_g, w.before _ s = true := fun w h => atoms_spec (ws := (Cond.code yX8_feed cX8_feed 8 (some .boolean) :: lw_g)) B.pre w (List.mem_cons_of_mem _ h)
  have C : g_C RX8 cX8_feed 8 (some .boolean) True p s m _ meth c := ⟨B.exec, B.bytes, hml, findClass_of_methodNamed B.named, hts, B.returns, B.notSynchronized, trivial⟩
  obtain ⟨hx, hb, hml, hown, hts, hr, hlocks, hin⟩ := id C
  have hS : va_S (g_A D) s.heap s.heap [] := va_S.rf
  have hl := lv_entry ([.ref x0, .int x1, .int x2, .int x3, .int x4, .int x5]) (n := 8) (Nat.le_of_ble_eq_true rfl)
  rw [lg_entry_eq]
  generalize (lg_sl ([.ref x0, .int x1, .int x2, .int x3, .int x4, .int x5]) ++ List.replicate (8 - (lg_sl ([.ref x0, .int x1, .int x2, .int x3, .int x4, .int x5])).length) Slot.unset).toArray = ls at hl ⊢
  have hl : lv_has ls 8 [(0, .ref x0), (1, .int x1), (2, .int x2), (3, .int x3), (4, .int x4), (5, .int x5)] := hl
  unfold fX8_feed at hf
  refine lv_aload_n hx hb dX8_feed_0 rfl (lv_at hl 0 rfl) ?_
  refine lv_iconst (v := 0) hx hb dX8_feed_1 (by decide +kernel) ?_
  obtain ⟨σ1, hσ1, hf⟩ := g_bind hf
  refine g_put hx hb hts hown hK hG hS hσ1 rfl iX8 tyX8 tyX8_ok nmX8 (by decide) flX8_30 rfl rfl rfl dX8_feed_2 (fun H locs hG hS => ?_)
  refine lv_aload_n hx hb dX8_feed_5 rfl (lv_at hl 0 rfl) ?_
  obtain ⟨v2, hv2, hf⟩ := g_bind hf
  refine g_geti hx hb hts hown hK hG hv2 rfl iX8 (by decide) flX8_89 dX8_feed_6 ?_
  refine lv_bipush (v := 20) hx hb dX8_feed_9 (by decide +kernel) ?_
  refine lv_iadd hx hb dX8_feed_11 ?_
  refine lv_sipush (v := 1400) hx hb dX8_feed_12 (by decide +kernel) ?_
  refine lv_icmp_le (tgt := 20) hx hb dX8_feed_15 (by decide) (fun c3 => ?_) (fun c3 => ?_)
  · rw [if_pos c3] at hf
    refine lv_iconst (v := 0) hx hb dX8_feed_20 (by decide +kernel) ?_
    refine lv_istore (lv' := [(6, .int 0), (0, .ref x0), (1, .int x1), (2, .int x2), (3, .int x3), (4, .int x4), (5, .int x5)]) hx hb dX8_feed_21 hl (by decide) rfl (fun ls hl => ?_)
    exact tLX8_feed_23 C hK  g_fuel _ _ _ _ _ _ _ _ _ _ _ hG hS (lv_sub hl [1, 2, 3, 4, 5, 6, 0] rfl) hf
  · rw [if_neg c3] at hf
    refine lv_iconst (v := 0) hx hb dX8_feed_18 (by decide +kernel) ?_
    cases hf
    exact g_zret hx hb hr hlocks (Or.inl rfl) hG hS dX8_feed_19

def rmX8_end : Room := { frames := 0, cells := 0, slots := 0, locals := 0 }
noncomputable def BX8_end_17  (σ : g_S)  : Option (Int32 × g_S) := some (0, σ)
noncomputable def fX8_end (σ : g_S) (x0 : Nat) (x1 : Int32) : Option (Int32 × g_S) := (g_p σ 8 x0 0 (.int 0)).bind fun σ1 => if x1 < 0 then (BX8_end_17 σ1) else ((g_fi σ1 8 x0 5).bind fun v3 => if x1 ≤ v3 then ((g_p σ1 8 x0 5 (.int x1)).bind fun σ5 => some (1, σ5)) else (BX8_end_17 σ1))
set_option maxHeartbeats 4000000 in
set_option maxRecDepth 100000 in
theorem tBX8_end_17 {p : Program} {l : Launch} {e : Env} {s : State} {m : MethodId} {args : Array Value} {below : List Frame} {meth : Method} {c : Code} {D : g_D} {out : Int32 × g_S} (C : g_C RX8 cX8_end 2 (some .boolean) True p s m args meth c) (hK : g_K D s)  : ∀ (σ : g_S)  (H : Heap) (locs : List Loc) (ls : Array Slot), g_H D σ H → va_S (g_A D) s.heap H locs → lv_has ls 2 [] → BX8_end_17  σ  = some out → W p l e rmX8_end s m args below meth c H locs 0 0 (MQ below (g_Q D out.2 (some (.int out.1))) args s 0 0 (g_A D)) (F0 m 17 ls []) := by
  obtain ⟨hx, hb, hml, hown, hts, hr, hlocks, hin⟩ := id C
  intro σ  H locs ls hG hS hl hf
  unfold BX8_end_17 at hf
  refine lv_iconst (v := 0) hx hb dX8_end_17 (by decide +kernel) ?_
  cases hf
  exact g_zret hx hb hr hlocks (Or.inl rfl) hG hS dX8_end_18

set_option maxHeartbeats 4000000 in
set_option maxRecDepth 100000 in
theorem tX8_end (l : Launch) (D : g_D) {σ : g_S} {x0 : Nat} {x1 : Int32} {out : Int32 × g_S} (hf : fX8_end σ x0 x1 = some out) : Met l yX8_end (Cond.code yX8_end cX8_end 2 (some .boolean) :: lw_g) rmX8_end (g_P D σ [.ref x0, .int x1]) (g_Q D out.2 (some (.int out.1))) 0 0 (g_A D) := by
  refine Met.ofW (cc := cX8_end) (maxL := 2) (ret := (some .boolean)) (by decide +kernel) rfl ?_
  intro p e s m args below meth c s₁ B hml hv
  obtain ⟨rfl, hG, hK⟩ := hv
  have hts : ∀ w ∈ lw_g, w.before _ s = true := fun w h => atoms_spec (ws := (Cond.code yX8_end cX8_end 2 (some .boolean) :: lw_g)) B.pre w (List.mem_cons_of_mem _ h)
  have C : g_C RX8 cX8_end 2 (some .boolean) True p s m _ meth c := ⟨B.exec, B.bytes, hml, findClass_of_methodNamed B.named, hts, B.returns, B.notSynchronized, trivial⟩
  obtain ⟨hx, hb, hml, hown, hts, hr, hlocks, hin⟩ := id C
  have hS : va_S (g_A D) s.heap s.heap [] := va_S.rf
  have hl := lv_entry ([.ref x0, .int x1]) (n := 2) (Nat.le_of_ble_eq_true rfl)
  rw [lg_entry_eq]
  generalize (lg_sl ([.ref x0, .int x1]) ++ List.replicate (2 - (lg_sl ([.ref x0, .int x1])).length) Slot.unset).toArray = ls at hl ⊢
  have hl : lv_has ls 2 [(0, .ref x0), (1, .int x1)] := hl
  unfold fX8_end at hf
  refine lv_aload_n hx hb dX8_end_0 rfl (lv_at hl 0 rfl) ?_
  refine lv_iconst (v := 0) hx hb dX8_end_1 (by decide +kernel) ?_
  obtain ⟨σ1, hσ1, hf⟩ := g_bind hf
  refine g_put hx hb hts hown hK hG hS hσ1 rfl iX8 tyX8 tyX8_ok nmX8 (by decide) flX8_30 rfl rfl rfl dX8_end_2 (fun H locs hG hS => ?_)
  refine lv_iload_n hx hb dX8_end_5 rfl (lv_at hl 1 rfl) ?_
  refine lv_if_lt (tgt := 17) hx hb dX8_end_6 (by decide) (fun c2 => ?_) (fun c2 => ?_)
  · rw [if_pos c2] at hf
    exact tBX8_end_17 C hK   _  _ _ _ hG hS (lv_sub hl [] rfl) hf
  · rw [if_neg c2] at hf
    refine lv_iload_n hx hb dX8_end_9 rfl (lv_at hl 1 rfl) ?_
    refine lv_aload_n hx hb dX8_end_10 rfl (lv_at hl 0 rfl) ?_
    obtain ⟨v3, hv3, hf⟩ := g_bind hf
    refine g_geti hx hb hts hown hK hG hv3 rfl iX8 (by decide) flX8_89 dX8_end_11 ?_
    refine lv_icmp_le (tgt := 19) hx hb dX8_end_14 (by decide) (fun c4 => ?_) (fun c4 => ?_)
    · rw [if_pos c4] at hf
      refine lv_aload_n hx hb dX8_end_19 rfl (lv_at hl 0 rfl) ?_
      refine lv_iload_n hx hb dX8_end_20 rfl (lv_at hl 1 rfl) ?_
      obtain ⟨σ5, hσ5, hf⟩ := g_bind hf
      refine g_put hx hb hts hown hK hG hS hσ5 rfl iX8 tyX8 tyX8_ok nmX8 (by decide) flX8_89 rfl rfl rfl dX8_end_21 (fun H locs hG hS => ?_)
      refine lv_iconst (v := 1) hx hb dX8_end_24 (by decide +kernel) ?_
      cases hf
      exact g_zret hx hb hr hlocks (Or.inr rfl) hG hS dX8_end_25
    · rw [if_neg c4] at hf
      exact tBX8_end_17 C hK   _  _ _ _ hG hS (lv_sub hl [] rfl) hf

def rmX8_byteAt : Room := { frames := 0, cells := 0, slots := 0, locals := 0 }
noncomputable def BX8_byteAt_15  (σ : g_S) (y0 : Int32) : Option (Int32 × g_S) := some (y0, σ)
noncomputable def fX8_byteAt (σ : g_S) (x0 : Nat) (x1 : Int32) (x2 : Int32) : Option (Int32 × g_S) := if x2 ≤ x1 then (BX8_byteAt_15 σ (-1)) else ((g_fr σ 8 x0 4).bind fun v2 => (g_li σ 0 v2 x1).bind fun v3 => BX8_byteAt_15 σ v3)
set_option maxHeartbeats 4000000 in
set_option maxRecDepth 100000 in
theorem tBX8_byteAt_15 {p : Program} {l : Launch} {e : Env} {s : State} {m : MethodId} {args : Array Value} {below : List Frame} {meth : Method} {c : Code} {D : g_D} {out : Int32 × g_S} (C : g_C RX8 cX8_byteAt 3 (some .int) True p s m args meth c) (hK : g_K D s)  : ∀ (σ : g_S) (y0 : Int32) (H : Heap) (locs : List Loc) (ls : Array Slot), g_H D σ H → va_S (g_A D) s.heap H locs → lv_has ls 3 [] → BX8_byteAt_15  σ y0 = some out → W p l e rmX8_byteAt s m args below meth c H locs 0 0 (MQ below (g_Q D out.2 (some (.int out.1))) args s 0 0 (g_A D)) (F0 m 15 ls [.int y0]) := by
  obtain ⟨hx, hb, hml, hown, hts, hr, hlocks, hin⟩ := id C
  intro σ y0 H locs ls hG hS hl hf
  unfold BX8_byteAt_15 at hf
  cases hf
  exact g_iret hx hb hr hlocks hG hS dX8_byteAt_15

set_option maxHeartbeats 4000000 in
set_option maxRecDepth 100000 in
theorem tX8_byteAt (l : Launch) (D : g_D) {σ : g_S} {x0 : Nat} {x1 : Int32} {x2 : Int32} {out : Int32 × g_S} (hf : fX8_byteAt σ x0 x1 x2 = some out) : Met l yX8_byteAt (Cond.code yX8_byteAt cX8_byteAt 3 (some .int) :: lw_g) rmX8_byteAt (g_P D σ [.ref x0, .int x1, .int x2]) (g_Q D out.2 (some (.int out.1))) 0 0 (g_A D) := by
  refine Met.ofW (cc := cX8_byteAt) (maxL := 3) (ret := (some .int)) (by decide +kernel) rfl ?_
  intro p e s m args below meth c s₁ B hml hv
  obtain ⟨rfl, hG, hK⟩ := hv
  have hts : ∀ w ∈ lw_g, w.before _ s = true := fun w h => atoms_spec (ws := (Cond.code yX8_byteAt cX8_byteAt 3 (some .int) :: lw_g)) B.pre w (List.mem_cons_of_mem _ h)
  have C : g_C RX8 cX8_byteAt 3 (some .int) True p s m _ meth c := ⟨B.exec, B.bytes, hml, findClass_of_methodNamed B.named, hts, B.returns, B.notSynchronized, trivial⟩
  obtain ⟨hx, hb, hml, hown, hts, hr, hlocks, hin⟩ := id C
  have hS : va_S (g_A D) s.heap s.heap [] := va_S.rf
  have hl := lv_entry ([.ref x0, .int x1, .int x2]) (n := 3) (Nat.le_of_ble_eq_true rfl)
  rw [lg_entry_eq]
  generalize (lg_sl ([.ref x0, .int x1, .int x2]) ++ List.replicate (3 - (lg_sl ([.ref x0, .int x1, .int x2])).length) Slot.unset).toArray = ls at hl ⊢
  have hl : lv_has ls 3 [(0, .ref x0), (1, .int x1), (2, .int x2)] := hl
  unfold fX8_byteAt at hf
  refine lv_iload_n hx hb dX8_byteAt_0 rfl (lv_at hl 1 rfl) ?_
  refine lv_iload_n hx hb dX8_byteAt_1 rfl (lv_at hl 2 rfl) ?_
  refine lv_icmp_ge (tgt := 14) hx hb dX8_byteAt_2 (by decide) (fun c1 => ?_) (fun c1 => ?_)
  · rw [if_pos c1] at hf
    refine lv_iconst (v := (-1)) hx hb dX8_byteAt_14 (by decide +kernel) ?_
    exact tBX8_byteAt_15 C hK   _ _ _ _ _ hG hS (lv_sub hl [] rfl) hf
  · rw [if_neg c1] at hf
    refine lv_aload_n hx hb dX8_byteAt_5 rfl (lv_at hl 0 rfl) ?_
    obtain ⟨v2, hv2, hf⟩ := g_bind hf
    refine g_getr hx hb hts hown hK hG hv2 rfl iX8 (by decide) flX8_20 dX8_byteAt_6 ?_
    refine lv_iload_n hx hb dX8_byteAt_9 rfl (lv_at hl 1 rfl) ?_
    obtain ⟨v3, hv3, hf⟩ := g_bind hf
    refine g_iald hx hb hK hG hv3 rfl dX8_byteAt_10 ?_
    refine lv_goto (tgt := 15) hx hb dX8_byteAt_11 (by decide) ?_
    exact tBX8_byteAt_15 C hK   _ _ _ _ _ hG hS (lv_sub hl [] rfl) hf

def rmX8_isDigit : Room := { frames := 0, cells := 0, slots := 0, locals := 0 }
noncomputable def BX8_isDigit_17  (σ : g_S) (y0 : Int32) : Option (Int32 × g_S) := g_if (y0 = 0 ∨ y0 = 1) <| some (y0, σ)
noncomputable def BX8_isDigit_16  (σ : g_S)  : Option (Int32 × g_S) := BX8_isDigit_17 σ 0
noncomputable def fX8_isDigit (σ : g_S) (x0 : Int32) : Option (Int32 × g_S) := if x0 < 48 then (BX8_isDigit_16 σ) else (if 57 < x0 then (BX8_isDigit_16 σ) else (BX8_isDigit_17 σ 1))
set_option maxHeartbeats 4000000 in
set_option maxRecDepth 100000 in
theorem tBX8_isDigit_17 {p : Program} {l : Launch} {e : Env} {s : State} {m : MethodId} {args : Array Value} {below : List Frame} {meth : Method} {c : Code} {D : g_D} {out : Int32 × g_S} (C : g_C RX8 cX8_isDigit 1 (some .boolean) True p s m args meth c) (hK : g_K D s)  : ∀ (σ : g_S) (y0 : Int32) (H : Heap) (locs : List Loc) (ls : Array Slot), g_H D σ H → va_S (g_A D) s.heap H locs → lv_has ls 1 [] → BX8_isDigit_17  σ y0 = some out → W p l e rmX8_isDigit s m args below meth c H locs 0 0 (MQ below (g_Q D out.2 (some (.int out.1))) args s 0 0 (g_A D)) (F0 m 17 ls [.int y0]) := by
  obtain ⟨hx, hb, hml, hown, hts, hr, hlocks, hin⟩ := id C
  intro σ y0 H locs ls hG hS hl hf
  unfold BX8_isDigit_17 at hf
  obtain ⟨z2, hf⟩ := g_if_spec hf
  cases hf
  exact g_zret hx hb hr hlocks z2 hG hS dX8_isDigit_17

set_option maxHeartbeats 4000000 in
set_option maxRecDepth 100000 in
theorem tBX8_isDigit_16 {p : Program} {l : Launch} {e : Env} {s : State} {m : MethodId} {args : Array Value} {below : List Frame} {meth : Method} {c : Code} {D : g_D} {out : Int32 × g_S} (C : g_C RX8 cX8_isDigit 1 (some .boolean) True p s m args meth c) (hK : g_K D s)  : ∀ (σ : g_S)  (H : Heap) (locs : List Loc) (ls : Array Slot), g_H D σ H → va_S (g_A D) s.heap H locs → lv_has ls 1 [] → BX8_isDigit_16  σ  = some out → W p l e rmX8_isDigit s m args below meth c H locs 0 0 (MQ below (g_Q D out.2 (some (.int out.1))) args s 0 0 (g_A D)) (F0 m 16 ls []) := by
  obtain ⟨hx, hb, hml, hown, hts, hr, hlocks, hin⟩ := id C
  intro σ  H locs ls hG hS hl hf
  unfold BX8_isDigit_16 at hf
  refine lv_iconst (v := 0) hx hb dX8_isDigit_16 (by decide +kernel) ?_
  exact tBX8_isDigit_17 C hK   _ _ _ _ _ hG hS (lv_sub hl [] rfl) hf

set_option maxHeartbeats 4000000 in
set_option maxRecDepth 100000 in
theorem tX8_isDigit (l : Launch) (D : g_D) {σ : g_S} {x0 : Int32} {out : Int32 × g_S} (hf : fX8_isDigit σ x0 = some out) : Met l yX8_isDigit (Cond.code yX8_isDigit cX8_isDigit 1 (some .boolean) :: lw_g) rmX8_isDigit (g_P D σ [.int x0]) (g_Q D out.2 (some (.int out.1))) 0 0 (g_A D) := by
  refine Met.ofW (cc := cX8_isDigit) (maxL := 1) (ret := (some .boolean)) (by decide +kernel) rfl ?_
  intro p e s m args below meth c s₁ B hml hv
  obtain ⟨rfl, hG, hK⟩ := hv
  have hts : ∀ w ∈ lw_g, w.before _ s = true := fun w h => atoms_spec (ws := (Cond.code yX8_isDigit cX8_isDigit 1 (some .boolean) :: lw_g)) B.pre w (List.mem_cons_of_mem _ h)
  have C : g_C RX8 cX8_isDigit 1 (some .boolean) True p s m _ meth c := ⟨B.exec, B.bytes, hml, findClass_of_methodNamed B.named, hts, B.returns, B.notSynchronized, trivial⟩
  obtain ⟨hx, hb, hml, hown, hts, hr, hlocks, hin⟩ := id C
  have hS : va_S (g_A D) s.heap s.heap [] := va_S.rf
  have hl := lv_entry ([.int x0]) (n := 1) (Nat.le_of_ble_eq_true rfl)
  rw [lg_entry_eq]
  generalize (lg_sl ([.int x0]) ++ List.replicate (1 - (lg_sl ([.int x0])).length) Slot.unset).toArray = ls at hl ⊢
  have hl : lv_has ls 1 [(0, .int x0)] := hl
  unfold fX8_isDigit at hf
  refine lv_iload_n hx hb dX8_isDigit_0 rfl (lv_at hl 0 rfl) ?_
  refine lv_bipush (v := 48) hx hb dX8_isDigit_1 (by decide +kernel) ?_
  refine lv_icmp_lt (tgt := 16) hx hb dX8_isDigit_3 (by decide) (fun c1 => ?_) (fun c1 => ?_)
  · rw [if_pos c1] at hf
    exact tBX8_isDigit_16 C hK   _  _ _ _ hG hS (lv_sub hl [] rfl) hf
  · rw [if_neg c1] at hf
    refine lv_iload_n hx hb dX8_isDigit_6 rfl (lv_at hl 0 rfl) ?_
    refine lv_bipush (v := 57) hx hb dX8_isDigit_7 (by decide +kernel) ?_
    refine lv_icmp_gt (tgt := 16) hx hb dX8_isDigit_9 (by decide) (fun c3 => ?_) (fun c3 => ?_)
    · rw [if_pos c3] at hf
      exact tBX8_isDigit_16 C hK   _  _ _ _ hG hS (lv_sub hl [] rfl) hf
    · rw [if_neg c3] at hf
      refine lv_iconst (v := 1) hx hb dX8_isDigit_12 (by decide +kernel) ?_
      refine lv_goto (tgt := 17) hx hb dX8_isDigit_13 (by decide) ?_
      exact tBX8_isDigit_17 C hK   _ _ _ _ _ hG hS (lv_sub hl [] rfl) hf

def rmX8_digits : Room := { frames := 1, cells := 0, slots := 0, locals := 23 }
noncomputable def LX8_digits_48 (k10 : g_S → Nat → Int32 → Int32 → Int32 → Option (Int32 × g_S)) : Nat → g_S → Nat → Int32 → Int32 → Int32 → Int32 → Int32 → Int32 → Option (Int32 × g_S)
  | 0, _, _, _, _, _, _, _, _ => none
  | n + 1, σ, x0, x2, x3, x4, x5, x6, x7 => if x6 ≤ x7 then ((g_o σ 8 x0).bind fun o14 => (fX8_trim σ x0 x3 x6).bind fun r15 => (g_o r15 8 x0).bind fun o16 => (fX8_isTooGreat r15 x0 x3).bind fun r17 => if r17.1 = 0 then (g_let (x4 + 1) fun v19 => k10 r17.2 x0 x2 x3 v19) else (some ((-1), r17.2))) else ((g_o σ 8 x0).bind fun o20 => (fX8_at σ x0 x3 x7).bind fun r21 => g_let ((r21.1 * 10) + x5) fun v22 => (g_o r21.2 8 x0).bind fun o23 => (fX8_puts r21.2 x0 x3 x7 (g_irem v22 65536)).bind fun r24 => g_let (v22 / 65536) fun v25 => g_let (x7 + 1) fun v26 => (LX8_digits_48 k10 n) r24 x0 x2 x3 x4 v25 x6 v26)
noncomputable def LX8_digits_10  : Nat → g_S → Nat → Int32 → Int32 → Int32 → Option (Int32 × g_S)
  | 0, _, _, _, _, _ => none
  | n + 1, σ, x0, x2, x3, x4 => (g_o σ 8 x0).bind fun o3 => (fX8_byteAt σ x0 x4 x2).bind fun r4 => (fX8_isDigit r4.2 r4.1).bind fun r5 => if r5.1 = 0 then (some (x4, r5.2)) else ((g_o r5.2 8 x0).bind fun o7 => (fX8_byteAt r5.2 x0 x4 x2).bind fun r8 => g_let (r8.1 - 48) fun v9 => (g_fr r8.2 8 x0 2).bind fun v10 => (g_li r8.2 0 v10 x3).bind fun v11 => g_let (v11 + 1) fun v12 => LX8_digits_48 (LX8_digits_10  n) g_fuel r8.2 x0 x2 x3 x4 v9 v12 0)
noncomputable def fX8_digits (σ : g_S) (x0 : Nat) (x1 : Int32) (x2 : Int32) (x3 : Int32) : Option (Int32 × g_S) := (g_fr σ 8 x0 2).bind fun v1 => (g_si σ 0 v1 x3 0).bind fun σ2 => LX8_digits_10 g_fuel σ2 x0 x2 x3 x1
set_option maxHeartbeats 4000000 in
set_option maxRecDepth 100000 in
theorem tLX8_digits_48 {p : Program} {l : Launch} {e : Env} {s : State} {m : MethodId} {args : Array Value} {below : List Frame} {meth : Method} {c : Code} {D : g_D} {out : Int32 × g_S} (C : g_C RX8 cX8_digits 9 (some .int) True p s m args meth c) (hK : g_K D s) (k10 : g_S → Nat → Int32 → Int32 → Int32 → Option (Int32 × g_S)) (hk10 : ∀ (σ : g_S) (x0 : Nat) (x2 : Int32) (x3 : Int32) (x4 : Int32) (H : Heap) (locs : List Loc) (ls : Array Slot), g_H D σ H → va_S (g_A D) s.heap H locs → lv_has ls 9 [(0, .ref x0), (2, .int x2), (3, .int x3), (4, .int x4)] → k10 σ x0 x2 x3 x4 = some out → W p l e rmX8_digits s m args below meth c H locs 0 0 (MQ below (g_Q D out.2 (some (.int out.1))) args s 0 0 (g_A D)) (F0 m 10 ls [])) : ∀ (n : Nat) (σ : g_S) (x0 : Nat) (x2 : Int32) (x3 : Int32) (x4 : Int32) (x5 : Int32) (x6 : Int32) (x7 : Int32) (H : Heap) (locs : List Loc) (ls : Array Slot), g_H D σ H → va_S (g_A D) s.heap H locs → lv_has ls 9 [(0, .ref x0), (2, .int x2), (3, .int x3), (4, .int x4), (5, .int x5), (6, .int x6), (7, .int x7)] → LX8_digits_48 k10 n σ x0 x2 x3 x4 x5 x6 x7 = some out → W p l e rmX8_digits s m args below meth c H locs 0 0 (MQ below (g_Q D out.2 (some (.int out.1))) args s 0 0 (g_A D)) (F0 m 48 ls [])  := by
  obtain ⟨hx, hb, hml, hown, hts, hr, hlocks, hin⟩ := id C
  intro n
  induction n with
  | zero => intro σ x0 x2 x3 x4 x5 x6 x7 H locs ls hG hS hl hf; cases hf
  | succ n ih =>
    intro σ x0 x2 x3 x4 x5 x6 x7 H locs ls hG hS hl hf
    have hf : (if x6 ≤ x7 then ((g_o σ 8 x0).bind fun o14 => (fX8_trim σ x0 x3 x6).bind fun r15 => (g_o r15 8 x0).bind fun o16 => (fX8_isTooGreat r15 x0 x3).bind fun r17 => if r17.1 = 0 then (g_let (x4 + 1) fun v19 => k10 r17.2 x0 x2 x3 v19) else (some ((-1), r17.2))) else ((g_o σ 8 x0).bind fun o20 => (fX8_at σ x0 x3 x7).bind fun r21 => g_let ((r21.1 * 10) + x5) fun v22 => (g_o r21.2 8 x0).bind fun o23 => (fX8_puts r21.2 x0 x3 x7 (g_irem v22 65536)).bind fun r24 => g_let (v22 / 65536) fun v25 => g_let (x7 + 1) fun v26 => (LX8_digits_48 k10 n) r24 x0 x2 x3 x4 v25 x6 v26)) = some out := hf
    have hk48 := ih
    refine lv_iload hx hb dX8_digits_48 (lv_at hl 6 rfl) ?_
    refine lv_iload hx hb dX8_digits_50 (lv_at hl 5 rfl) ?_
    refine lv_icmp_ge (tgt := 95) hx hb dX8_digits_52 (by decide) (fun c13 => ?_) (fun c13 => ?_)
    · rw [if_pos c13] at hf
      refine lv_aload_n hx hb dX8_digits_95 rfl (lv_at hl 0 rfl) ?_
      refine lv_iload_n hx hb dX8_digits_96 rfl (lv_at hl 2 rfl) ?_
      refine lv_iload hx hb dX8_digits_97 (lv_at hl 5 rfl) ?_
      obtain ⟨o14, ho14, hf⟩ := g_bind hf
      obtain ⟨r15, hr15, hf⟩ := g_bind hf
      refine g_callV hx hb hml hl.1 hts hown hK hG hS (As := [.int x3, .int x6]) (rest := []) (tX8_trim l D hr15) vX8_trim mlX8_38 ho14 rfl rfl rfl rfl ⟨Nat.le_of_ble_eq_true rfl, Nat.le_of_ble_eq_true rfl⟩ rfl rfl (Nat.le_of_ble_eq_true rfl) ⟨Nat.le_of_ble_eq_true rfl, Nat.le_of_ble_eq_true rfl⟩ dX8_digits_99 (fun H locs hG hS => ?_)
      refine lv_aload_n hx hb dX8_digits_102 rfl (lv_at hl 0 rfl) ?_
      refine lv_iload_n hx hb dX8_digits_103 rfl (lv_at hl 2 rfl) ?_
      obtain ⟨o16, ho16, hf⟩ := g_bind hf
      obtain ⟨r17, hr17, hf⟩ := g_bind hf
      refine g_callV hx hb hml hl.1 hts hown hK hG hS (As := [.int x3]) (rest := []) (tX8_isTooGreat l D hr17) vX8_isTooGreat mlX8_86 ho16 rfl rfl rfl rfl ⟨Nat.le_of_ble_eq_true rfl, Nat.le_of_ble_eq_true rfl⟩ rfl rfl (Nat.le_of_ble_eq_true rfl) ⟨Nat.le_of_ble_eq_true rfl, Nat.le_of_ble_eq_true rfl⟩ dX8_digits_104 (fun H locs hG hS => ?_)
      refine lv_if_eq (tgt := 112) hx hb dX8_digits_107 (by decide) (fun c18 => ?_) (fun c18 => ?_)
      · rw [if_pos c18] at hf
        obtain ⟨v19, ev19, hf⟩ := g_let_spec hf
        refine lv_iinc (v := v19) (lv' := [(4, .int v19), (0, .ref x0), (2, .int x2), (3, .int x3), (5, .int x5), (6, .int x6), (7, .int x7)]) hx hb dX8_digits_112 hl (k := 3) rfl (by rw [← ev19]; rfl) (by decide) rfl (fun ls hl => ?_)
        refine lv_goto (tgt := 10) hx hb dX8_digits_115 (by decide) ?_
        exact hk10 _ _ _ _ _ _ _ _ hG hS (lv_sub hl [1, 2, 3, 0] rfl) hf
      · rw [if_neg c18] at hf
        refine lv_iconst (v := (-1)) hx hb dX8_digits_110 (by decide +kernel) ?_
        cases hf
        exact g_iret hx hb hr hlocks hG hS dX8_digits_111
    · rw [if_neg c13] at hf
      refine lv_aload_n hx hb dX8_digits_55 rfl (lv_at hl 0 rfl) ?_
      refine lv_iload_n hx hb dX8_digits_56 rfl (lv_at hl 2 rfl) ?_
      refine lv_iload hx hb dX8_digits_57 (lv_at hl 6 rfl) ?_
      obtain ⟨o20, ho20, hf⟩ := g_bind hf
      obtain ⟨r21, hr21, hf⟩ := g_bind hf
      refine g_callV hx hb hml hl.1 hts hown hK hG hS (As := [.int x3, .int x7]) (rest := []) (tX8_at l D hr21) vX8_at mlX8_41 ho20 rfl rfl rfl rfl ⟨Nat.le_of_ble_eq_true rfl, Nat.le_of_ble_eq_true rfl⟩ rfl rfl (Nat.le_of_ble_eq_true rfl) ⟨Nat.le_of_ble_eq_true rfl, Nat.le_of_ble_eq_true rfl⟩ dX8_digits_59 (fun H locs hG hS => ?_)
      refine lv_bipush (v := 10) hx hb dX8_digits_62 (by decide +kernel) ?_
      refine lv_imul hx hb dX8_digits_64 ?_
      refine lv_iload hx hb dX8_digits_65 (lv_at hl 4 rfl) ?_
      refine lv_iadd hx hb dX8_digits_67 ?_
      obtain ⟨v22, ev22, hf⟩ := g_let_spec hf
      refine g_topi ev22 ?_
      refine lv_istore (lv' := [(8, .int v22), (0, .ref x0), (2, .int x2), (3, .int x3), (4, .int x4), (5, .int x5), (6, .int x6), (7, .int x7)]) hx hb dX8_digits_68 hl (by decide) rfl (fun ls hl => ?_)
      refine lv_aload_n hx hb dX8_digits_70 rfl (lv_at hl 1 rfl) ?_
      refine lv_iload_n hx hb dX8_digits_71 rfl (lv_at hl 3 rfl) ?_
      refine lv_iload hx hb dX8_digits_72 (lv_at hl 7 rfl) ?_
      refine lv_iload hx hb dX8_digits_74 (lv_at hl 0 rfl) ?_
      refine lv_ldc (v := 65536) hx hb hown (hts _ coX8_45) dX8_digits_76 ?_
      refine lv_irem hx hb dX8_digits_78 (by decide) ?_
      refine g_topi (y := g_irem v22 65536) rfl ?_
      obtain ⟨o23, ho23, hf⟩ := g_bind hf
      obtain ⟨r24, hr24, hf⟩ := g_bind hf
      refine g_callV hx hb hml hl.1 hts hown hK hG hS (As := [.int x3, .int x7, .int (g_irem v22 65536)]) (rest := []) (tX8_puts l D hr24) vX8_puts mlX8_34 ho23 rfl rfl rfl rfl ⟨Nat.le_of_ble_eq_true rfl, Nat.le_of_ble_eq_true rfl⟩ rfl rfl (Nat.le_of_ble_eq_true rfl) ⟨Nat.le_of_ble_eq_true rfl, Nat.le_of_ble_eq_true rfl⟩ dX8_digits_79 (fun H locs hG hS => ?_)
      refine lv_iload hx hb dX8_digits_82 (lv_at hl 0 rfl) ?_
      refine lv_ldc (v := 65536) hx hb hown (hts _ coX8_45) dX8_digits_84 ?_
      refine lv_idiv hx hb dX8_digits_86 (by decide) ?_
      obtain ⟨v25, ev25, hf⟩ := g_let_spec hf
      refine g_topi ev25 ?_
      refine lv_istore (lv' := [(5, .int v25), (8, .int v22), (0, .ref x0), (2, .int x2), (3, .int x3), (4, .int x4), (6, .int x6), (7, .int x7)]) hx hb dX8_digits_87 hl (by decide) rfl (fun ls hl => ?_)
      obtain ⟨v26, ev26, hf⟩ := g_let_spec hf
      refine lv_iinc (v := v26) (lv' := [(7, .int v26), (5, .int v25), (8, .int v22), (0, .ref x0), (2, .int x2), (3, .int x3), (4, .int x4), (6, .int x6)]) hx hb dX8_digits_89 hl (k := 7) rfl (by rw [← ev26]; rfl) (by decide) rfl (fun ls hl => ?_)
      refine lv_goto (tgt := 48) hx hb dX8_digits_92 (by decide) ?_
      exact hk48 _ _ _ _ _ _ _ _ _ _ _ hG hS (lv_sub hl [3, 4, 5, 6, 1, 7, 0] rfl) hf

set_option maxHeartbeats 4000000 in
set_option maxRecDepth 100000 in
theorem tLX8_digits_10 {p : Program} {l : Launch} {e : Env} {s : State} {m : MethodId} {args : Array Value} {below : List Frame} {meth : Method} {c : Code} {D : g_D} {out : Int32 × g_S} (C : g_C RX8 cX8_digits 9 (some .int) True p s m args meth c) (hK : g_K D s)  : ∀ (n : Nat) (σ : g_S) (x0 : Nat) (x2 : Int32) (x3 : Int32) (x4 : Int32) (H : Heap) (locs : List Loc) (ls : Array Slot), g_H D σ H → va_S (g_A D) s.heap H locs → lv_has ls 9 [(0, .ref x0), (2, .int x2), (3, .int x3), (4, .int x4)] → LX8_digits_10  n σ x0 x2 x3 x4 = some out → W p l e rmX8_digits s m args below meth c H locs 0 0 (MQ below (g_Q D out.2 (some (.int out.1))) args s 0 0 (g_A D)) (F0 m 10 ls [])  := by
  obtain ⟨hx, hb, hml, hown, hts, hr, hlocks, hin⟩ := id C
  intro n
  induction n with
  | zero => intro σ x0 x2 x3 x4 H locs ls hG hS hl hf; cases hf
  | succ n ih =>
    intro σ x0 x2 x3 x4 H locs ls hG hS hl hf
    have hf : ((g_o σ 8 x0).bind fun o3 => (fX8_byteAt σ x0 x4 x2).bind fun r4 => (fX8_isDigit r4.2 r4.1).bind fun r5 => if r5.1 = 0 then (some (x4, r5.2)) else ((g_o r5.2 8 x0).bind fun o7 => (fX8_byteAt r5.2 x0 x4 x2).bind fun r8 => g_let (r8.1 - 48) fun v9 => (g_fr r8.2 8 x0 2).bind fun v10 => (g_li r8.2 0 v10 x3).bind fun v11 => g_let (v11 + 1) fun v12 => LX8_digits_48 (LX8_digits_10  n) g_fuel r8.2 x0 x2 x3 x4 v9 v12 0)) = some out := hf
    have hk10 := ih
    refine lv_aload_n hx hb dX8_digits_10 rfl (lv_at hl 0 rfl) ?_
    refine lv_iload hx hb dX8_digits_11 (lv_at hl 3 rfl) ?_
    refine lv_iload_n hx hb dX8_digits_13 rfl (lv_at hl 1 rfl) ?_
    obtain ⟨o3, ho3, hf⟩ := g_bind hf
    obtain ⟨r4, hr4, hf⟩ := g_bind hf
    refine g_callV hx hb hml hl.1 hts hown hK hG hS (As := [.int x4, .int x2]) (rest := []) (tX8_byteAt l D hr4) vX8_byteAt mlX8_92 ho3 rfl rfl rfl rfl ⟨Nat.le_of_ble_eq_true rfl, Nat.le_of_ble_eq_true rfl⟩ rfl rfl (Nat.le_of_ble_eq_true rfl) ⟨Nat.le_of_ble_eq_true rfl, Nat.le_of_ble_eq_true rfl⟩ dX8_digits_14 (fun H locs hG hS => ?_)
    obtain ⟨r5, hr5, hf⟩ := g_bind hf
    refine g_callS hx hb hml hl.1 hts hown hK hG hS (As := [.int r4.1]) (rest := []) (tX8_isDigit l D hr5) vX8_isDigit mlX8_95 rfl rfl ⟨Nat.le_of_ble_eq_true rfl, Nat.le_of_ble_eq_true rfl⟩ rfl rfl (Nat.le_of_ble_eq_true rfl) ⟨Nat.le_of_ble_eq_true rfl, Nat.le_of_ble_eq_true rfl⟩ dX8_digits_17 (fun H locs hG hS => ?_)
    refine lv_if_eq (tgt := 118) hx hb dX8_digits_20 (by decide) (fun c6 => ?_) (fun c6 => ?_)
    · rw [if_pos c6] at hf
      refine lv_iload hx hb dX8_digits_118 (lv_at hl 3 rfl) ?_
      cases hf
      exact g_iret hx hb hr hlocks hG hS dX8_digits_120
    · rw [if_neg c6] at hf
      refine lv_aload_n hx hb dX8_digits_23 rfl (lv_at hl 0 rfl) ?_
      refine lv_iload hx hb dX8_digits_24 (lv_at hl 3 rfl) ?_
      refine lv_iload_n hx hb dX8_digits_26 rfl (lv_at hl 1 rfl) ?_
      obtain ⟨o7, ho7, hf⟩ := g_bind hf
      obtain ⟨r8, hr8, hf⟩ := g_bind hf
      refine g_callV hx hb hml hl.1 hts hown hK hG hS (As := [.int x4, .int x2]) (rest := []) (tX8_byteAt l D hr8) vX8_byteAt mlX8_92 ho7 rfl rfl rfl rfl ⟨Nat.le_of_ble_eq_true rfl, Nat.le_of_ble_eq_true rfl⟩ rfl rfl (Nat.le_of_ble_eq_true rfl) ⟨Nat.le_of_ble_eq_true rfl, Nat.le_of_ble_eq_true rfl⟩ dX8_digits_27 (fun H locs hG hS => ?_)
      refine lv_bipush (v := 48) hx hb dX8_digits_30 (by decide +kernel) ?_
      refine lv_isub hx hb dX8_digits_32 ?_
      obtain ⟨v9, ev9, hf⟩ := g_let_spec hf
      refine g_topi ev9 ?_
      refine lv_istore (lv' := [(5, .int v9), (0, .ref x0), (2, .int x2), (3, .int x3), (4, .int x4)]) hx hb dX8_digits_33 hl (by decide) rfl (fun ls hl => ?_)
      refine lv_aload_n hx hb dX8_digits_35 rfl (lv_at hl 1 rfl) ?_
      obtain ⟨v10, hv10, hf⟩ := g_bind hf
      refine g_getr hx hb hts hown hK hG hv10 rfl iX8 (by decide) flX8_13 dX8_digits_36 ?_
      refine lv_iload_n hx hb dX8_digits_39 rfl (lv_at hl 3 rfl) ?_
      obtain ⟨v11, hv11, hf⟩ := g_bind hf
      refine g_iald hx hb hK hG hv11 rfl dX8_digits_40 ?_
      refine lv_iconst (v := 1) hx hb dX8_digits_41 (by decide +kernel) ?_
      refine lv_iadd hx hb dX8_digits_42 ?_
      obtain ⟨v12, ev12, hf⟩ := g_let_spec hf
      refine g_topi ev12 ?_
      refine lv_istore (lv' := [(6, .int v12), (5, .int v9), (0, .ref x0), (2, .int x2), (3, .int x3), (4, .int x4)]) hx hb dX8_digits_43 hl (by decide) rfl (fun ls hl => ?_)
      refine lv_iconst (v := 0) hx hb dX8_digits_45 (by decide +kernel) ?_
      refine lv_istore (lv' := [(7, .int 0), (6, .int v12), (5, .int v9), (0, .ref x0), (2, .int x2), (3, .int x3), (4, .int x4)]) hx hb dX8_digits_46 hl (by decide) rfl (fun ls hl => ?_)
      exact tLX8_digits_48 C hK (LX8_digits_10  n) hk10 g_fuel _ _ _ _ _ _ _ _ _ _ _ hG hS (lv_sub hl [3, 4, 5, 6, 2, 1, 0] rfl) hf

set_option maxHeartbeats 4000000 in
set_option maxRecDepth 100000 in
theorem tX8_digits (l : Launch) (D : g_D) {σ : g_S} {x0 : Nat} {x1 : Int32} {x2 : Int32} {x3 : Int32} {out : Int32 × g_S} (hf : fX8_digits σ x0 x1 x2 x3 = some out) : Met l yX8_digits (Cond.code yX8_digits cX8_digits 9 (some .int) :: lw_g) rmX8_digits (g_P D σ [.ref x0, .int x1, .int x2, .int x3]) (g_Q D out.2 (some (.int out.1))) 0 0 (g_A D) := by
  refine Met.ofW (cc := cX8_digits) (maxL := 9) (ret := (some .int)) (by decide +kernel) rfl ?_
  intro p e s m args below meth c s₁ B hml hv
  obtain ⟨rfl, hG, hK⟩ := hv
  have hts : ∀ w ∈ lw_g, w.before _ s = true := fun w h => atoms_spec (ws := (Cond.code yX8_digits cX8_digits 9 (some .int) :: lw_g)) B.pre w (List.mem_cons_of_mem _ h)
  have C : g_C RX8 cX8_digits 9 (some .int) True p s m _ meth c := ⟨B.exec, B.bytes, hml, findClass_of_methodNamed B.named, hts, B.returns, B.notSynchronized, trivial⟩
  obtain ⟨hx, hb, hml, hown, hts, hr, hlocks, hin⟩ := id C
  have hS : va_S (g_A D) s.heap s.heap [] := va_S.rf
  have hl := lv_entry ([.ref x0, .int x1, .int x2, .int x3]) (n := 9) (Nat.le_of_ble_eq_true rfl)
  rw [lg_entry_eq]
  generalize (lg_sl ([.ref x0, .int x1, .int x2, .int x3]) ++ List.replicate (9 - (lg_sl ([.ref x0, .int x1, .int x2, .int x3])).length) Slot.unset).toArray = ls at hl ⊢
  have hl : lv_has ls 9 [(0, .ref x0), (1, .int x1), (2, .int x2), (3, .int x3)] := hl
  unfold fX8_digits at hf
  refine lv_aload_n hx hb dX8_digits_0 rfl (lv_at hl 0 rfl) ?_
  obtain ⟨v1, hv1, hf⟩ := g_bind hf
  refine g_getr hx hb hts hown hK hG hv1 rfl iX8 (by decide) flX8_13 dX8_digits_1 ?_
  refine lv_iload_n hx hb dX8_digits_4 rfl (lv_at hl 3 rfl) ?_
  refine lv_iconst (v := 0) hx hb dX8_digits_5 (by decide +kernel) ?_
  obtain ⟨σ2, hσ2, hf⟩ := g_bind hf
  refine g_iast hx hb hK hG hS hσ2 rfl dX8_digits_6 (fun H locs hG hS => ?_)
  refine lv_iload_n hx hb dX8_digits_7 rfl (lv_at hl 1 rfl) ?_
  refine lv_istore (lv' := [(4, .int x1), (0, .ref x0), (1, .int x1), (2, .int x2), (3, .int x3)]) hx hb dX8_digits_8 hl (by decide) rfl (fun ls hl => ?_)
  exact tLX8_digits_10 C hK  g_fuel _ _ _ _ _ _ _ _ hG hS (lv_sub hl [1, 3, 4, 0] rfl) hf

def rmX8_read : Room := { frames := 5, cells := 0, slots := 0, locals := 124 }
noncomputable def BX8_read_128  (σ : g_S) (x0 : Nat) (x1 : Int32) (x2 : Int32) (x3 : Int32) (x5 : Int32) : Option (Int32 × g_S) := if x2 ≤ x5 then ((g_o σ 8 x0).bind fun o19 => (fX8_least σ x0).bind fun r20 => (g_o r20 8 x0).bind fun o21 => (fX8_holds r20 x0 x1 x3).bind fun r22 => some (r22.1, r22.2)) else (some ((-1), σ))
noncomputable def BX8_read_122  (σ : g_S)  : Option (Int32 × g_S) := some ((-1), σ)
noncomputable def BX8_read_50  (σ : g_S) (x0 : Nat) (x1 : Int32) (x2 : Int32) (x3 : Int32) (y0 : Int32) : Option (Int32 × g_S) := (g_o σ 8 x0).bind fun o10 => (fX8_digits σ x0 y0 x2 32).bind fun r11 => if y0 < r11.1 then ((g_o r11.2 8 x0).bind fun o13 => (fX8_small r11.2 x0 33 1).bind fun r14 => (g_o r14 8 x0).bind fun o15 => (fX8_byteAt r14 x0 r11.1 x2).bind fun r16 => if r16.1 = 47 then ((g_o r16.2 8 x0).bind fun o23 => (fX8_digits r16.2 x0 (r11.1 + 1) x2 33).bind fun r24 => if r24.1 ≤ (r11.1 + 1) then (BX8_read_122 r24.2) else ((g_o r24.2 8 x0).bind fun o26 => (fX8_isZero r24.2 x0 33).bind fun r27 => if r27.1 = 0 then (BX8_read_128 r27.2 x0 x1 x2 x3 r24.1) else (BX8_read_122 r27.2))) else (BX8_read_128 r16.2 x0 x1 x2 x3 r11.1)) else (some ((-1), r11.2))
noncomputable def BX8_read_40  (σ : g_S) (x0 : Nat) (x1 : Int32) (x2 : Int32) (y0 : Int32) : Option (Int32 × g_S) := if y0 = 0 then (BX8_read_50 σ x0 x1 x2 y0 0) else (BX8_read_50 σ x0 x1 x2 y0 1)
noncomputable def fX8_read (σ : g_S) (x0 : Nat) (x1 : Int32) : Option (Int32 × g_S) := (g_p σ 8 x0 0 (.int 0)).bind fun σ1 => (g_fi σ1 8 x0 5).bind fun v2 => (g_p σ1 8 x0 5 (.int 0)).bind fun σ3 => (fX8_isPlace σ3 x1).bind fun r4 => if r4.1 = 0 then (some ((-1), r4.2)) else ((g_o r4.2 8 x0).bind fun o6 => (fX8_byteAt r4.2 x0 0 v2).bind fun r7 => if r7.1 = 45 then (BX8_read_40 r7.2 x0 x1 v2 1) else (BX8_read_40 r7.2 x0 x1 v2 0))
set_option maxHeartbeats 4000000 in
set_option maxRecDepth 100000 in
theorem tBX8_read_128 {p : Program} {l : Launch} {e : Env} {s : State} {m : MethodId} {args : Array Value} {below : List Frame} {meth : Method} {c : Code} {D : g_D} {out : Int32 × g_S} (C : g_C RX8 cX8_read 7 (some .int) True p s m args meth c) (hK : g_K D s)  : ∀ (σ : g_S) (x0 : Nat) (x1 : Int32) (x2 : Int32) (x3 : Int32) (x5 : Int32) (H : Heap) (locs : List Loc) (ls : Array Slot), g_H D σ H → va_S (g_A D) s.heap H locs → lv_has ls 7 [(0, .ref x0), (1, .int x1), (2, .int x2), (3, .int x3), (5, .int x5)] → BX8_read_128  σ x0 x1 x2 x3 x5 = some out → W p l e rmX8_read s m args below meth c H locs 0 0 (MQ below (g_Q D out.2 (some (.int out.1))) args s 0 0 (g_A D)) (F0 m 128 ls []) := by
  obtain ⟨hx, hb, hml, hown, hts, hr, hlocks, hin⟩ := id C
  intro σ x0 x1 x2 x3 x5 H locs ls hG hS hl hf
  unfold BX8_read_128 at hf
  refine lv_iload hx hb dX8_read_128 (lv_at hl 4 rfl) ?_
  refine lv_iload_n hx hb dX8_read_130 rfl (lv_at hl 2 rfl) ?_
  refine lv_icmp_ge (tgt := 136) hx hb dX8_read_131 (by decide) (fun c18 => ?_) (fun c18 => ?_)
  · rw [if_pos c18] at hf
    refine lv_aload_n hx hb dX8_read_136 rfl (lv_at hl 0 rfl) ?_
    obtain ⟨o19, ho19, hf⟩ := g_bind hf
    obtain ⟨r20, hr20, hf⟩ := g_bind hf
    refine g_callV hx hb hml hl.1 hts hown hK hG hS (As := []) (rest := []) (tX8_least l D hr20) vX8_least mlX8_105 ho19 rfl rfl rfl rfl ⟨Nat.le_of_ble_eq_true rfl, Nat.le_of_ble_eq_true rfl⟩ rfl rfl (Nat.le_of_ble_eq_true rfl) ⟨Nat.le_of_ble_eq_true rfl, Nat.le_of_ble_eq_true rfl⟩ dX8_read_137 (fun H locs hG hS => ?_)
    refine lv_aload_n hx hb dX8_read_140 rfl (lv_at hl 0 rfl) ?_
    refine lv_iload_n hx hb dX8_read_141 rfl (lv_at hl 1 rfl) ?_
    refine lv_iload_n hx hb dX8_read_142 rfl (lv_at hl 3 rfl) ?_
    obtain ⟨o21, ho21, hf⟩ := g_bind hf
    obtain ⟨r22, hr22, hf⟩ := g_bind hf
    refine g_callV hx hb hml hl.1 hts hown hK hG hS (As := [.int x1, .int x3]) (rest := []) (tX8_holds l D hr22) vX8_holds mlX8_108 ho21 rfl rfl rfl rfl ⟨Nat.le_of_ble_eq_true rfl, Nat.le_of_ble_eq_true rfl⟩ rfl rfl (Nat.le_of_ble_eq_true rfl) ⟨Nat.le_of_ble_eq_true rfl, Nat.le_of_ble_eq_true rfl⟩ dX8_read_143 (fun H locs hG hS => ?_)
    cases hf
    exact g_iret hx hb hr hlocks hG hS dX8_read_146
  · rw [if_neg c18] at hf
    refine lv_iconst (v := (-1)) hx hb dX8_read_134 (by decide +kernel) ?_
    cases hf
    exact g_iret hx hb hr hlocks hG hS dX8_read_135

set_option maxHeartbeats 4000000 in
set_option maxRecDepth 100000 in
theorem tBX8_read_122 {p : Program} {l : Launch} {e : Env} {s : State} {m : MethodId} {args : Array Value} {below : List Frame} {meth : Method} {c : Code} {D : g_D} {out : Int32 × g_S} (C : g_C RX8 cX8_read 7 (some .int) True p s m args meth c) (hK : g_K D s)  : ∀ (σ : g_S)  (H : Heap) (locs : List Loc) (ls : Array Slot), g_H D σ H → va_S (g_A D) s.heap H locs → lv_has ls 7 [] → BX8_read_122  σ  = some out → W p l e rmX8_read s m args below meth c H locs 0 0 (MQ below (g_Q D out.2 (some (.int out.1))) args s 0 0 (g_A D)) (F0 m 122 ls []) := by
  obtain ⟨hx, hb, hml, hown, hts, hr, hlocks, hin⟩ := id C
  intro σ  H locs ls hG hS hl hf
  unfold BX8_read_122 at hf
  refine lv_iconst (v := (-1)) hx hb dX8_read_122 (by decide +kernel) ?_
  cases hf
  exact g_iret hx hb hr hlocks hG hS dX8_read_123

set_option maxHeartbeats 4000000 in
set_option maxRecDepth 100000 in
theorem tBX8_read_50 {p : Program} {l : Launch} {e : Env} {s : State} {m : MethodId} {args : Array Value} {below : List Frame} {meth : Method} {c : Code} {D : g_D} {out : Int32 × g_S} (C : g_C RX8 cX8_read 7 (some .int) True p s m args meth c) (hK : g_K D s)  : ∀ (σ : g_S) (x0 : Nat) (x1 : Int32) (x2 : Int32) (x3 : Int32) (y0 : Int32) (H : Heap) (locs : List Loc) (ls : Array Slot), g_H D σ H → va_S (g_A D) s.heap H locs → lv_has ls 7 [(0, .ref x0), (1, .int x1), (2, .int x2), (3, .int x3)] → BX8_read_50  σ x0 x1 x2 x3 y0 = some out → W p l e rmX8_read s m args below meth c H locs 0 0 (MQ below (g_Q D out.2 (some (.int out.1))) args s 0 0 (g_A D)) (F0 m 50 ls [.int y0]) := by
  obtain ⟨hx, hb, hml, hown, hts, hr, hlocks, hin⟩ := id C
  intro σ x0 x1 x2 x3 y0 H locs ls hG hS hl hf
  unfold BX8_read_50 at hf
  refine lv_istore (lv' := [(4, .int y0), (0, .ref x0), (1, .int x1), (2, .int x2), (3, .int x3)]) hx hb dX8_read_50 hl (by decide) rfl (fun ls hl => ?_)
  refine lv_aload_n hx hb dX8_read_52 rfl (lv_at hl 1 rfl) ?_
  refine lv_iload hx hb dX8_read_53 (lv_at hl 0 rfl) ?_
  refine lv_iload_n hx hb dX8_read_55 rfl (lv_at hl 3 rfl) ?_
  refine lv_bipush (v := 32) hx hb dX8_read_56 (by decide +kernel) ?_
  obtain ⟨o10, ho10, hf⟩ := g_bind hf
  obtain ⟨r11, hr11, hf⟩ := g_bind hf
  refine g_callV hx hb hml hl.1 hts hown hK hG hS (As := [.int y0, .int x2, .int 32]) (rest := []) (tX8_digits l D hr11) vX8_digits mlX8_101 ho10 rfl rfl rfl rfl ⟨Nat.le_of_ble_eq_true rfl, Nat.le_of_ble_eq_true rfl⟩ rfl rfl (Nat.le_of_ble_eq_true rfl) ⟨Nat.le_of_ble_eq_true rfl, Nat.le_of_ble_eq_true rfl⟩ dX8_read_58 (fun H locs hG hS => ?_)
  refine lv_istore (lv' := [(5, .int r11.1), (4, .int y0), (0, .ref x0), (1, .int x1), (2, .int x2), (3, .int x3)]) hx hb dX8_read_61 hl (by decide) rfl (fun ls hl => ?_)
  refine lv_iload hx hb dX8_read_63 (lv_at hl 0 rfl) ?_
  refine lv_iload hx hb dX8_read_65 (lv_at hl 1 rfl) ?_
  refine lv_icmp_gt (tgt := 72) hx hb dX8_read_67 (by decide) (fun c12 => ?_) (fun c12 => ?_)
  · rw [if_pos c12] at hf
    refine lv_aload_n hx hb dX8_read_72 rfl (lv_at hl 2 rfl) ?_
    refine lv_bipush (v := 33) hx hb dX8_read_73 (by decide +kernel) ?_
    refine lv_iconst (v := 1) hx hb dX8_read_75 (by decide +kernel) ?_
    obtain ⟨o13, ho13, hf⟩ := g_bind hf
    obtain ⟨r14, hr14, hf⟩ := g_bind hf
    refine g_callV hx hb hml hl.1 hts hown hK hG hS (As := [.int 33, .int 1]) (rest := []) (tX8_small l D hr14) vX8_small mlX8_26 ho13 rfl rfl rfl rfl ⟨Nat.le_of_ble_eq_true rfl, Nat.le_of_ble_eq_true rfl⟩ rfl rfl (Nat.le_of_ble_eq_true rfl) ⟨Nat.le_of_ble_eq_true rfl, Nat.le_of_ble_eq_true rfl⟩ dX8_read_76 (fun H locs hG hS => ?_)
    refine lv_aload_n hx hb dX8_read_79 rfl (lv_at hl 2 rfl) ?_
    refine lv_iload hx hb dX8_read_80 (lv_at hl 0 rfl) ?_
    refine lv_iload_n hx hb dX8_read_82 rfl (lv_at hl 4 rfl) ?_
    obtain ⟨o15, ho15, hf⟩ := g_bind hf
    obtain ⟨r16, hr16, hf⟩ := g_bind hf
    refine g_callV hx hb hml hl.1 hts hown hK hG hS (As := [.int r11.1, .int x2]) (rest := []) (tX8_byteAt l D hr16) vX8_byteAt mlX8_92 ho15 rfl rfl rfl rfl ⟨Nat.le_of_ble_eq_true rfl, Nat.le_of_ble_eq_true rfl⟩ rfl rfl (Nat.le_of_ble_eq_true rfl) ⟨Nat.le_of_ble_eq_true rfl, Nat.le_of_ble_eq_true rfl⟩ dX8_read_83 (fun H locs hG hS => ?_)
    refine lv_bipush (v := 47) hx hb dX8_read_86 (by decide +kernel) ?_
    refine lv_icmp_ne (tgt := 128) hx hb dX8_read_88 (by decide) (fun c17 => ?_) (fun c17 => ?_)
    · rw [if_neg c17] at hf
      exact tBX8_read_128 C hK   _ _ _ _ _ _ _ _ _ hG hS (lv_sub hl [2, 3, 4, 5, 0] rfl) hf
    · rw [if_pos c17] at hf
      refine lv_aload_n hx hb dX8_read_91 rfl (lv_at hl 2 rfl) ?_
      refine lv_iload hx hb dX8_read_92 (lv_at hl 0 rfl) ?_
      refine lv_iconst (v := 1) hx hb dX8_read_94 (by decide +kernel) ?_
      refine lv_iadd hx hb dX8_read_95 ?_
      refine lv_iload_n hx hb dX8_read_96 rfl (lv_at hl 4 rfl) ?_
      refine lv_bipush (v := 33) hx hb dX8_read_97 (by decide +kernel) ?_
      obtain ⟨o23, ho23, hf⟩ := g_bind hf
      obtain ⟨r24, hr24, hf⟩ := g_bind hf
      refine g_callV hx hb hml hl.1 hts hown hK hG hS (As := [.int (r11.1 + 1), .int x2, .int 33]) (rest := []) (tX8_digits l D hr24) vX8_digits mlX8_101 ho23 rfl rfl rfl rfl ⟨Nat.le_of_ble_eq_true rfl, Nat.le_of_ble_eq_true rfl⟩ rfl rfl (Nat.le_of_ble_eq_true rfl) ⟨Nat.le_of_ble_eq_true rfl, Nat.le_of_ble_eq_true rfl⟩ dX8_read_99 (fun H locs hG hS => ?_)
      refine lv_istore (lv' := [(6, .int r24.1), (5, .int r11.1), (4, .int y0), (0, .ref x0), (1, .int x1), (2, .int x2), (3, .int x3)]) hx hb dX8_read_102 hl (by decide) rfl (fun ls hl => ?_)
      refine lv_iload hx hb dX8_read_104 (lv_at hl 0 rfl) ?_
      refine lv_iload hx hb dX8_read_106 (lv_at hl 1 rfl) ?_
      refine lv_iconst (v := 1) hx hb dX8_read_108 (by decide +kernel) ?_
      refine lv_iadd hx hb dX8_read_109 ?_
      refine lv_icmp_le (tgt := 122) hx hb dX8_read_110 (by decide) (fun c25 => ?_) (fun c25 => ?_)
      · rw [if_pos c25] at hf
        exact tBX8_read_122 C hK   _  _ _ _ hG hS (lv_sub hl [] rfl) hf
      · rw [if_neg c25] at hf
        refine lv_aload_n hx hb dX8_read_113 rfl (lv_at hl 3 rfl) ?_
        refine lv_bipush (v := 33) hx hb dX8_read_114 (by decide +kernel) ?_
        obtain ⟨o26, ho26, hf⟩ := g_bind hf
        obtain ⟨r27, hr27, hf⟩ := g_bind hf
        refine g_callV hx hb hml hl.1 hts hown hK hG hS (As := [.int 33]) (rest := []) (tX8_isZero l D hr27) vX8_isZero mlX8_73 ho26 rfl rfl rfl rfl ⟨Nat.le_of_ble_eq_true rfl, Nat.le_of_ble_eq_true rfl⟩ rfl rfl (Nat.le_of_ble_eq_true rfl) ⟨Nat.le_of_ble_eq_true rfl, Nat.le_of_ble_eq_true rfl⟩ dX8_read_116 (fun H locs hG hS => ?_)
        refine lv_if_eq (tgt := 124) hx hb dX8_read_119 (by decide) (fun c28 => ?_) (fun c28 => ?_)
        · rw [if_pos c28] at hf
          refine lv_iload hx hb dX8_read_124 (lv_at hl 0 rfl) ?_
          refine lv_istore (lv' := [(5, .int r24.1), (6, .int r24.1), (4, .int y0), (0, .ref x0), (1, .int x1), (2, .int x2), (3, .int x3)]) hx hb dX8_read_126 hl (by decide) rfl (fun ls hl => ?_)
          exact tBX8_read_128 C hK   _ _ _ _ _ _ _ _ _ hG hS (lv_sub hl [3, 4, 5, 6, 0] rfl) hf
        · rw [if_neg c28] at hf
          exact tBX8_read_122 C hK   _  _ _ _ hG hS (lv_sub hl [] rfl) hf
  · rw [if_neg c12] at hf
    refine lv_iconst (v := (-1)) hx hb dX8_read_70 (by decide +kernel) ?_
    cases hf
    exact g_iret hx hb hr hlocks hG hS dX8_read_71

set_option maxHeartbeats 4000000 in
set_option maxRecDepth 100000 in
theorem tBX8_read_40 {p : Program} {l : Launch} {e : Env} {s : State} {m : MethodId} {args : Array Value} {below : List Frame} {meth : Method} {c : Code} {D : g_D} {out : Int32 × g_S} (C : g_C RX8 cX8_read 7 (some .int) True p s m args meth c) (hK : g_K D s)  : ∀ (σ : g_S) (x0 : Nat) (x1 : Int32) (x2 : Int32) (y0 : Int32) (H : Heap) (locs : List Loc) (ls : Array Slot), g_H D σ H → va_S (g_A D) s.heap H locs → lv_has ls 7 [(0, .ref x0), (1, .int x1), (2, .int x2)] → BX8_read_40  σ x0 x1 x2 y0 = some out → W p l e rmX8_read s m args below meth c H locs 0 0 (MQ below (g_Q D out.2 (some (.int out.1))) args s 0 0 (g_A D)) (F0 m 40 ls [.int y0]) := by
  obtain ⟨hx, hb, hml, hown, hts, hr, hlocks, hin⟩ := id C
  intro σ x0 x1 x2 y0 H locs ls hG hS hl hf
  unfold BX8_read_40 at hf
  refine lv_istore_n (lv' := [(3, .int y0), (0, .ref x0), (1, .int x1), (2, .int x2)]) hx hb dX8_read_40 rfl hl (by decide) rfl (fun ls hl => ?_)
  refine lv_iload_n hx hb dX8_read_41 rfl (lv_at hl 0 rfl) ?_
  refine lv_if_eq (tgt := 49) hx hb dX8_read_42 (by decide) (fun c9 => ?_) (fun c9 => ?_)
  · rw [if_pos c9] at hf
    refine lv_iconst (v := 0) hx hb dX8_read_49 (by decide +kernel) ?_
    exact tBX8_read_50 C hK   _ _ _ _ _ _ _ _ _ hG hS (lv_sub hl [1, 2, 3, 0] rfl) hf
  · rw [if_neg c9] at hf
    refine lv_iconst (v := 1) hx hb dX8_read_45 (by decide +kernel) ?_
    refine lv_goto (tgt := 50) hx hb dX8_read_46 (by decide) ?_
    exact tBX8_read_50 C hK   _ _ _ _ _ _ _ _ _ hG hS (lv_sub hl [1, 2, 3, 0] rfl) hf

set_option maxHeartbeats 4000000 in
set_option maxRecDepth 100000 in
theorem tX8_read (l : Launch) (D : g_D) {σ : g_S} {x0 : Nat} {x1 : Int32} {out : Int32 × g_S} (hf : fX8_read σ x0 x1 = some out) : Met l yX8_read (Cond.code yX8_read cX8_read 7 (some .int) :: lw_g) rmX8_read (g_P D σ [.ref x0, .int x1]) (g_Q D out.2 (some (.int out.1))) 0 0 (g_A D) := by
  refine Met.ofW (cc := cX8_read) (maxL := 7) (ret := (some .int)) (by decide +kernel) rfl ?_
  intro p e s m args below meth c s₁ B hml hv
  obtain ⟨rfl, hG, hK⟩ := hv
  have hts : ∀ w ∈ lw_g, w.before _ s = true := fun w h => atoms_spec (ws := (Cond.code yX8_read cX8_read 7 (some .int) :: lw_g)) B.pre w (List.mem_cons_of_mem _ h)
  have C : g_C RX8 cX8_read 7 (some .int) True p s m _ meth c := ⟨B.exec, B.bytes, hml, findClass_of_methodNamed B.named, hts, B.returns, B.notSynchronized, trivial⟩
  obtain ⟨hx, hb, hml, hown, hts, hr, hlocks, hin⟩ := id C
  have hS : va_S (g_A D) s.heap s.heap [] := va_S.rf
  have hl := lv_entry ([.ref x0, .int x1]) (n := 7) (Nat.le_of_ble_eq_true rfl)
  rw [lg_entry_eq]
  generalize (lg_sl ([.ref x0, .int x1]) ++ List.replicate (7 - (lg_sl ([.ref x0, .int x1])).length) Slot.unset).toArray = ls at hl ⊢
  have hl : lv_has ls 7 [(0, .ref x0), (1, .int x1)] := hl
  unfold fX8_read at hf
  refine lv_aload_n hx hb dX8_read_0 rfl (lv_at hl 0 rfl) ?_
  refine lv_iconst (v := 0) hx hb dX8_read_1 (by decide +kernel) ?_
  obtain ⟨σ1, hσ1, hf⟩ := g_bind hf
  refine g_put hx hb hts hown hK hG hS hσ1 rfl iX8 tyX8 tyX8_ok nmX8 (by decide) flX8_30 rfl rfl rfl dX8_read_2 (fun H locs hG hS => ?_)
  refine lv_aload_n hx hb dX8_read_5 rfl (lv_at hl 0 rfl) ?_
  obtain ⟨v2, hv2, hf⟩ := g_bind hf
  refine g_geti hx hb hts hown hK hG hv2 rfl iX8 (by decide) flX8_89 dX8_read_6 ?_
  refine lv_istore_n (lv' := [(2, .int v2), (0, .ref x0), (1, .int x1)]) hx hb dX8_read_9 rfl hl (by decide) rfl (fun ls hl => ?_)
  refine lv_aload_n hx hb dX8_read_10 rfl (lv_at hl 1 rfl) ?_
  refine lv_iconst (v := 0) hx hb dX8_read_11 (by decide +kernel) ?_
  obtain ⟨σ3, hσ3, hf⟩ := g_bind hf
  refine g_put hx hb hts hown hK hG hS hσ3 rfl iX8 tyX8 tyX8_ok nmX8 (by decide) flX8_89 rfl rfl rfl dX8_read_12 (fun H locs hG hS => ?_)
  refine lv_iload_n hx hb dX8_read_15 rfl (lv_at hl 2 rfl) ?_
  obtain ⟨r4, hr4, hf⟩ := g_bind hf
  refine g_callS hx hb hml hl.1 hts hown hK hG hS (As := [.int x1]) (rest := []) (tX8_isPlace l D hr4) vX8_isPlace mlX8_98 rfl rfl ⟨Nat.le_of_ble_eq_true rfl, Nat.le_of_ble_eq_true rfl⟩ rfl rfl (Nat.le_of_ble_eq_true rfl) ⟨Nat.le_of_ble_eq_true rfl, Nat.le_of_ble_eq_true rfl⟩ dX8_read_16 (fun H locs hG hS => ?_)
  refine lv_if_ne (tgt := 24) hx hb dX8_read_19 (by decide) (fun c5 => ?_) (fun c5 => ?_)
  · rw [if_neg c5] at hf
    refine lv_aload_n hx hb dX8_read_24 rfl (lv_at hl 1 rfl) ?_
    refine lv_iconst (v := 0) hx hb dX8_read_25 (by decide +kernel) ?_
    refine lv_iload_n hx hb dX8_read_26 rfl (lv_at hl 0 rfl) ?_
    obtain ⟨o6, ho6, hf⟩ := g_bind hf
    obtain ⟨r7, hr7, hf⟩ := g_bind hf
    refine g_callV hx hb hml hl.1 hts hown hK hG hS (As := [.int 0, .int v2]) (rest := []) (tX8_byteAt l D hr7) vX8_byteAt mlX8_92 ho6 rfl rfl rfl rfl ⟨Nat.le_of_ble_eq_true rfl, Nat.le_of_ble_eq_true rfl⟩ rfl rfl (Nat.le_of_ble_eq_true rfl) ⟨Nat.le_of_ble_eq_true rfl, Nat.le_of_ble_eq_true rfl⟩ dX8_read_27 (fun H locs hG hS => ?_)
    refine lv_bipush (v := 45) hx hb dX8_read_30 (by decide +kernel) ?_
    refine lv_icmp_ne (tgt := 39) hx hb dX8_read_32 (by decide) (fun c8 => ?_) (fun c8 => ?_)
    · rw [if_neg c8] at hf
      refine lv_iconst (v := 0) hx hb dX8_read_39 (by decide +kernel) ?_
      exact tBX8_read_40 C hK   _ _ _ _ _ _ _ _ hG hS (lv_sub hl [1, 2, 0] rfl) hf
    · rw [if_pos c8] at hf
      refine lv_iconst (v := 1) hx hb dX8_read_35 (by decide +kernel) ?_
      refine lv_goto (tgt := 40) hx hb dX8_read_36 (by decide) ?_
      exact tBX8_read_40 C hK   _ _ _ _ _ _ _ _ hG hS (lv_sub hl [1, 2, 0] rfl) hf
  · rw [if_pos c5] at hf
    refine lv_iconst (v := (-1)) hx hb dX8_read_22 (by decide +kernel) ?_
    cases hf
    exact g_iret hx hb hr hlocks hG hS dX8_read_23

def rmX8_set : Room := { frames := 3, cells := 0, slots := 0, locals := 68 }
noncomputable def BX8_set_99  (σ : g_S) (y0 : Nat) (y1 : Int32) (y2 : Int32) : Option (Int32 × g_S) := (g_o σ 8 y0).bind fun o10 => (fX8_holds σ y0 y1 y2).bind fun r11 => some (r11.1, r11.2)
noncomputable def BX8_set_54 (k20 : g_S → Nat → Int32 → Int64 → Int64 → Int32 → Option (Int32 × g_S)) (σ : g_S) (x0 : Nat) (x1 : Int32) (x2 : Int64) (x4 : Int64) (x6 : Int32) (y0 : Nat) (y1 : Int32) (y2 : Int32) (y3 : Int64) : Option (Int32 × g_S) := (g_o σ 8 y0).bind fun o14 => (fX8_puts σ y0 y1 y2 y3.toInt32).bind fun r15 => g_let (x4 / 65536) fun v16 => g_let (x6 + 1) fun v17 => k20 r15 x0 x1 x2 v16 v17
noncomputable def LX8_set_20  : Nat → g_S → Nat → Int32 → Int64 → Int64 → Int32 → Option (Int32 × g_S)
  | 0, _, _, _, _, _, _ => none
  | n + 1, σ, x0, x1, x2, x4, x6 => if 4 ≤ x6 then ((g_o σ 8 x0).bind fun o5 => (fX8_trim σ x0 32 4).bind fun r6 => (g_o r6 8 x0).bind fun o7 => (fX8_small r6 x0 33 1).bind fun r8 => if 0 ≤ (lg_cmp x2 0) then (BX8_set_99 r8 x0 x1 0) else (BX8_set_99 r8 x0 x1 1)) else (g_let (g_lrem x4 65536) fun v12 => if 0 ≤ (lg_cmp v12 0) then (BX8_set_54 (LX8_set_20  n) σ x0 x1 x2 x4 x6 x0 32 x6 v12) else (BX8_set_54 (LX8_set_20  n) σ x0 x1 x2 x4 x6 x0 32 x6 (-v12)))
noncomputable def fX8_set (σ : g_S) (x0 : Nat) (x1 : Int32) (x2 : Int64) : Option (Int32 × g_S) := (g_p σ 8 x0 0 (.int 0)).bind fun σ1 => (fX8_isPlace σ1 x1).bind fun r2 => if r2.1 = 0 then (some ((-1), r2.2)) else (LX8_set_20 g_fuel r2.2 x0 x1 x2 x2 0)
set_option maxHeartbeats 4000000 in
set_option maxRecDepth 100000 in
theorem tBX8_set_99 {p : Program} {l : Launch} {e : Env} {s : State} {m : MethodId} {args : Array Value} {below : List Frame} {meth : Method} {c : Code} {D : g_D} {out : Int32 × g_S} (C : g_C RX8 cX8_set 9 (some .int) True p s m args meth c) (hK : g_K D s)  : ∀ (σ : g_S) (y0 : Nat) (y1 : Int32) (y2 : Int32) (H : Heap) (locs : List Loc) (ls : Array Slot), g_H D σ H → va_S (g_A D) s.heap H locs → lv_has ls 9 [] → BX8_set_99  σ y0 y1 y2 = some out → W p l e rmX8_set s m args below meth c H locs 0 0 (MQ below (g_Q D out.2 (some (.int out.1))) args s 0 0 (g_A D)) (F0 m 99 ls [.int y2, .int y1, .ref y0]) := by
  obtain ⟨hx, hb, hml, hown, hts, hr, hlocks, hin⟩ := id C
  intro σ y0 y1 y2 H locs ls hG hS hl hf
  unfold BX8_set_99 at hf
  obtain ⟨o10, ho10, hf⟩ := g_bind hf
  obtain ⟨r11, hr11, hf⟩ := g_bind hf
  refine g_callV hx hb hml hl.1 hts hown hK hG hS (As := [.int y1, .int y2]) (rest := []) (tX8_holds l D hr11) vX8_holds mlX8_108 ho10 rfl rfl rfl rfl ⟨Nat.le_of_ble_eq_true rfl, Nat.le_of_ble_eq_true rfl⟩ rfl rfl (Nat.le_of_ble_eq_true rfl) ⟨Nat.le_of_ble_eq_true rfl, Nat.le_of_ble_eq_true rfl⟩ dX8_set_99 (fun H locs hG hS => ?_)
  cases hf
  exact g_iret hx hb hr hlocks hG hS dX8_set_102

set_option maxHeartbeats 4000000 in
set_option maxRecDepth 100000 in
theorem tBX8_set_54 {p : Program} {l : Launch} {e : Env} {s : State} {m : MethodId} {args : Array Value} {below : List Frame} {meth : Method} {c : Code} {D : g_D} {out : Int32 × g_S} (C : g_C RX8 cX8_set 9 (some .int) True p s m args meth c) (hK : g_K D s) (k20 : g_S → Nat → Int32 → Int64 → Int64 → Int32 → Option (Int32 × g_S)) (hk20 : ∀ (σ : g_S) (x0 : Nat) (x1 : Int32) (x2 : Int64) (x4 : Int64) (x6 : Int32) (H : Heap) (locs : List Loc) (ls : Array Slot), g_H D σ H → va_S (g_A D) s.heap H locs → lv_has ls 9 [(0, .ref x0), (1, .int x1), (2, .long x2), (4, .long x4), (6, .int x6)] → k20 σ x0 x1 x2 x4 x6 = some out → W p l e rmX8_set s m args below meth c H locs 0 0 (MQ below (g_Q D out.2 (some (.int out.1))) args s 0 0 (g_A D)) (F0 m 20 ls [])) : ∀ (σ : g_S) (x0 : Nat) (x1 : Int32) (x2 : Int64) (x4 : Int64) (x6 : Int32) (y0 : Nat) (y1 : Int32) (y2 : Int32) (y3 : Int64) (H : Heap) (locs : List Loc) (ls : Array Slot), g_H D σ H → va_S (g_A D) s.heap H locs → lv_has ls 9 [(0, .ref x0), (1, .int x1), (2, .long x2), (4, .long x4), (6, .int x6)] → BX8_set_54 k20 σ x0 x1 x2 x4 x6 y0 y1 y2 y3 = some out → W p l e rmX8_set s m args below meth c H locs 0 0 (MQ below (g_Q D out.2 (some (.int out.1))) args s 0 0 (g_A D)) (F0 m 54 ls [.long y3, .int y2, .int y1, .ref y0]) := by
  obtain ⟨hx, hb, hml, hown, hts, hr, hlocks, hin⟩ := id C
  intro σ x0 x1 x2 x4 x6 y0 y1 y2 y3 H locs ls hG hS hl hf
  unfold BX8_set_54 at hf
  refine lv_l2i (v := y3.toInt32) hx hb dX8_set_54 rfl ?_
  obtain ⟨o14, ho14, hf⟩ := g_bind hf
  obtain ⟨r15, hr15, hf⟩ := g_bind hf
  refine g_callV hx hb hml hl.1 hts hown hK hG hS (As := [.int y1, .int y2, .int y3.toInt32]) (rest := []) (tX8_puts l D hr15) vX8_puts mlX8_34 ho14 rfl rfl rfl rfl ⟨Nat.le_of_ble_eq_true rfl, Nat.le_of_ble_eq_true rfl⟩ rfl rfl (Nat.le_of_ble_eq_true rfl) ⟨Nat.le_of_ble_eq_true rfl, Nat.le_of_ble_eq_true rfl⟩ dX8_set_55 (fun H locs hG hS => ?_)
  refine lv_lload hx hb dX8_set_58 (lv_at hl 3 rfl) ?_
  refine lv_ldc2 (v := 65536) hx hb hown (hts _ coX8_46) dX8_set_60 ?_
  refine lv_ldiv hx hb dX8_set_63 (by decide) ?_
  obtain ⟨v16, ev16, hf⟩ := g_let_spec hf
  refine g_topl ev16 ?_
  refine lv_lstore (lv' := [(4, .long v16), (0, .ref x0), (1, .int x1), (2, .long x2), (6, .int x6)]) hx hb dX8_set_64 hl (by decide) rfl (fun ls hl => ?_)
  obtain ⟨v17, ev17, hf⟩ := g_let_spec hf
  refine lv_iinc (v := v17) (lv' := [(6, .int v17), (4, .long v16), (0, .ref x0), (1, .int x1), (2, .long x2)]) hx hb dX8_set_66 hl (k := 4) rfl (by rw [← ev17]; rfl) (by decide) rfl (fun ls hl => ?_)
  refine lv_goto (tgt := 20) hx hb dX8_set_69 (by decide) ?_
  exact hk20 _ _ _ _ _ _ _ _ _ hG hS (lv_sub hl [2, 3, 4, 1, 0] rfl) hf

set_option maxHeartbeats 4000000 in
set_option maxRecDepth 100000 in
theorem tLX8_set_20 {p : Program} {l : Launch} {e : Env} {s : State} {m : MethodId} {args : Array Value} {below : List Frame} {meth : Method} {c : Code} {D : g_D} {out : Int32 × g_S} (C : g_C RX8 cX8_set 9 (some .int) True p s m args meth c) (hK : g_K D s)  : ∀ (n : Nat) (σ : g_S) (x0 : Nat) (x1 : Int32) (x2 : Int64) (x4 : Int64) (x6 : Int32) (H : Heap) (locs : List Loc) (ls : Array Slot), g_H D σ H → va_S (g_A D) s.heap H locs → lv_has ls 9 [(0, .ref x0), (1, .int x1), (2, .long x2), (4, .long x4), (6, .int x6)] → LX8_set_20  n σ x0 x1 x2 x4 x6 = some out → W p l e rmX8_set s m args below meth c H locs 0 0 (MQ below (g_Q D out.2 (some (.int out.1))) args s 0 0 (g_A D)) (F0 m 20 ls [])  := by
  obtain ⟨hx, hb, hml, hown, hts, hr, hlocks, hin⟩ := id C
  intro n
  induction n with
  | zero => intro σ x0 x1 x2 x4 x6 H locs ls hG hS hl hf; cases hf
  | succ n ih =>
    intro σ x0 x1 x2 x4 x6 H locs ls hG hS hl hf
    have hf : (if 4 ≤ x6 then ((g_o σ 8 x0).bind fun o5 => (fX8_trim σ x0 32 4).bind fun r6 => (g_o r6 8 x0).bind fun o7 => (fX8_small r6 x0 33 1).bind fun r8 => if 0 ≤ (lg_cmp x2 0) then (BX8_set_99 r8 x0 x1 0) else (BX8_set_99 r8 x0 x1 1)) else (g_let (g_lrem x4 65536) fun v12 => if 0 ≤ (lg_cmp v12 0) then (BX8_set_54 (LX8_set_20  n) σ x0 x1 x2 x4 x6 x0 32 x6 v12) else (BX8_set_54 (LX8_set_20  n) σ x0 x1 x2 x4 x6 x0 32 x6 (-v12)))) = some out := hf
    have hk20 := ih
    refine lv_iload hx hb dX8_set_20 (lv_at hl 4 rfl) ?_
    refine lv_iconst (v := 4) hx hb dX8_set_22 (by decide +kernel) ?_
    refine lv_icmp_ge (tgt := 72) hx hb dX8_set_23 (by decide) (fun c4 => ?_) (fun c4 => ?_)
    · rw [if_pos c4] at hf
      refine lv_aload_n hx hb dX8_set_72 rfl (lv_at hl 0 rfl) ?_
      refine lv_bipush (v := 32) hx hb dX8_set_73 (by decide +kernel) ?_
      refine lv_iconst (v := 4) hx hb dX8_set_75 (by decide +kernel) ?_
      obtain ⟨o5, ho5, hf⟩ := g_bind hf
      obtain ⟨r6, hr6, hf⟩ := g_bind hf
      refine g_callV hx hb hml hl.1 hts hown hK hG hS (As := [.int 32, .int 4]) (rest := []) (tX8_trim l D hr6) vX8_trim mlX8_38 ho5 rfl rfl rfl rfl ⟨Nat.le_of_ble_eq_true rfl, Nat.le_of_ble_eq_true rfl⟩ rfl rfl (Nat.le_of_ble_eq_true rfl) ⟨Nat.le_of_ble_eq_true rfl, Nat.le_of_ble_eq_true rfl⟩ dX8_set_76 (fun H locs hG hS => ?_)
      refine lv_aload_n hx hb dX8_set_79 rfl (lv_at hl 0 rfl) ?_
      refine lv_bipush (v := 33) hx hb dX8_set_80 (by decide +kernel) ?_
      refine lv_iconst (v := 1) hx hb dX8_set_82 (by decide +kernel) ?_
      obtain ⟨o7, ho7, hf⟩ := g_bind hf
      obtain ⟨r8, hr8, hf⟩ := g_bind hf
      refine g_callV hx hb hml hl.1 hts hown hK hG hS (As := [.int 33, .int 1]) (rest := []) (tX8_small l D hr8) vX8_small mlX8_26 ho7 rfl rfl rfl rfl ⟨Nat.le_of_ble_eq_true rfl, Nat.le_of_ble_eq_true rfl⟩ rfl rfl (Nat.le_of_ble_eq_true rfl) ⟨Nat.le_of_ble_eq_true rfl, Nat.le_of_ble_eq_true rfl⟩ dX8_set_83 (fun H locs hG hS => ?_)
      refine lv_aload_n hx hb dX8_set_86 rfl (lv_at hl 0 rfl) ?_
      refine lv_iload_n hx hb dX8_set_87 rfl (lv_at hl 1 rfl) ?_
      refine lv_lload_n hx hb dX8_set_88 rfl (lv_at hl 2 rfl) ?_
      refine lv_lconst (v := 0) hx hb dX8_set_89 (by decide +kernel) ?_
      refine W.lcmp hx hb dX8_set_90 ?_
      refine lv_if_ge (tgt := 98) hx hb dX8_set_91 (by decide) (fun c9 => ?_) (fun c9 => ?_)
      · rw [if_pos c9] at hf
        refine lv_iconst (v := 0) hx hb dX8_set_98 (by decide +kernel) ?_
        exact tBX8_set_99 C hK   _ _ _ _ _ _ _ hG hS (lv_sub hl [] rfl) hf
      · rw [if_neg c9] at hf
        refine lv_iconst (v := 1) hx hb dX8_set_94 (by decide +kernel) ?_
        refine lv_goto (tgt := 99) hx hb dX8_set_95 (by decide) ?_
        exact tBX8_set_99 C hK   _ _ _ _ _ _ _ hG hS (lv_sub hl [] rfl) hf
    · rw [if_neg c4] at hf
      refine lv_lload hx hb dX8_set_26 (lv_at hl 3 rfl) ?_
      refine lv_ldc2 (v := 65536) hx hb hown (hts _ coX8_46) dX8_set_28 ?_
      refine lv_lrem hx hb dX8_set_31 (by decide) ?_
      refine g_topl (y := g_lrem x4 65536) rfl ?_
      obtain ⟨v12, ev12, hf⟩ := g_let_spec hf
      refine g_topl ev12 ?_
      refine lv_lstore (lv' := [(7, .long v12), (0, .ref x0), (1, .int x1), (2, .long x2), (4, .long x4), (6, .int x6)]) hx hb dX8_set_32 hl (by decide) rfl (fun ls hl => ?_)
      refine lv_aload_n hx hb dX8_set_34 rfl (lv_at hl 1 rfl) ?_
      refine lv_bipush (v := 32) hx hb dX8_set_35 (by decide +kernel) ?_
      refine lv_iload hx hb dX8_set_37 (lv_at hl 5 rfl) ?_
      refine lv_lload hx hb dX8_set_39 (lv_at hl 0 rfl) ?_
      refine lv_lconst (v := 0) hx hb dX8_set_41 (by decide +kernel) ?_
      refine W.lcmp hx hb dX8_set_42 ?_
      refine lv_if_ge (tgt := 52) hx hb dX8_set_43 (by decide) (fun c13 => ?_) (fun c13 => ?_)
      · rw [if_pos c13] at hf
        refine lv_lload hx hb dX8_set_52 (lv_at hl 0 rfl) ?_
        exact tBX8_set_54 C hK (LX8_set_20  n) hk20  _ _ _ _ _ _ _ _ _ _ _ _ _ hG hS (lv_sub hl [1, 2, 3, 4, 5] rfl) hf
      · rw [if_neg c13] at hf
        refine lv_lload hx hb dX8_set_46 (lv_at hl 0 rfl) ?_
        refine lv_lneg hx hb dX8_set_48 ?_
        refine lv_goto (tgt := 54) hx hb dX8_set_49 (by decide) ?_
        exact tBX8_set_54 C hK (LX8_set_20  n) hk20  _ _ _ _ _ _ _ _ _ _ _ _ _ hG hS (lv_sub hl [1, 2, 3, 4, 5] rfl) hf

set_option maxHeartbeats 4000000 in
set_option maxRecDepth 100000 in
theorem tX8_set (l : Launch) (D : g_D) {σ : g_S} {x0 : Nat} {x1 : Int32} {x2 : Int64} {out : Int32 × g_S} (hf : fX8_set σ x0 x1 x2 = some out) : Met l yX8_set (Cond.code yX8_set cX8_set 9 (some .int) :: lw_g) rmX8_set (g_P D σ [.ref x0, .int x1, .long x2]) (g_Q D out.2 (some (.int out.1))) 0 0 (g_A D) := by
  refine Met.ofW (cc := cX8_set) (maxL := 9) (ret := (some .int)) (by decide +kernel) rfl ?_
  intro p e s m args below meth c s₁ B hml hv
  obtain ⟨rfl, hG, hK⟩ := hv
  have hts : ∀ w ∈ lw_g, w.before _ s = true := fun w h => atoms_spec (ws := (Cond.code yX8_set cX8_set 9 (some .int) :: lw_g)) B.pre w (List.mem_cons_of_mem _ h)
  have C : g_C RX8 cX8_set 9 (some .int) True p s m _ meth c := ⟨B.exec, B.bytes, hml, findClass_of_methodNamed B.named, hts, B.returns, B.notSynchronized, trivial⟩
  obtain ⟨hx, hb, hml, hown, hts, hr, hlocks, hin⟩ := id C
  have hS : va_S (g_A D) s.heap s.heap [] := va_S.rf
  have hl := lv_entry ([.ref x0, .int x1, .long x2]) (n := 9) (Nat.le_of_ble_eq_true rfl)
  rw [lg_entry_eq]
  generalize (lg_sl ([.ref x0, .int x1, .long x2]) ++ List.replicate (9 - (lg_sl ([.ref x0, .int x1, .long x2])).length) Slot.unset).toArray = ls at hl ⊢
  have hl : lv_has ls 9 [(0, .ref x0), (1, .int x1), (2, .long x2)] := hl
  unfold fX8_set at hf
  refine lv_aload_n hx hb dX8_set_0 rfl (lv_at hl 0 rfl) ?_
  refine lv_iconst (v := 0) hx hb dX8_set_1 (by decide +kernel) ?_
  obtain ⟨σ1, hσ1, hf⟩ := g_bind hf
  refine g_put hx hb hts hown hK hG hS hσ1 rfl iX8 tyX8 tyX8_ok nmX8 (by decide) flX8_30 rfl rfl rfl dX8_set_2 (fun H locs hG hS => ?_)
  refine lv_iload_n hx hb dX8_set_5 rfl (lv_at hl 1 rfl) ?_
  obtain ⟨r2, hr2, hf⟩ := g_bind hf
  refine g_callS hx hb hml hl.1 hts hown hK hG hS (As := [.int x1]) (rest := []) (tX8_isPlace l D hr2) vX8_isPlace mlX8_98 rfl rfl ⟨Nat.le_of_ble_eq_true rfl, Nat.le_of_ble_eq_true rfl⟩ rfl rfl (Nat.le_of_ble_eq_true rfl) ⟨Nat.le_of_ble_eq_true rfl, Nat.le_of_ble_eq_true rfl⟩ dX8_set_6 (fun H locs hG hS => ?_)
  refine lv_if_ne (tgt := 14) hx hb dX8_set_9 (by decide) (fun c3 => ?_) (fun c3 => ?_)
  · rw [if_neg c3] at hf
    refine lv_lload_n hx hb dX8_set_14 rfl (lv_at hl 2 rfl) ?_
    refine lv_lstore (lv' := [(4, .long x2), (0, .ref x0), (1, .int x1), (2, .long x2)]) hx hb dX8_set_15 hl (by decide) rfl (fun ls hl => ?_)
    refine lv_iconst (v := 0) hx hb dX8_set_17 (by decide +kernel) ?_
    refine lv_istore (lv' := [(6, .int 0), (4, .long x2), (0, .ref x0), (1, .int x1), (2, .long x2)]) hx hb dX8_set_18 hl (by decide) rfl (fun ls hl => ?_)
    exact tLX8_set_20 C hK  g_fuel _ _ _ _ _ _ _ _ _ hG hS (lv_sub hl [2, 3, 4, 1, 0] rfl) hf
  · rw [if_pos c3] at hf
    refine lv_iconst (v := (-1)) hx hb dX8_set_12 (by decide +kernel) ?_
    cases hf
    exact g_iret hx hb hr hlocks hG hS dX8_set_13

def rmX8_sums : Room := { frames := 2, cells := 0, slots := 0, locals := 55 }
noncomputable def BX8_sums_147  (σ : g_S) (y0 : Int32) : Option (Int32 × g_S) := g_if (y0 = 0 ∨ y0 = 1) <| some (y0, σ)
noncomputable def BX8_sums_135  (σ : g_S) (x4 : Int32) (x5 : Int32) (x6 : Int32) : Option (Int32 × g_S) := if x6 = 0 then (BX8_sums_147 σ x4) else (BX8_sums_147 σ x5)
noncomputable def BX8_sums_105  (σ : g_S) (x0 : Nat) (x4 : Int32) (x5 : Int32) (y0 : Int32) : Option (Int32 × g_S) := if y0 = 0 then ((g_o σ 8 x0).bind fun o17 => (fX8_subtract σ x0 34 43 32).bind fun r18 => BX8_sums_135 r18 x4 x5 y0) else ((g_o σ 8 x0).bind fun o21 => (fX8_subtract σ x0 43 34 32).bind fun r22 => BX8_sums_135 r22 x4 x5 y0)
noncomputable def BX8_sums_67  (σ : g_S) (x0 : Nat) (x4 : Int32) (y0 : Int32) : Option (Int32 × g_S) := if x4 = y0 then ((g_o σ 8 x0).bind fun o23 => (fX8_add σ x0 34 43 32).bind fun r24 => g_if (x4 = 0 ∨ x4 = 1) <| some (x4, r24)) else ((g_o σ 8 x0).bind fun o13 => (fX8_order σ x0 34 43).bind fun r14 => if 0 ≤ r14.1 then (BX8_sums_105 r14.2 x0 x4 y0 0) else (BX8_sums_105 r14.2 x0 x4 y0 1))
noncomputable def fX8_sums (σ : g_S) (x0 : Nat) (x1 : Int32) (x2 : Int32) (x3 : Int32) : Option (Int32 × g_S) := (g_o σ 8 x0).bind fun o1 => (fX8_times σ x0 (2 * x1) ((2 * x2) + 1) 34).bind fun r2 => (g_o r2 8 x0).bind fun o3 => (fX8_times r2 x0 (2 * x2) ((2 * x1) + 1) 43).bind fun r4 => (g_o r4 8 x0).bind fun o5 => (fX8_times r4 x0 ((2 * x1) + 1) ((2 * x2) + 1) 33).bind fun r6 => (g_fr r6 8 x0 3).bind fun v7 => (g_li r6 5 v7 x1).bind fun v8 => (g_fr r6 8 x0 3).bind fun v9 => (g_li r6 5 v9 x2).bind fun v10 => if v10 = x3 then (BX8_sums_67 r6 x0 v8 0) else (BX8_sums_67 r6 x0 v8 1)
set_option maxHeartbeats 4000000 in
set_option maxRecDepth 100000 in
theorem tBX8_sums_147 {p : Program} {l : Launch} {e : Env} {s : State} {m : MethodId} {args : Array Value} {below : List Frame} {meth : Method} {c : Code} {D : g_D} {out : Int32 × g_S} (C : g_C RX8 cX8_sums 7 (some .boolean) True p s m args meth c) (hK : g_K D s)  : ∀ (σ : g_S) (y0 : Int32) (H : Heap) (locs : List Loc) (ls : Array Slot), g_H D σ H → va_S (g_A D) s.heap H locs → lv_has ls 7 [] → BX8_sums_147  σ y0 = some out → W p l e rmX8_sums s m args below meth c H locs 0 0 (MQ below (g_Q D out.2 (some (.int out.1))) args s 0 0 (g_A D)) (F0 m 147 ls [.int y0]) := by
  obtain ⟨hx, hb, hml, hown, hts, hr, hlocks, hin⟩ := id C
  intro σ y0 H locs ls hG hS hl hf
  unfold BX8_sums_147 at hf
  obtain ⟨z20, hf⟩ := g_if_spec hf
  cases hf
  exact g_zret hx hb hr hlocks z20 hG hS dX8_sums_147

set_option maxHeartbeats 4000000 in
set_option maxRecDepth 100000 in
theorem tBX8_sums_135 {p : Program} {l : Launch} {e : Env} {s : State} {m : MethodId} {args : Array Value} {below : List Frame} {meth : Method} {c : Code} {D : g_D} {out : Int32 × g_S} (C : g_C RX8 cX8_sums 7 (some .boolean) True p s m args meth c) (hK : g_K D s)  : ∀ (σ : g_S) (x4 : Int32) (x5 : Int32) (x6 : Int32) (H : Heap) (locs : List Loc) (ls : Array Slot), g_H D σ H → va_S (g_A D) s.heap H locs → lv_has ls 7 [(4, .int x4), (5, .int x5), (6, .int x6)] → BX8_sums_135  σ x4 x5 x6 = some out → W p l e rmX8_sums s m args below meth c H locs 0 0 (MQ below (g_Q D out.2 (some (.int out.1))) args s 0 0 (g_A D)) (F0 m 135 ls []) := by
  obtain ⟨hx, hb, hml, hown, hts, hr, hlocks, hin⟩ := id C
  intro σ x4 x5 x6 H locs ls hG hS hl hf
  unfold BX8_sums_135 at hf
  refine lv_iload hx hb dX8_sums_135 (lv_at hl 2 rfl) ?_
  refine lv_if_eq (tgt := 145) hx hb dX8_sums_137 (by decide) (fun c19 => ?_) (fun c19 => ?_)
  · rw [if_pos c19] at hf
    refine lv_iload hx hb dX8_sums_145 (lv_at hl 0 rfl) ?_
    exact tBX8_sums_147 C hK   _ _ _ _ _ hG hS (lv_sub hl [] rfl) hf
  · rw [if_neg c19] at hf
    refine lv_iload hx hb dX8_sums_140 (lv_at hl 1 rfl) ?_
    refine lv_goto (tgt := 147) hx hb dX8_sums_142 (by decide) ?_
    exact tBX8_sums_147 C hK   _ _ _ _ _ hG hS (lv_sub hl [] rfl) hf

set_option maxHeartbeats 4000000 in
set_option maxRecDepth 100000 in
theorem tBX8_sums_105 {p : Program} {l : Launch} {e : Env} {s : State} {m : MethodId} {args : Array Value} {below : List Frame} {meth : Method} {c : Code} {D : g_D} {out : Int32 × g_S} (C : g_C RX8 cX8_sums 7 (some .boolean) True p s m args meth c) (hK : g_K D s)  : ∀ (σ : g_S) (x0 : Nat) (x4 : Int32) (x5 : Int32) (y0 : Int32) (H : Heap) (locs : List Loc) (ls : Array Slot), g_H D σ H → va_S (g_A D) s.heap H locs → lv_has ls 7 [(0, .ref x0), (4, .int x4), (5, .int x5)] → BX8_sums_105  σ x0 x4 x5 y0 = some out → W p l e rmX8_sums s m args below meth c H locs 0 0 (MQ below (g_Q D out.2 (some (.int out.1))) args s 0 0 (g_A D)) (F0 m 105 ls [.int y0]) := by
  obtain ⟨hx, hb, hml, hown, hts, hr, hlocks, hin⟩ := id C
  intro σ x0 x4 x5 y0 H locs ls hG hS hl hf
  unfold BX8_sums_105 at hf
  refine lv_istore (lv' := [(6, .int y0), (0, .ref x0), (4, .int x4), (5, .int x5)]) hx hb dX8_sums_105 hl (by decide) rfl (fun ls hl => ?_)
  refine lv_iload hx hb dX8_sums_107 (lv_at hl 0 rfl) ?_
  refine lv_if_eq (tgt := 125) hx hb dX8_sums_109 (by decide) (fun c16 => ?_) (fun c16 => ?_)
  · rw [if_pos c16] at hf
    refine lv_aload_n hx hb dX8_sums_125 rfl (lv_at hl 1 rfl) ?_
    refine lv_bipush (v := 34) hx hb dX8_sums_126 (by decide +kernel) ?_
    refine lv_bipush (v := 43) hx hb dX8_sums_128 (by decide +kernel) ?_
    refine lv_bipush (v := 32) hx hb dX8_sums_130 (by decide +kernel) ?_
    obtain ⟨o17, ho17, hf⟩ := g_bind hf
    obtain ⟨r18, hr18, hf⟩ := g_bind hf
    refine g_callV hx hb hml hl.1 hts hown hK hG hS (As := [.int 34, .int 43, .int 32]) (rest := []) (tX8_subtract l D hr18) vX8_subtract mlX8_118 ho17 rfl rfl rfl rfl ⟨Nat.le_of_ble_eq_true rfl, Nat.le_of_ble_eq_true rfl⟩ rfl rfl (Nat.le_of_ble_eq_true rfl) ⟨Nat.le_of_ble_eq_true rfl, Nat.le_of_ble_eq_true rfl⟩ dX8_sums_132 (fun H locs hG hS => ?_)
    exact tBX8_sums_135 C hK   _ _ _ _ _ _ _ hG hS (lv_sub hl [2, 3, 0] rfl) hf
  · rw [if_neg c16] at hf
    refine lv_aload_n hx hb dX8_sums_112 rfl (lv_at hl 1 rfl) ?_
    refine lv_bipush (v := 43) hx hb dX8_sums_113 (by decide +kernel) ?_
    refine lv_bipush (v := 34) hx hb dX8_sums_115 (by decide +kernel) ?_
    refine lv_bipush (v := 32) hx hb dX8_sums_117 (by decide +kernel) ?_
    obtain ⟨o21, ho21, hf⟩ := g_bind hf
    obtain ⟨r22, hr22, hf⟩ := g_bind hf
    refine g_callV hx hb hml hl.1 hts hown hK hG hS (As := [.int 43, .int 34, .int 32]) (rest := []) (tX8_subtract l D hr22) vX8_subtract mlX8_118 ho21 rfl rfl rfl rfl ⟨Nat.le_of_ble_eq_true rfl, Nat.le_of_ble_eq_true rfl⟩ rfl rfl (Nat.le_of_ble_eq_true rfl) ⟨Nat.le_of_ble_eq_true rfl, Nat.le_of_ble_eq_true rfl⟩ dX8_sums_119 (fun H locs hG hS => ?_)
    refine lv_goto (tgt := 135) hx hb dX8_sums_122 (by decide) ?_
    exact tBX8_sums_135 C hK   _ _ _ _ _ _ _ hG hS (lv_sub hl [2, 3, 0] rfl) hf

set_option maxHeartbeats 4000000 in
set_option maxRecDepth 100000 in
theorem tBX8_sums_67 {p : Program} {l : Launch} {e : Env} {s : State} {m : MethodId} {args : Array Value} {below : List Frame} {meth : Method} {c : Code} {D : g_D} {out : Int32 × g_S} (C : g_C RX8 cX8_sums 7 (some .boolean) True p s m args meth c) (hK : g_K D s)  : ∀ (σ : g_S) (x0 : Nat) (x4 : Int32) (y0 : Int32) (H : Heap) (locs : List Loc) (ls : Array Slot), g_H D σ H → va_S (g_A D) s.heap H locs → lv_has ls 7 [(0, .ref x0), (4, .int x4)] → BX8_sums_67  σ x0 x4 y0 = some out → W p l e rmX8_sums s m args below meth c H locs 0 0 (MQ below (g_Q D out.2 (some (.int out.1))) args s 0 0 (g_A D)) (F0 m 67 ls [.int y0]) := by
  obtain ⟨hx, hb, hml, hown, hts, hr, hlocks, hin⟩ := id C
  intro σ x0 x4 y0 H locs ls hG hS hl hf
  unfold BX8_sums_67 at hf
  refine lv_istore (lv' := [(5, .int y0), (0, .ref x0), (4, .int x4)]) hx hb dX8_sums_67 hl (by decide) rfl (fun ls hl => ?_)
  refine lv_iload hx hb dX8_sums_69 (lv_at hl 2 rfl) ?_
  refine lv_iload hx hb dX8_sums_71 (lv_at hl 0 rfl) ?_
  refine lv_icmp_ne (tgt := 89) hx hb dX8_sums_73 (by decide) (fun c12 => ?_) (fun c12 => ?_)
  · rw [if_neg c12] at hf
    refine lv_aload_n hx hb dX8_sums_89 rfl (lv_at hl 1 rfl) ?_
    refine lv_bipush (v := 34) hx hb dX8_sums_90 (by decide +kernel) ?_
    refine lv_bipush (v := 43) hx hb dX8_sums_92 (by decide +kernel) ?_
    obtain ⟨o13, ho13, hf⟩ := g_bind hf
    obtain ⟨r14, hr14, hf⟩ := g_bind hf
    refine g_callV hx hb hml hl.1 hts hown hK hG hS (As := [.int 34, .int 43]) (rest := []) (tX8_order l D hr14) vX8_order mlX8_48 ho13 rfl rfl rfl rfl ⟨Nat.le_of_ble_eq_true rfl, Nat.le_of_ble_eq_true rfl⟩ rfl rfl (Nat.le_of_ble_eq_true rfl) ⟨Nat.le_of_ble_eq_true rfl, Nat.le_of_ble_eq_true rfl⟩ dX8_sums_94 (fun H locs hG hS => ?_)
    refine lv_if_ge (tgt := 104) hx hb dX8_sums_97 (by decide) (fun c15 => ?_) (fun c15 => ?_)
    · rw [if_pos c15] at hf
      refine lv_iconst (v := 0) hx hb dX8_sums_104 (by decide +kernel) ?_
      exact tBX8_sums_105 C hK   _ _ _ _ _ _ _ _ hG hS (lv_sub hl [1, 2, 0] rfl) hf
    · rw [if_neg c15] at hf
      refine lv_iconst (v := 1) hx hb dX8_sums_100 (by decide +kernel) ?_
      refine lv_goto (tgt := 105) hx hb dX8_sums_101 (by decide) ?_
      exact tBX8_sums_105 C hK   _ _ _ _ _ _ _ _ hG hS (lv_sub hl [1, 2, 0] rfl) hf
  · rw [if_pos c12] at hf
    refine lv_aload_n hx hb dX8_sums_76 rfl (lv_at hl 1 rfl) ?_
    refine lv_bipush (v := 34) hx hb dX8_sums_77 (by decide +kernel) ?_
    refine lv_bipush (v := 43) hx hb dX8_sums_79 (by decide +kernel) ?_
    refine lv_bipush (v := 32) hx hb dX8_sums_81 (by decide +kernel) ?_
    obtain ⟨o23, ho23, hf⟩ := g_bind hf
    obtain ⟨r24, hr24, hf⟩ := g_bind hf
    refine g_callV hx hb hml hl.1 hts hown hK hG hS (As := [.int 34, .int 43, .int 32]) (rest := []) (tX8_add l D hr24) vX8_add mlX8_115 ho23 rfl rfl rfl rfl ⟨Nat.le_of_ble_eq_true rfl, Nat.le_of_ble_eq_true rfl⟩ rfl rfl (Nat.le_of_ble_eq_true rfl) ⟨Nat.le_of_ble_eq_true rfl, Nat.le_of_ble_eq_true rfl⟩ dX8_sums_83 (fun H locs hG hS => ?_)
    refine lv_iload hx hb dX8_sums_86 (lv_at hl 2 rfl) ?_
    obtain ⟨z25, hf⟩ := g_if_spec hf
    cases hf
    exact g_zret hx hb hr hlocks z25 hG hS dX8_sums_88

set_option maxHeartbeats 4000000 in
set_option maxRecDepth 100000 in
theorem tX8_sums (l : Launch) (D : g_D) {σ : g_S} {x0 : Nat} {x1 : Int32} {x2 : Int32} {x3 : Int32} {out : Int32 × g_S} (hf : fX8_sums σ x0 x1 x2 x3 = some out) : Met l yX8_sums (Cond.code yX8_sums cX8_sums 7 (some .boolean) :: lw_g) rmX8_sums (g_P D σ [.ref x0, .int x1, .int x2, .int x3]) (g_Q D out.2 (some (.int out.1))) 0 0 (g_A D) := by
  refine Met.ofW (cc := cX8_sums) (maxL := 7) (ret := (some .boolean)) (by decide +kernel) rfl ?_
  intro p e s m args below meth c s₁ B hml hv
  obtain ⟨rfl, hG, hK⟩ := hv
  have hts : ∀ w ∈ lw_g, w.before _ s = true := fun w h => atoms_spec (ws := (Cond.code yX8_sums cX8_sums 7 (some .boolean) :: lw_g)) B.pre w (List.mem_cons_of_mem _ h)
  have C : g_C RX8 cX8_sums 7 (some .boolean) True p s m _ meth c := ⟨B.exec, B.bytes, hml, findClass_of_methodNamed B.named, hts, B.returns, B.notSynchronized, trivial⟩
  obtain ⟨hx, hb, hml, hown, hts, hr, hlocks, hin⟩ := id C
  have hS : va_S (g_A D) s.heap s.heap [] := va_S.rf
  have hl := lv_entry ([.ref x0, .int x1, .int x2, .int x3]) (n := 7) (Nat.le_of_ble_eq_true rfl)
  rw [lg_entry_eq]
  generalize (lg_sl ([.ref x0, .int x1, .int x2, .int x3]) ++ List.replicate (7 - (lg_sl ([.ref x0, .int x1, .int x2, .int x3])).length) Slot.unset).toArray = ls at hl ⊢
  have hl : lv_has ls 7 [(0, .ref x0), (1, .int x1), (2, .int x2), (3, .int x3)] := hl
  unfold fX8_sums at hf
  refine lv_aload_n hx hb dX8_sums_0 rfl (lv_at hl 0 rfl) ?_
  refine lv_iconst (v := 2) hx hb dX8_sums_1 (by decide +kernel) ?_
  refine lv_iload_n hx hb dX8_sums_2 rfl (lv_at hl 1 rfl) ?_
  refine lv_imul hx hb dX8_sums_3 ?_
  refine lv_iconst (v := 2) hx hb dX8_sums_4 (by decide +kernel) ?_
  refine lv_iload_n hx hb dX8_sums_5 rfl (lv_at hl 2 rfl) ?_
  refine lv_imul hx hb dX8_sums_6 ?_
  refine lv_iconst (v := 1) hx hb dX8_sums_7 (by decide +kernel) ?_
  refine lv_iadd hx hb dX8_sums_8 ?_
  refine lv_bipush (v := 34) hx hb dX8_sums_9 (by decide +kernel) ?_
  obtain ⟨o1, ho1, hf⟩ := g_bind hf
  obtain ⟨r2, hr2, hf⟩ := g_bind hf
  refine g_callV hx hb hml hl.1 hts hown hK hG hS (As := [.int (2 * x1), .int ((2 * x2) + 1), .int 34]) (rest := []) (tX8_times l D hr2) vX8_times mlX8_112 ho1 rfl rfl rfl rfl ⟨Nat.le_of_ble_eq_true rfl, Nat.le_of_ble_eq_true rfl⟩ rfl rfl (Nat.le_of_ble_eq_true rfl) ⟨Nat.le_of_ble_eq_true rfl, Nat.le_of_ble_eq_true rfl⟩ dX8_sums_11 (fun H locs hG hS => ?_)
  refine lv_aload_n hx hb dX8_sums_14 rfl (lv_at hl 0 rfl) ?_
  refine lv_iconst (v := 2) hx hb dX8_sums_15 (by decide +kernel) ?_
  refine lv_iload_n hx hb dX8_sums_16 rfl (lv_at hl 2 rfl) ?_
  refine lv_imul hx hb dX8_sums_17 ?_
  refine lv_iconst (v := 2) hx hb dX8_sums_18 (by decide +kernel) ?_
  refine lv_iload_n hx hb dX8_sums_19 rfl (lv_at hl 1 rfl) ?_
  refine lv_imul hx hb dX8_sums_20 ?_
  refine lv_iconst (v := 1) hx hb dX8_sums_21 (by decide +kernel) ?_
  refine lv_iadd hx hb dX8_sums_22 ?_
  refine lv_bipush (v := 43) hx hb dX8_sums_23 (by decide +kernel) ?_
  obtain ⟨o3, ho3, hf⟩ := g_bind hf
  obtain ⟨r4, hr4, hf⟩ := g_bind hf
  refine g_callV hx hb hml hl.1 hts hown hK hG hS (As := [.int (2 * x2), .int ((2 * x1) + 1), .int 43]) (rest := []) (tX8_times l D hr4) vX8_times mlX8_112 ho3 rfl rfl rfl rfl ⟨Nat.le_of_ble_eq_true rfl, Nat.le_of_ble_eq_true rfl⟩ rfl rfl (Nat.le_of_ble_eq_true rfl) ⟨Nat.le_of_ble_eq_true rfl, Nat.le_of_ble_eq_true rfl⟩ dX8_sums_25 (fun H locs hG hS => ?_)
  refine lv_aload_n hx hb dX8_sums_28 rfl (lv_at hl 0 rfl) ?_
  refine lv_iconst (v := 2) hx hb dX8_sums_29 (by decide +kernel) ?_
  refine lv_iload_n hx hb dX8_sums_30 rfl (lv_at hl 1 rfl) ?_
  refine lv_imul hx hb dX8_sums_31 ?_
  refine lv_iconst (v := 1) hx hb dX8_sums_32 (by decide +kernel) ?_
  refine lv_iadd hx hb dX8_sums_33 ?_
  refine lv_iconst (v := 2) hx hb dX8_sums_34 (by decide +kernel) ?_
  refine lv_iload_n hx hb dX8_sums_35 rfl (lv_at hl 2 rfl) ?_
  refine lv_imul hx hb dX8_sums_36 ?_
  refine lv_iconst (v := 1) hx hb dX8_sums_37 (by decide +kernel) ?_
  refine lv_iadd hx hb dX8_sums_38 ?_
  refine lv_bipush (v := 33) hx hb dX8_sums_39 (by decide +kernel) ?_
  obtain ⟨o5, ho5, hf⟩ := g_bind hf
  obtain ⟨r6, hr6, hf⟩ := g_bind hf
  refine g_callV hx hb hml hl.1 hts hown hK hG hS (As := [.int ((2 * x1) + 1), .int ((2 * x2) + 1), .int 33]) (rest := []) (tX8_times l D hr6) vX8_times mlX8_112 ho5 rfl rfl rfl rfl ⟨Nat.le_of_ble_eq_true rfl, Nat.le_of_ble_eq_true rfl⟩ rfl rfl (Nat.le_of_ble_eq_true rfl) ⟨Nat.le_of_ble_eq_true rfl, Nat.le_of_ble_eq_true rfl⟩ dX8_sums_41 (fun H locs hG hS => ?_)
  refine lv_aload_n hx hb dX8_sums_44 rfl (lv_at hl 0 rfl) ?_
  obtain ⟨v7, hv7, hf⟩ := g_bind hf
  refine g_getr hx hb hts hown hK hG hv7 rfl iX8 (by decide) flX8_16 dX8_sums_45 ?_
  refine lv_iload_n hx hb dX8_sums_48 rfl (lv_at hl 1 rfl) ?_
  obtain ⟨v8, hv8, hf⟩ := g_bind hf
  refine g_zald hx hb hK hG hv8 rfl dX8_sums_49 ?_
  refine lv_istore (lv' := [(4, .int v8), (0, .ref x0), (1, .int x1), (2, .int x2), (3, .int x3)]) hx hb dX8_sums_50 hl (by decide) rfl (fun ls hl => ?_)
  refine lv_aload_n hx hb dX8_sums_52 rfl (lv_at hl 1 rfl) ?_
  obtain ⟨v9, hv9, hf⟩ := g_bind hf
  refine g_getr hx hb hts hown hK hG hv9 rfl iX8 (by decide) flX8_16 dX8_sums_53 ?_
  refine lv_iload_n hx hb dX8_sums_56 rfl (lv_at hl 3 rfl) ?_
  obtain ⟨v10, hv10, hf⟩ := g_bind hf
  refine g_zald hx hb hK hG hv10 rfl dX8_sums_57 ?_
  refine lv_iload_n hx hb dX8_sums_58 rfl (lv_at hl 4 rfl) ?_
  refine lv_icmp_eq (tgt := 66) hx hb dX8_sums_59 (by decide) (fun c11 => ?_) (fun c11 => ?_)
  · rw [if_pos c11] at hf
    refine lv_iconst (v := 0) hx hb dX8_sums_66 (by decide +kernel) ?_
    exact tBX8_sums_67 C hK   _ _ _ _ _ _ _ hG hS (lv_sub hl [1, 0] rfl) hf
  · rw [if_neg c11] at hf
    refine lv_iconst (v := 1) hx hb dX8_sums_62 (by decide +kernel) ?_
    refine lv_goto (tgt := 67) hx hb dX8_sums_63 (by decide) ?_
    exact tBX8_sums_67 C hK   _ _ _ _ _ _ _ hG hS (lv_sub hl [1, 0] rfl) hf

def rmX8_downwards : Room := { frames := 3, cells := 0, slots := 0, locals := 82 }
noncomputable def BX8_downwards_121  (σ : g_S) (x4 : Int32) : Option (Int32 × g_S) := g_if (x4 = 0 ∨ x4 = 1) <| some (x4, σ)
noncomputable def BX8_downwards_91  (σ : g_S) (x0 : Nat) (x2 : Int32) : Option (Int32 × g_S) := (g_fr σ 8 x0 3).bind fun v21 => (g_li σ 5 v21 x2).bind fun v22 => g_if (v22 = 0 ∨ v22 = 1) <| some (v22, σ)
noncomputable def BX8_downwards_51  (σ : g_S) (x0 : Nat) (x2 : Int32) (x3 : Int32) (x4 : Int32) (y0 : Int32) : Option (Int32 × g_S) := (g_o σ 8 x0).bind fun o9 => (fX8_small σ x0 33 1).bind fun r10 => if x3 = 0 then ((g_o r10 8 x0).bind fun o12 => (fX8_copy r10 x0 35 32).bind fun r13 => if y0 = 0 then (BX8_downwards_121 r13 x4) else ((g_o r13 8 x0).bind fun o16 => (fX8_add r13 x0 35 42 32).bind fun r17 => BX8_downwards_121 r17 x4)) else (if y0 = 0 then ((g_o r10 8 x0).bind fun o19 => (fX8_copy r10 x0 36 32).bind fun r20 => BX8_downwards_91 r20 x0 x2) else ((g_o r10 8 x0).bind fun o24 => (fX8_subtract r10 x0 (2 * x2) 36 32).bind fun r25 => BX8_downwards_91 r25 x0 x2))
noncomputable def BX8_downwards_50  (σ : g_S) (x0 : Nat) (x2 : Int32) (x3 : Int32) (x4 : Int32) : Option (Int32 × g_S) := BX8_downwards_51 σ x0 x2 x3 x4 0
noncomputable def BX8_downwards_30  (σ : g_S) (x0 : Nat) (x2 : Int32) (x3 : Int32) (y0 : Int32) : Option (Int32 × g_S) := if y0 = 0 then (BX8_downwards_50 σ x0 x2 x3 y0) else ((g_o σ 8 x0).bind fun o26 => (fX8_isZero σ x0 36).bind fun r27 => if r27.1 = 0 then (BX8_downwards_51 r27.2 x0 x2 x3 y0 1) else (BX8_downwards_50 r27.2 x0 x2 x3 y0))
noncomputable def fX8_downwards (σ : g_S) (x0 : Nat) (x1 : Int32) (x2 : Int32) (x3 : Int32) : Option (Int32 × g_S) := (g_o σ 8 x0).bind fun o1 => (fX8_divides σ x0 (2 * x1) (2 * x2)).bind fun r2 => (g_fr r2 8 x0 3).bind fun v3 => (g_li r2 5 v3 x1).bind fun v4 => (g_fr r2 8 x0 3).bind fun v5 => (g_li r2 5 v5 x2).bind fun v6 => if v4 = v6 then (BX8_downwards_30 r2 x0 x2 x3 0) else (BX8_downwards_30 r2 x0 x2 x3 1)
set_option maxHeartbeats 4000000 in
set_option maxRecDepth 100000 in
theorem tBX8_downwards_121 {p : Program} {l : Launch} {e : Env} {s : State} {m : MethodId} {args : Array Value} {below : List Frame} {meth : Method} {c : Code} {D : g_D} {out : Int32 × g_S} (C : g_C RX8 cX8_downwards 6 (some .boolean) True p s m args meth c) (hK : g_K D s)  : ∀ (σ : g_S) (x4 : Int32) (H : Heap) (locs : List Loc) (ls : Array Slot), g_H D σ H → va_S (g_A D) s.heap H locs → lv_has ls 6 [(4, .int x4)] → BX8_downwards_121  σ x4 = some out → W p l e rmX8_downwards s m args below meth c H locs 0 0 (MQ below (g_Q D out.2 (some (.int out.1))) args s 0 0 (g_A D)) (F0 m 121 ls []) := by
  obtain ⟨hx, hb, hml, hown, hts, hr, hlocks, hin⟩ := id C
  intro σ x4 H locs ls hG hS hl hf
  unfold BX8_downwards_121 at hf
  refine lv_iload hx hb dX8_downwards_121 (lv_at hl 0 rfl) ?_
  obtain ⟨z15, hf⟩ := g_if_spec hf
  cases hf
  exact g_zret hx hb hr hlocks z15 hG hS dX8_downwards_123

set_option maxHeartbeats 4000000 in
set_option maxRecDepth 100000 in
theorem tBX8_downwards_91 {p : Program} {l : Launch} {e : Env} {s : State} {m : MethodId} {args : Array Value} {below : List Frame} {meth : Method} {c : Code} {D : g_D} {out : Int32 × g_S} (C : g_C RX8 cX8_downwards 6 (some .boolean) True p s m args meth c) (hK : g_K D s)  : ∀ (σ : g_S) (x0 : Nat) (x2 : Int32) (H : Heap) (locs : List Loc) (ls : Array Slot), g_H D σ H → va_S (g_A D) s.heap H locs → lv_has ls 6 [(0, .ref x0), (2, .int x2)] → BX8_downwards_91  σ x0 x2 = some out → W p l e rmX8_downwards s m args below meth c H locs 0 0 (MQ below (g_Q D out.2 (some (.int out.1))) args s 0 0 (g_A D)) (F0 m 91 ls []) := by
  obtain ⟨hx, hb, hml, hown, hts, hr, hlocks, hin⟩ := id C
  intro σ x0 x2 H locs ls hG hS hl hf
  unfold BX8_downwards_91 at hf
  refine lv_aload_n hx hb dX8_downwards_91 rfl (lv_at hl 0 rfl) ?_
  obtain ⟨v21, hv21, hf⟩ := g_bind hf
  refine g_getr hx hb hts hown hK hG hv21 rfl iX8 (by decide) flX8_16 dX8_downwards_92 ?_
  refine lv_iload_n hx hb dX8_downwards_95 rfl (lv_at hl 1 rfl) ?_
  obtain ⟨v22, hv22, hf⟩ := g_bind hf
  refine g_zald hx hb hK hG hv22 rfl dX8_downwards_96 ?_
  obtain ⟨z23, hf⟩ := g_if_spec hf
  cases hf
  exact g_zret hx hb hr hlocks z23 hG hS dX8_downwards_97

set_option maxHeartbeats 4000000 in
set_option maxRecDepth 100000 in
theorem tBX8_downwards_51 {p : Program} {l : Launch} {e : Env} {s : State} {m : MethodId} {args : Array Value} {below : List Frame} {meth : Method} {c : Code} {D : g_D} {out : Int32 × g_S} (C : g_C RX8 cX8_downwards 6 (some .boolean) True p s m args meth c) (hK : g_K D s)  : ∀ (σ : g_S) (x0 : Nat) (x2 : Int32) (x3 : Int32) (x4 : Int32) (y0 : Int32) (H : Heap) (locs : List Loc) (ls : Array Slot), g_H D σ H → va_S (g_A D) s.heap H locs → lv_has ls 6 [(0, .ref x0), (2, .int x2), (3, .int x3), (4, .int x4)] → BX8_downwards_51  σ x0 x2 x3 x4 y0 = some out → W p l e rmX8_downwards s m args below meth c H locs 0 0 (MQ below (g_Q D out.2 (some (.int out.1))) args s 0 0 (g_A D)) (F0 m 51 ls [.int y0]) := by
  obtain ⟨hx, hb, hml, hown, hts, hr, hlocks, hin⟩ := id C
  intro σ x0 x2 x3 x4 y0 H locs ls hG hS hl hf
  unfold BX8_downwards_51 at hf
  refine lv_istore (lv' := [(5, .int y0), (0, .ref x0), (2, .int x2), (3, .int x3), (4, .int x4)]) hx hb dX8_downwards_51 hl (by decide) rfl (fun ls hl => ?_)
  refine lv_aload_n hx hb dX8_downwards_53 rfl (lv_at hl 1 rfl) ?_
  refine lv_bipush (v := 33) hx hb dX8_downwards_54 (by decide +kernel) ?_
  refine lv_iconst (v := 1) hx hb dX8_downwards_56 (by decide +kernel) ?_
  obtain ⟨o9, ho9, hf⟩ := g_bind hf
  obtain ⟨r10, hr10, hf⟩ := g_bind hf
  refine g_callV hx hb hml hl.1 hts hown hK hG hS (As := [.int 33, .int 1]) (rest := []) (tX8_small l D hr10) vX8_small mlX8_26 ho9 rfl rfl rfl rfl ⟨Nat.le_of_ble_eq_true rfl, Nat.le_of_ble_eq_true rfl⟩ rfl rfl (Nat.le_of_ble_eq_true rfl) ⟨Nat.le_of_ble_eq_true rfl, Nat.le_of_ble_eq_true rfl⟩ dX8_downwards_57 (fun H locs hG hS => ?_)
  refine lv_iload_n hx hb dX8_downwards_60 rfl (lv_at hl 3 rfl) ?_
  refine lv_if_eq (tgt := 98) hx hb dX8_downwards_61 (by decide) (fun c11 => ?_) (fun c11 => ?_)
  · rw [if_pos c11] at hf
    refine lv_aload_n hx hb dX8_downwards_98 rfl (lv_at hl 1 rfl) ?_
    refine lv_bipush (v := 35) hx hb dX8_downwards_99 (by decide +kernel) ?_
    refine lv_bipush (v := 32) hx hb dX8_downwards_101 (by decide +kernel) ?_
    obtain ⟨o12, ho12, hf⟩ := g_bind hf
    obtain ⟨r13, hr13, hf⟩ := g_bind hf
    refine g_callV hx hb hml hl.1 hts hown hK hG hS (As := [.int 35, .int 32]) (rest := []) (tX8_copy l D hr13) vX8_copy mlX8_51 ho12 rfl rfl rfl rfl ⟨Nat.le_of_ble_eq_true rfl, Nat.le_of_ble_eq_true rfl⟩ rfl rfl (Nat.le_of_ble_eq_true rfl) ⟨Nat.le_of_ble_eq_true rfl, Nat.le_of_ble_eq_true rfl⟩ dX8_downwards_103 (fun H locs hG hS => ?_)
    refine lv_iload hx hb dX8_downwards_106 (lv_at hl 0 rfl) ?_
    refine lv_if_eq (tgt := 121) hx hb dX8_downwards_108 (by decide) (fun c14 => ?_) (fun c14 => ?_)
    · rw [if_pos c14] at hf
      exact tBX8_downwards_121 C hK   _ _ _ _ _ hG hS (lv_sub hl [4] rfl) hf
    · rw [if_neg c14] at hf
      refine lv_aload_n hx hb dX8_downwards_111 rfl (lv_at hl 1 rfl) ?_
      refine lv_bipush (v := 35) hx hb dX8_downwards_112 (by decide +kernel) ?_
      refine lv_bipush (v := 42) hx hb dX8_downwards_114 (by decide +kernel) ?_
      refine lv_bipush (v := 32) hx hb dX8_downwards_116 (by decide +kernel) ?_
      obtain ⟨o16, ho16, hf⟩ := g_bind hf
      obtain ⟨r17, hr17, hf⟩ := g_bind hf
      refine g_callV hx hb hml hl.1 hts hown hK hG hS (As := [.int 35, .int 42, .int 32]) (rest := []) (tX8_add l D hr17) vX8_add mlX8_115 ho16 rfl rfl rfl rfl ⟨Nat.le_of_ble_eq_true rfl, Nat.le_of_ble_eq_true rfl⟩ rfl rfl (Nat.le_of_ble_eq_true rfl) ⟨Nat.le_of_ble_eq_true rfl, Nat.le_of_ble_eq_true rfl⟩ dX8_downwards_118 (fun H locs hG hS => ?_)
      exact tBX8_downwards_121 C hK   _ _ _ _ _ hG hS (lv_sub hl [4] rfl) hf
  · rw [if_neg c11] at hf
    refine lv_iload hx hb dX8_downwards_64 (lv_at hl 0 rfl) ?_
    refine lv_if_eq (tgt := 83) hx hb dX8_downwards_66 (by decide) (fun c18 => ?_) (fun c18 => ?_)
    · rw [if_pos c18] at hf
      refine lv_aload_n hx hb dX8_downwards_83 rfl (lv_at hl 1 rfl) ?_
      refine lv_bipush (v := 36) hx hb dX8_downwards_84 (by decide +kernel) ?_
      refine lv_bipush (v := 32) hx hb dX8_downwards_86 (by decide +kernel) ?_
      obtain ⟨o19, ho19, hf⟩ := g_bind hf
      obtain ⟨r20, hr20, hf⟩ := g_bind hf
      refine g_callV hx hb hml hl.1 hts hown hK hG hS (As := [.int 36, .int 32]) (rest := []) (tX8_copy l D hr20) vX8_copy mlX8_51 ho19 rfl rfl rfl rfl ⟨Nat.le_of_ble_eq_true rfl, Nat.le_of_ble_eq_true rfl⟩ rfl rfl (Nat.le_of_ble_eq_true rfl) ⟨Nat.le_of_ble_eq_true rfl, Nat.le_of_ble_eq_true rfl⟩ dX8_downwards_88 (fun H locs hG hS => ?_)
      exact tBX8_downwards_91 C hK   _ _ _ _ _ _ hG hS (lv_sub hl [1, 2] rfl) hf
    · rw [if_neg c18] at hf
      refine lv_aload_n hx hb dX8_downwards_69 rfl (lv_at hl 1 rfl) ?_
      refine lv_iconst (v := 2) hx hb dX8_downwards_70 (by decide +kernel) ?_
      refine lv_iload_n hx hb dX8_downwards_71 rfl (lv_at hl 2 rfl) ?_
      refine lv_imul hx hb dX8_downwards_72 ?_
      refine lv_bipush (v := 36) hx hb dX8_downwards_73 (by decide +kernel) ?_
      refine lv_bipush (v := 32) hx hb dX8_downwards_75 (by decide +kernel) ?_
      obtain ⟨o24, ho24, hf⟩ := g_bind hf
      obtain ⟨r25, hr25, hf⟩ := g_bind hf
      refine g_callV hx hb hml hl.1 hts hown hK hG hS (As := [.int (2 * x2), .int 36, .int 32]) (rest := []) (tX8_subtract l D hr25) vX8_subtract mlX8_118 ho24 rfl rfl rfl rfl ⟨Nat.le_of_ble_eq_true rfl, Nat.le_of_ble_eq_true rfl⟩ rfl rfl (Nat.le_of_ble_eq_true rfl) ⟨Nat.le_of_ble_eq_true rfl, Nat.le_of_ble_eq_true rfl⟩ dX8_downwards_77 (fun H locs hG hS => ?_)
      refine lv_goto (tgt := 91) hx hb dX8_downwards_80 (by decide) ?_
      exact tBX8_downwards_91 C hK   _ _ _ _ _ _ hG hS (lv_sub hl [1, 2] rfl) hf

set_option maxHeartbeats 4000000 in
set_option maxRecDepth 100000 in
theorem tBX8_downwards_50 {p : Program} {l : Launch} {e : Env} {s : State} {m : MethodId} {args : Array Value} {below : List Frame} {meth : Method} {c : Code} {D : g_D} {out : Int32 × g_S} (C : g_C RX8 cX8_downwards 6 (some .boolean) True p s m args meth c) (hK : g_K D s)  : ∀ (σ : g_S) (x0 : Nat) (x2 : Int32) (x3 : Int32) (x4 : Int32) (H : Heap) (locs : List Loc) (ls : Array Slot), g_H D σ H → va_S (g_A D) s.heap H locs → lv_has ls 6 [(0, .ref x0), (2, .int x2), (3, .int x3), (4, .int x4)] → BX8_downwards_50  σ x0 x2 x3 x4 = some out → W p l e rmX8_downwards s m args below meth c H locs 0 0 (MQ below (g_Q D out.2 (some (.int out.1))) args s 0 0 (g_A D)) (F0 m 50 ls []) := by
  obtain ⟨hx, hb, hml, hown, hts, hr, hlocks, hin⟩ := id C
  intro σ x0 x2 x3 x4 H locs ls hG hS hl hf
  unfold BX8_downwards_50 at hf
  refine lv_iconst (v := 0) hx hb dX8_downwards_50 (by decide +kernel) ?_
  exact tBX8_downwards_51 C hK   _ _ _ _ _ _ _ _ _ hG hS (lv_sub hl [0, 1, 2, 3] rfl) hf

set_option maxHeartbeats 4000000 in
set_option maxRecDepth 100000 in
theorem tBX8_downwards_30 {p : Program} {l : Launch} {e : Env} {s : State} {m : MethodId} {args : Array Value} {below : List Frame} {meth : Method} {c : Code} {D : g_D} {out : Int32 × g_S} (C : g_C RX8 cX8_downwards 6 (some .boolean) True p s m args meth c) (hK : g_K D s)  : ∀ (σ : g_S) (x0 : Nat) (x2 : Int32) (x3 : Int32) (y0 : Int32) (H : Heap) (locs : List Loc) (ls : Array Slot), g_H D σ H → va_S (g_A D) s.heap H locs → lv_has ls 6 [(0, .ref x0), (2, .int x2), (3, .int x3)] → BX8_downwards_30  σ x0 x2 x3 y0 = some out → W p l e rmX8_downwards s m args below meth c H locs 0 0 (MQ below (g_Q D out.2 (some (.int out.1))) args s 0 0 (g_A D)) (F0 m 30 ls [.int y0]) := by
  obtain ⟨hx, hb, hml, hown, hts, hr, hlocks, hin⟩ := id C
  intro σ x0 x2 x3 y0 H locs ls hG hS hl hf
  unfold BX8_downwards_30 at hf
  refine lv_istore (lv' := [(4, .int y0), (0, .ref x0), (2, .int x2), (3, .int x3)]) hx hb dX8_downwards_30 hl (by decide) rfl (fun ls hl => ?_)
  refine lv_iload hx hb dX8_downwards_32 (lv_at hl 0 rfl) ?_
  refine lv_if_eq (tgt := 50) hx hb dX8_downwards_34 (by decide) (fun c8 => ?_) (fun c8 => ?_)
  · rw [if_pos c8] at hf
    exact tBX8_downwards_50 C hK   _ _ _ _ _ _ _ _ hG hS (lv_sub hl [1, 2, 3, 0] rfl) hf
  · rw [if_neg c8] at hf
    refine lv_aload_n hx hb dX8_downwards_37 rfl (lv_at hl 1 rfl) ?_
    refine lv_bipush (v := 36) hx hb dX8_downwards_38 (by decide +kernel) ?_
    obtain ⟨o26, ho26, hf⟩ := g_bind hf
    obtain ⟨r27, hr27, hf⟩ := g_bind hf
    refine g_callV hx hb hml hl.1 hts hown hK hG hS (As := [.int 36]) (rest := []) (tX8_isZero l D hr27) vX8_isZero mlX8_73 ho26 rfl rfl rfl rfl ⟨Nat.le_of_ble_eq_true rfl, Nat.le_of_ble_eq_true rfl⟩ rfl rfl (Nat.le_of_ble_eq_true rfl) ⟨Nat.le_of_ble_eq_true rfl, Nat.le_of_ble_eq_true rfl⟩ dX8_downwards_40 (fun H locs hG hS => ?_)
    refine lv_if_ne (tgt := 50) hx hb dX8_downwards_43 (by decide) (fun c28 => ?_) (fun c28 => ?_)
    · rw [if_neg c28] at hf
      exact tBX8_downwards_50 C hK   _ _ _ _ _ _ _ _ hG hS (lv_sub hl [1, 2, 3, 0] rfl) hf
    · rw [if_pos c28] at hf
      refine lv_iconst (v := 1) hx hb dX8_downwards_46 (by decide +kernel) ?_
      refine lv_goto (tgt := 51) hx hb dX8_downwards_47 (by decide) ?_
      exact tBX8_downwards_51 C hK   _ _ _ _ _ _ _ _ _ hG hS (lv_sub hl [1, 2, 3, 0] rfl) hf

set_option maxHeartbeats 4000000 in
set_option maxRecDepth 100000 in
theorem tX8_downwards (l : Launch) (D : g_D) {σ : g_S} {x0 : Nat} {x1 : Int32} {x2 : Int32} {x3 : Int32} {out : Int32 × g_S} (hf : fX8_downwards σ x0 x1 x2 x3 = some out) : Met l yX8_downwards (Cond.code yX8_downwards cX8_downwards 6 (some .boolean) :: lw_g) rmX8_downwards (g_P D σ [.ref x0, .int x1, .int x2, .int x3]) (g_Q D out.2 (some (.int out.1))) 0 0 (g_A D) := by
  refine Met.ofW (cc := cX8_downwards) (maxL := 6) (ret := (some .boolean)) (by decide +kernel) rfl ?_
  intro p e s m args below meth c s₁ B hml hv
  obtain ⟨rfl, hG, hK⟩ := hv
  have hts : ∀ w ∈ lw_g, w.before _ s = true := fun w h => atoms_spec (ws := (Cond.code yX8_downwards cX8_downwards 6 (some .boolean) :: lw_g)) B.pre w (List.mem_cons_of_mem _ h)
  have C : g_C RX8 cX8_downwards 6 (some .boolean) True p s m _ meth c := ⟨B.exec, B.bytes, hml, findClass_of_methodNamed B.named, hts, B.returns, B.notSynchronized, trivial⟩
  obtain ⟨hx, hb, hml, hown, hts, hr, hlocks, hin⟩ := id C
  have hS : va_S (g_A D) s.heap s.heap [] := va_S.rf
  have hl := lv_entry ([.ref x0, .int x1, .int x2, .int x3]) (n := 6) (Nat.le_of_ble_eq_true rfl)
  rw [lg_entry_eq]
  generalize (lg_sl ([.ref x0, .int x1, .int x2, .int x3]) ++ List.replicate (6 - (lg_sl ([.ref x0, .int x1, .int x2, .int x3])).length) Slot.unset).toArray = ls at hl ⊢
  have hl : lv_has ls 6 [(0, .ref x0), (1, .int x1), (2, .int x2), (3, .int x3)] := hl
  unfold fX8_downwards at hf
  refine lv_aload_n hx hb dX8_downwards_0 rfl (lv_at hl 0 rfl) ?_
  refine lv_iconst (v := 2) hx hb dX8_downwards_1 (by decide +kernel) ?_
  refine lv_iload_n hx hb dX8_downwards_2 rfl (lv_at hl 1 rfl) ?_
  refine lv_imul hx hb dX8_downwards_3 ?_
  refine lv_iconst (v := 2) hx hb dX8_downwards_4 (by decide +kernel) ?_
  refine lv_iload_n hx hb dX8_downwards_5 rfl (lv_at hl 2 rfl) ?_
  refine lv_imul hx hb dX8_downwards_6 ?_
  obtain ⟨o1, ho1, hf⟩ := g_bind hf
  obtain ⟨r2, hr2, hf⟩ := g_bind hf
  refine g_callV hx hb hml hl.1 hts hown hK hG hS (As := [.int (2 * x1), .int (2 * x2)]) (rest := []) (tX8_divides l D hr2) vX8_divides mlX8_77 ho1 rfl rfl rfl rfl ⟨Nat.le_of_ble_eq_true rfl, Nat.le_of_ble_eq_true rfl⟩ rfl rfl (Nat.le_of_ble_eq_true rfl) ⟨Nat.le_of_ble_eq_true rfl, Nat.le_of_ble_eq_true rfl⟩ dX8_downwards_7 (fun H locs hG hS => ?_)
  refine lv_aload_n hx hb dX8_downwards_10 rfl (lv_at hl 0 rfl) ?_
  obtain ⟨v3, hv3, hf⟩ := g_bind hf
  refine g_getr hx hb hts hown hK hG hv3 rfl iX8 (by decide) flX8_16 dX8_downwards_11 ?_
  refine lv_iload_n hx hb dX8_downwards_14 rfl (lv_at hl 1 rfl) ?_
  obtain ⟨v4, hv4, hf⟩ := g_bind hf
  refine g_zald hx hb hK hG hv4 rfl dX8_downwards_15 ?_
  refine lv_aload_n hx hb dX8_downwards_16 rfl (lv_at hl 0 rfl) ?_
  obtain ⟨v5, hv5, hf⟩ := g_bind hf
  refine g_getr hx hb hts hown hK hG hv5 rfl iX8 (by decide) flX8_16 dX8_downwards_17 ?_
  refine lv_iload_n hx hb dX8_downwards_20 rfl (lv_at hl 2 rfl) ?_
  obtain ⟨v6, hv6, hf⟩ := g_bind hf
  refine g_zald hx hb hK hG hv6 rfl dX8_downwards_21 ?_
  refine lv_icmp_eq (tgt := 29) hx hb dX8_downwards_22 (by decide) (fun c7 => ?_) (fun c7 => ?_)
  · rw [if_pos c7] at hf
    refine lv_iconst (v := 0) hx hb dX8_downwards_29 (by decide +kernel) ?_
    exact tBX8_downwards_30 C hK   _ _ _ _ _ _ _ _ hG hS (lv_sub hl [0, 2, 3] rfl) hf
  · rw [if_neg c7] at hf
    refine lv_iconst (v := 1) hx hb dX8_downwards_25 (by decide +kernel) ?_
    refine lv_goto (tgt := 30) hx hb dX8_downwards_26 (by decide) ?_
    exact tBX8_downwards_30 C hK   _ _ _ _ _ _ _ _ hG hS (lv_sub hl [0, 2, 3] rfl) hf

def rmX8_bitsOf : Room := { frames := 1, cells := 0, slots := 0, locals := 22 }
noncomputable def BX8_bitsOf_50  (σ : g_S) (x3 : Int32) : Option (Int32 × g_S) := some (x3, σ)
noncomputable def LX8_bitsOf_16  : Nat → g_S → Nat → Int32 → Int32 → Int32 → Int32 → Option (Int32 × g_S)
  | 0, _, _, _, _, _, _ => none
  | n + 1, σ, x0, x1, x2, x3, x4 => if x4 < 0 then (BX8_bitsOf_50 σ x3) else (if x2 ≤ 0 then (BX8_bitsOf_50 σ x3) else ((g_o σ 8 x0).bind fun o6 => (fX8_at σ x0 x1 (x2 - 1)).bind fun r7 => if (g_ishr r7.1 x4) &&& 1 = 0 then (g_let (x3 + (-1)) fun v9 => g_let (x4 + (-1)) fun v10 => (LX8_bitsOf_16  n) r7.2 x0 x1 x2 v9 v10) else (BX8_bitsOf_50 r7.2 x3)))
noncomputable def fX8_bitsOf (σ : g_S) (x0 : Nat) (x1 : Int32) : Option (Int32 × g_S) := (g_fr σ 8 x0 2).bind fun v1 => (g_li σ 0 v1 x1).bind fun v2 => g_let (16 * v2) fun v3 => LX8_bitsOf_16 g_fuel σ x0 x1 v2 v3 15
set_option maxHeartbeats 4000000 in
set_option maxRecDepth 100000 in
theorem tBX8_bitsOf_50 {p : Program} {l : Launch} {e : Env} {s : State} {m : MethodId} {args : Array Value} {below : List Frame} {meth : Method} {c : Code} {D : g_D} {out : Int32 × g_S} (C : g_C RX8 cX8_bitsOf 5 (some .int) True p s m args meth c) (hK : g_K D s)  : ∀ (σ : g_S) (x3 : Int32) (H : Heap) (locs : List Loc) (ls : Array Slot), g_H D σ H → va_S (g_A D) s.heap H locs → lv_has ls 5 [(3, .int x3)] → BX8_bitsOf_50  σ x3 = some out → W p l e rmX8_bitsOf s m args below meth c H locs 0 0 (MQ below (g_Q D out.2 (some (.int out.1))) args s 0 0 (g_A D)) (F0 m 50 ls []) := by
  obtain ⟨hx, hb, hml, hown, hts, hr, hlocks, hin⟩ := id C
  intro σ x3 H locs ls hG hS hl hf
  unfold BX8_bitsOf_50 at hf
  refine lv_iload_n hx hb dX8_bitsOf_50 rfl (lv_at hl 0 rfl) ?_
  cases hf
  exact g_iret hx hb hr hlocks hG hS dX8_bitsOf_51

set_option maxHeartbeats 4000000 in
set_option maxRecDepth 100000 in
theorem tLX8_bitsOf_16 {p : Program} {l : Launch} {e : Env} {s : State} {m : MethodId} {args : Array Value} {below : List Frame} {meth : Method} {c : Code} {D : g_D} {out : Int32 × g_S} (C : g_C RX8 cX8_bitsOf 5 (some .int) True p s m args meth c) (hK : g_K D s)  : ∀ (n : Nat) (σ : g_S) (x0 : Nat) (x1 : Int32) (x2 : Int32) (x3 : Int32) (x4 : Int32) (H : Heap) (locs : List Loc) (ls : Array Slot), g_H D σ H → va_S (g_A D) s.heap H locs → lv_has ls 5 [(0, .ref x0), (1, .int x1), (2, .int x2), (3, .int x3), (4, .int x4)] → LX8_bitsOf_16  n σ x0 x1 x2 x3 x4 = some out → W p l e rmX8_bitsOf s m args below meth c H locs 0 0 (MQ below (g_Q D out.2 (some (.int out.1))) args s 0 0 (g_A D)) (F0 m 16 ls [])  := by
  obtain ⟨hx, hb, hml, hown, hts, hr, hlocks, hin⟩ := id C
  intro n
  induction n with
  | zero => intro σ x0 x1 x2 x3 x4 H locs ls hG hS hl hf; cases hf
  | succ n ih =>
    intro σ x0 x1 x2 x3 x4 H locs ls hG hS hl hf
    have hf : (if x4 < 0 then (BX8_bitsOf_50 σ x3) else (if x2 ≤ 0 then (BX8_bitsOf_50 σ x3) else ((g_o σ 8 x0).bind fun o6 => (fX8_at σ x0 x1 (x2 - 1)).bind fun r7 => if (g_ishr r7.1 x4) &&& 1 = 0 then (g_let (x3 + (-1)) fun v9 => g_let (x4 + (-1)) fun v10 => (LX8_bitsOf_16  n) r7.2 x0 x1 x2 v9 v10) else (BX8_bitsOf_50 r7.2 x3)))) = some out := hf
    have hk16 := ih
    refine lv_iload hx hb dX8_bitsOf_16 (lv_at hl 4 rfl) ?_
    refine lv_if_lt (tgt := 50) hx hb dX8_bitsOf_18 (by decide) (fun c4 => ?_) (fun c4 => ?_)
    · rw [if_pos c4] at hf
      exact tBX8_bitsOf_50 C hK   _ _ _ _ _ hG hS (lv_sub hl [3] rfl) hf
    · rw [if_neg c4] at hf
      refine lv_iload_n hx hb dX8_bitsOf_21 rfl (lv_at hl 2 rfl) ?_
      refine lv_if_le (tgt := 50) hx hb dX8_bitsOf_22 (by decide) (fun c5 => ?_) (fun c5 => ?_)
      · rw [if_pos c5] at hf
        exact tBX8_bitsOf_50 C hK   _ _ _ _ _ hG hS (lv_sub hl [3] rfl) hf
      · rw [if_neg c5] at hf
        refine lv_aload_n hx hb dX8_bitsOf_25 rfl (lv_at hl 0 rfl) ?_
        refine lv_iload_n hx hb dX8_bitsOf_26 rfl (lv_at hl 1 rfl) ?_
        refine lv_iload_n hx hb dX8_bitsOf_27 rfl (lv_at hl 2 rfl) ?_
        refine lv_iconst (v := 1) hx hb dX8_bitsOf_28 (by decide +kernel) ?_
        refine lv_isub hx hb dX8_bitsOf_29 ?_
        obtain ⟨o6, ho6, hf⟩ := g_bind hf
        obtain ⟨r7, hr7, hf⟩ := g_bind hf
        refine g_callV hx hb hml hl.1 hts hown hK hG hS (As := [.int x1, .int (x2 - 1)]) (rest := []) (tX8_at l D hr7) vX8_at mlX8_41 ho6 rfl rfl rfl rfl ⟨Nat.le_of_ble_eq_true rfl, Nat.le_of_ble_eq_true rfl⟩ rfl rfl (Nat.le_of_ble_eq_true rfl) ⟨Nat.le_of_ble_eq_true rfl, Nat.le_of_ble_eq_true rfl⟩ dX8_bitsOf_30 (fun H locs hG hS => ?_)
        refine lv_iload hx hb dX8_bitsOf_33 (lv_at hl 4 rfl) ?_
        refine lv_ishr hx hb dX8_bitsOf_35 ?_
        refine g_topi (y := g_ishr r7.1 x4) rfl ?_
        refine lv_iconst (v := 1) hx hb dX8_bitsOf_36 (by decide +kernel) ?_
        refine lv_iand hx hb dX8_bitsOf_37 ?_
        refine lv_if_ne (tgt := 50) hx hb dX8_bitsOf_38 (by decide) (fun c8 => ?_) (fun c8 => ?_)
        · rw [if_neg c8] at hf
          exact tBX8_bitsOf_50 C hK   _ _ _ _ _ hG hS (lv_sub hl [3] rfl) hf
        · rw [if_pos c8] at hf
          obtain ⟨v9, ev9, hf⟩ := g_let_spec hf
          refine lv_iinc (v := v9) (lv' := [(3, .int v9), (0, .ref x0), (1, .int x1), (2, .int x2), (4, .int x4)]) hx hb dX8_bitsOf_41 hl (k := 3) rfl (by rw [← ev9]; rfl) (by decide) rfl (fun ls hl => ?_)
          obtain ⟨v10, ev10, hf⟩ := g_let_spec hf
          refine lv_iinc (v := v10) (lv' := [(4, .int v10), (3, .int v9), (0, .ref x0), (1, .int x1), (2, .int x2)]) hx hb dX8_bitsOf_44 hl (k := 4) rfl (by rw [← ev10]; rfl) (by decide) rfl (fun ls hl => ?_)
          refine lv_goto (tgt := 16) hx hb dX8_bitsOf_47 (by decide) ?_
          exact hk16 _ _ _ _ _ _ _ _ _ hG hS (lv_sub hl [2, 3, 4, 1, 0] rfl) hf

set_option maxHeartbeats 4000000 in
set_option maxRecDepth 100000 in
theorem tX8_bitsOf (l : Launch) (D : g_D) {σ : g_S} {x0 : Nat} {x1 : Int32} {out : Int32 × g_S} (hf : fX8_bitsOf σ x0 x1 = some out) : Met l yX8_bitsOf (Cond.code yX8_bitsOf cX8_bitsOf 5 (some .int) :: lw_g) rmX8_bitsOf (g_P D σ [.ref x0, .int x1]) (g_Q D out.2 (some (.int out.1))) 0 0 (g_A D) := by
  refine Met.ofW (cc := cX8_bitsOf) (maxL := 5) (ret := (some .int)) (by decide +kernel) rfl ?_
  intro p e s m args below meth c s₁ B hml hv
  obtain ⟨rfl, hG, hK⟩ := hv
  have hts : ∀ w ∈ lw_g, w.before _ s = true := fun w h => atoms_spec (ws := (Cond.code yX8_bitsOf cX8_bitsOf 5 (some .int) :: lw_g)) B.pre w (List.mem_cons_of_mem _ h)
  have C : g_C RX8 cX8_bitsOf 5 (some .int) True p s m _ meth c := ⟨B.exec, B.bytes, hml, findClass_of_methodNamed B.named, hts, B.returns, B.notSynchronized, trivial⟩
  obtain ⟨hx, hb, hml, hown, hts, hr, hlocks, hin⟩ := id C
  have hS : va_S (g_A D) s.heap s.heap [] := va_S.rf
  have hl := lv_entry ([.ref x0, .int x1]) (n := 5) (Nat.le_of_ble_eq_true rfl)
  rw [lg_entry_eq]
  generalize (lg_sl ([.ref x0, .int x1]) ++ List.replicate (5 - (lg_sl ([.ref x0, .int x1])).length) Slot.unset).toArray = ls at hl ⊢
  have hl : lv_has ls 5 [(0, .ref x0), (1, .int x1)] := hl
  unfold fX8_bitsOf at hf
  refine lv_aload_n hx hb dX8_bitsOf_0 rfl (lv_at hl 0 rfl) ?_
  obtain ⟨v1, hv1, hf⟩ := g_bind hf
  refine g_getr hx hb hts hown hK hG hv1 rfl iX8 (by decide) flX8_13 dX8_bitsOf_1 ?_
  refine lv_iload_n hx hb dX8_bitsOf_4 rfl (lv_at hl 1 rfl) ?_
  obtain ⟨v2, hv2, hf⟩ := g_bind hf
  refine g_iald hx hb hK hG hv2 rfl dX8_bitsOf_5 ?_
  refine lv_istore_n (lv' := [(2, .int v2), (0, .ref x0), (1, .int x1)]) hx hb dX8_bitsOf_6 rfl hl (by decide) rfl (fun ls hl => ?_)
  refine lv_bipush (v := 16) hx hb dX8_bitsOf_7 (by decide +kernel) ?_
  refine lv_iload_n hx hb dX8_bitsOf_9 rfl (lv_at hl 0 rfl) ?_
  refine lv_imul hx hb dX8_bitsOf_10 ?_
  obtain ⟨v3, ev3, hf⟩ := g_let_spec hf
  refine g_topi ev3 ?_
  refine lv_istore_n (lv' := [(3, .int v3), (2, .int v2), (0, .ref x0), (1, .int x1)]) hx hb dX8_bitsOf_11 rfl hl (by decide) rfl (fun ls hl => ?_)
  refine lv_bipush (v := 15) hx hb dX8_bitsOf_12 (by decide +kernel) ?_
  refine lv_istore (lv' := [(4, .int 15), (3, .int v3), (2, .int v2), (0, .ref x0), (1, .int x1)]) hx hb dX8_bitsOf_14 hl (by decide) rfl (fun ls hl => ?_)
  exact tLX8_bitsOf_16 C hK  g_fuel _ _ _ _ _ _ _ _ _ hG hS (lv_sub hl [3, 4, 2, 1, 0] rfl) hf

def rmX8_power : Room := { frames := 2, cells := 0, slots := 0, locals := 55 }
noncomputable def BX8_power_18  (σ : g_S)  : Option (Int32 × g_S) := some (1, σ)
noncomputable def LX8_power_60  : Nat → g_S → Nat → Int32 → Int32 → Int32 → Int32 → Option (Int32 × g_S)
  | 0, _, _, _, _, _, _ => none
  | n + 1, σ, x0, x1, x2, x3, x4 => if x2 ≤ x4 then (some (1, σ)) else ((g_o σ 8 x0).bind fun o14 => (fX8_times σ x0 x3 x1 34).bind fun r15 => (g_o r15 8 x0).bind fun o16 => (fX8_isTooGreat r15 x0 34).bind fun r17 => if r17.1 = 0 then ((g_o r17.2 8 x0).bind fun o19 => (fX8_copy r17.2 x0 34 x3).bind fun r20 => g_let (x4 + 1) fun v21 => (LX8_power_60  n) r20 x0 x1 x2 x3 v21) else (some (0, r17.2)))
noncomputable def fX8_power (σ : g_S) (x0 : Nat) (x1 : Int32) (x2 : Int32) (x3 : Int32) : Option (Int32 × g_S) := (g_o σ 8 x0).bind fun o1 => (fX8_small σ x0 x3 1).bind fun r2 => if x2 = 0 then (BX8_power_18 r2) else ((g_o r2 8 x0).bind fun o4 => (fX8_isOne r2 x0 x1).bind fun r5 => if r5.1 = 0 then ((g_o r5.2 8 x0).bind fun o7 => (fX8_isZero r5.2 x0 x1).bind fun r8 => if r8.1 = 0 then ((g_o r8.2 8 x0).bind fun o10 => (fX8_bitsOf r8.2 x0 x1).bind fun r11 => if (lg_cmp (((r11.1 - 1).toInt64) * x2.toInt64) 2048) < 0 then (LX8_power_60 g_fuel r11.2 x0 x1 x2 x3 0) else (some (0, r11.2))) else ((g_fr r8.2 8 x0 2).bind fun v22 => (g_si r8.2 0 v22 x3 0).bind fun σ23 => some (1, σ23))) else (BX8_power_18 r5.2))
set_option maxHeartbeats 4000000 in
set_option maxRecDepth 100000 in
theorem tBX8_power_18 {p : Program} {l : Launch} {e : Env} {s : State} {m : MethodId} {args : Array Value} {below : List Frame} {meth : Method} {c : Code} {D : g_D} {out : Int32 × g_S} (C : g_C RX8 cX8_power 5 (some .boolean) True p s m args meth c) (hK : g_K D s)  : ∀ (σ : g_S)  (H : Heap) (locs : List Loc) (ls : Array Slot), g_H D σ H → va_S (g_A D) s.heap H locs → lv_has ls 5 [] → BX8_power_18  σ  = some out → W p l e rmX8_power s m args below meth c H locs 0 0 (MQ below (g_Q D out.2 (some (.int out.1))) args s 0 0 (g_A D)) (F0 m 18 ls []) := by
  obtain ⟨hx, hb, hml, hown, hts, hr, hlocks, hin⟩ := id C
  intro σ  H locs ls hG hS hl hf
  unfold BX8_power_18 at hf
  refine lv_iconst (v := 1) hx hb dX8_power_18 (by decide +kernel) ?_
  cases hf
  exact g_zret hx hb hr hlocks (Or.inr rfl) hG hS dX8_power_19

set_option maxHeartbeats 4000000 in
set_option maxRecDepth 100000 in
theorem tLX8_power_60 {p : Program} {l : Launch} {e : Env} {s : State} {m : MethodId} {args : Array Value} {below : List Frame} {meth : Method} {c : Code} {D : g_D} {out : Int32 × g_S} (C : g_C RX8 cX8_power 5 (some .boolean) True p s m args meth c) (hK : g_K D s)  : ∀ (n : Nat) (σ : g_S) (x0 : Nat) (x1 : Int32) (x2 : Int32) (x3 : Int32) (x4 : Int32) (H : Heap) (locs : List Loc) (ls : Array Slot), g_H D σ H → va_S (g_A D) s.heap H locs → lv_has ls 5 [(0, .ref x0), (1, .int x1), (2, .int x2), (3, .int x3), (4, .int x4)] → LX8_power_60  n σ x0 x1 x2 x3 x4 = some out → W p l e rmX8_power s m args below meth c H locs 0 0 (MQ below (g_Q D out.2 (some (.int out.1))) args s 0 0 (g_A D)) (F0 m 60 ls [])  := by
  obtain ⟨hx, hb, hml, hown, hts, hr, hlocks, hin⟩ := id C
  intro n
  induction n with
  | zero => intro σ x0 x1 x2 x3 x4 H locs ls hG hS hl hf; cases hf
  | succ n ih =>
    intro σ x0 x1 x2 x3 x4 H locs ls hG hS hl hf
    have hf : (if x2 ≤ x4 then (some (1, σ)) else ((g_o σ 8 x0).bind fun o14 => (fX8_times σ x0 x3 x1 34).bind fun r15 => (g_o r15 8 x0).bind fun o16 => (fX8_isTooGreat r15 x0 34).bind fun r17 => if r17.1 = 0 then ((g_o r17.2 8 x0).bind fun o19 => (fX8_copy r17.2 x0 34 x3).bind fun r20 => g_let (x4 + 1) fun v21 => (LX8_power_60  n) r20 x0 x1 x2 x3 v21) else (some (0, r17.2)))) = some out := hf
    have hk60 := ih
    refine lv_iload hx hb dX8_power_60 (lv_at hl 4 rfl) ?_
    refine lv_iload_n hx hb dX8_power_62 rfl (lv_at hl 2 rfl) ?_
    refine lv_icmp_ge (tgt := 98) hx hb dX8_power_63 (by decide) (fun c13 => ?_) (fun c13 => ?_)
    · rw [if_pos c13] at hf
      refine lv_iconst (v := 1) hx hb dX8_power_98 (by decide +kernel) ?_
      cases hf
      exact g_zret hx hb hr hlocks (Or.inr rfl) hG hS dX8_power_99
    · rw [if_neg c13] at hf
      refine lv_aload_n hx hb dX8_power_66 rfl (lv_at hl 0 rfl) ?_
      refine lv_iload_n hx hb dX8_power_67 rfl (lv_at hl 3 rfl) ?_
      refine lv_iload_n hx hb dX8_power_68 rfl (lv_at hl 1 rfl) ?_
      refine lv_bipush (v := 34) hx hb dX8_power_69 (by decide +kernel) ?_
      obtain ⟨o14, ho14, hf⟩ := g_bind hf
      obtain ⟨r15, hr15, hf⟩ := g_bind hf
      refine g_callV hx hb hml hl.1 hts hown hK hG hS (As := [.int x3, .int x1, .int 34]) (rest := []) (tX8_times l D hr15) vX8_times mlX8_112 ho14 rfl rfl rfl rfl ⟨Nat.le_of_ble_eq_true rfl, Nat.le_of_ble_eq_true rfl⟩ rfl rfl (Nat.le_of_ble_eq_true rfl) ⟨Nat.le_of_ble_eq_true rfl, Nat.le_of_ble_eq_true rfl⟩ dX8_power_71 (fun H locs hG hS => ?_)
      refine lv_aload_n hx hb dX8_power_74 rfl (lv_at hl 0 rfl) ?_
      refine lv_bipush (v := 34) hx hb dX8_power_75 (by decide +kernel) ?_
      obtain ⟨o16, ho16, hf⟩ := g_bind hf
      obtain ⟨r17, hr17, hf⟩ := g_bind hf
      refine g_callV hx hb hml hl.1 hts hown hK hG hS (As := [.int 34]) (rest := []) (tX8_isTooGreat l D hr17) vX8_isTooGreat mlX8_86 ho16 rfl rfl rfl rfl ⟨Nat.le_of_ble_eq_true rfl, Nat.le_of_ble_eq_true rfl⟩ rfl rfl (Nat.le_of_ble_eq_true rfl) ⟨Nat.le_of_ble_eq_true rfl, Nat.le_of_ble_eq_true rfl⟩ dX8_power_77 (fun H locs hG hS => ?_)
      refine lv_if_eq (tgt := 85) hx hb dX8_power_80 (by decide) (fun c18 => ?_) (fun c18 => ?_)
      · rw [if_pos c18] at hf
        refine lv_aload_n hx hb dX8_power_85 rfl (lv_at hl 0 rfl) ?_
        refine lv_bipush (v := 34) hx hb dX8_power_86 (by decide +kernel) ?_
        refine lv_iload_n hx hb dX8_power_88 rfl (lv_at hl 3 rfl) ?_
        obtain ⟨o19, ho19, hf⟩ := g_bind hf
        obtain ⟨r20, hr20, hf⟩ := g_bind hf
        refine g_callV hx hb hml hl.1 hts hown hK hG hS (As := [.int 34, .int x3]) (rest := []) (tX8_copy l D hr20) vX8_copy mlX8_51 ho19 rfl rfl rfl rfl ⟨Nat.le_of_ble_eq_true rfl, Nat.le_of_ble_eq_true rfl⟩ rfl rfl (Nat.le_of_ble_eq_true rfl) ⟨Nat.le_of_ble_eq_true rfl, Nat.le_of_ble_eq_true rfl⟩ dX8_power_89 (fun H locs hG hS => ?_)
        obtain ⟨v21, ev21, hf⟩ := g_let_spec hf
        refine lv_iinc (v := v21) (lv' := [(4, .int v21), (0, .ref x0), (1, .int x1), (2, .int x2), (3, .int x3)]) hx hb dX8_power_92 hl (k := 4) rfl (by rw [← ev21]; rfl) (by decide) rfl (fun ls hl => ?_)
        refine lv_goto (tgt := 60) hx hb dX8_power_95 (by decide) ?_
        exact hk60 _ _ _ _ _ _ _ _ _ hG hS (lv_sub hl [1, 2, 3, 4, 0] rfl) hf
      · rw [if_neg c18] at hf
        refine lv_iconst (v := 0) hx hb dX8_power_83 (by decide +kernel) ?_
        cases hf
        exact g_zret hx hb hr hlocks (Or.inl rfl) hG hS dX8_power_84

set_option maxHeartbeats 4000000 in
set_option maxRecDepth 100000 in
theorem tX8_power (l : Launch) (D : g_D) {σ : g_S} {x0 : Nat} {x1 : Int32} {x2 : Int32} {x3 : Int32} {out : Int32 × g_S} (hf : fX8_power σ x0 x1 x2 x3 = some out) : Met l yX8_power (Cond.code yX8_power cX8_power 5 (some .boolean) :: lw_g) rmX8_power (g_P D σ [.ref x0, .int x1, .int x2, .int x3]) (g_Q D out.2 (some (.int out.1))) 0 0 (g_A D) := by
  refine Met.ofW (cc := cX8_power) (maxL := 5) (ret := (some .boolean)) (by decide +kernel) rfl ?_
  intro p e s m args below meth c s₁ B hml hv
  obtain ⟨rfl, hG, hK⟩ := hv
  have hts : ∀ w ∈ lw_g, w.before _ s = true := fun w h => atoms_spec (ws := (Cond.code yX8_power cX8_power 5 (some .boolean) :: lw_g)) B.pre w (List.mem_cons_of_mem _ h)
  have C : g_C RX8 cX8_power 5 (some .boolean) True p s m _ meth c := ⟨B.exec, B.bytes, hml, findClass_of_methodNamed B.named, hts, B.returns, B.notSynchronized, trivial⟩
  obtain ⟨hx, hb, hml, hown, hts, hr, hlocks, hin⟩ := id C
  have hS : va_S (g_A D) s.heap s.heap [] := va_S.rf
  have hl := lv_entry ([.ref x0, .int x1, .int x2, .int x3]) (n := 5) (Nat.le_of_ble_eq_true rfl)
  rw [lg_entry_eq]
  generalize (lg_sl ([.ref x0, .int x1, .int x2, .int x3]) ++ List.replicate (5 - (lg_sl ([.ref x0, .int x1, .int x2, .int x3])).length) Slot.unset).toArray = ls at hl ⊢
  have hl : lv_has ls 5 [(0, .ref x0), (1, .int x1), (2, .int x2), (3, .int x3)] := hl
  unfold fX8_power at hf
  refine lv_aload_n hx hb dX8_power_0 rfl (lv_at hl 0 rfl) ?_
  refine lv_iload_n hx hb dX8_power_1 rfl (lv_at hl 3 rfl) ?_
  refine lv_iconst (v := 1) hx hb dX8_power_2 (by decide +kernel) ?_
  obtain ⟨o1, ho1, hf⟩ := g_bind hf
  obtain ⟨r2, hr2, hf⟩ := g_bind hf
  refine g_callV hx hb hml hl.1 hts hown hK hG hS (As := [.int x3, .int 1]) (rest := []) (tX8_small l D hr2) vX8_small mlX8_26 ho1 rfl rfl rfl rfl ⟨Nat.le_of_ble_eq_true rfl, Nat.le_of_ble_eq_true rfl⟩ rfl rfl (Nat.le_of_ble_eq_true rfl) ⟨Nat.le_of_ble_eq_true rfl, Nat.le_of_ble_eq_true rfl⟩ dX8_power_3 (fun H locs hG hS => ?_)
  refine lv_iload_n hx hb dX8_power_6 rfl (lv_at hl 2 rfl) ?_
  refine lv_if_eq (tgt := 18) hx hb dX8_power_7 (by decide) (fun c3 => ?_) (fun c3 => ?_)
  · rw [if_pos c3] at hf
    exact tBX8_power_18 C hK   _  _ _ _ hG hS (lv_sub hl [] rfl) hf
  · rw [if_neg c3] at hf
    refine lv_aload_n hx hb dX8_power_10 rfl (lv_at hl 0 rfl) ?_
    refine lv_iload_n hx hb dX8_power_11 rfl (lv_at hl 1 rfl) ?_
    obtain ⟨o4, ho4, hf⟩ := g_bind hf
    obtain ⟨r5, hr5, hf⟩ := g_bind hf
    refine g_callV hx hb hml hl.1 hts hown hK hG hS (As := [.int x1]) (rest := []) (tX8_isOne l D hr5) vX8_isOne mlX8_83 ho4 rfl rfl rfl rfl ⟨Nat.le_of_ble_eq_true rfl, Nat.le_of_ble_eq_true rfl⟩ rfl rfl (Nat.le_of_ble_eq_true rfl) ⟨Nat.le_of_ble_eq_true rfl, Nat.le_of_ble_eq_true rfl⟩ dX8_power_12 (fun H locs hG hS => ?_)
    refine lv_if_eq (tgt := 20) hx hb dX8_power_15 (by decide) (fun c6 => ?_) (fun c6 => ?_)
    · rw [if_pos c6] at hf
      refine lv_aload_n hx hb dX8_power_20 rfl (lv_at hl 0 rfl) ?_
      refine lv_iload_n hx hb dX8_power_21 rfl (lv_at hl 1 rfl) ?_
      obtain ⟨o7, ho7, hf⟩ := g_bind hf
      obtain ⟨r8, hr8, hf⟩ := g_bind hf
      refine g_callV hx hb hml hl.1 hts hown hK hG hS (As := [.int x1]) (rest := []) (tX8_isZero l D hr8) vX8_isZero mlX8_73 ho7 rfl rfl rfl rfl ⟨Nat.le_of_ble_eq_true rfl, Nat.le_of_ble_eq_true rfl⟩ rfl rfl (Nat.le_of_ble_eq_true rfl) ⟨Nat.le_of_ble_eq_true rfl, Nat.le_of_ble_eq_true rfl⟩ dX8_power_22 (fun H locs hG hS => ?_)
      refine lv_if_eq (tgt := 37) hx hb dX8_power_25 (by decide) (fun c9 => ?_) (fun c9 => ?_)
      · rw [if_pos c9] at hf
        refine lv_aload_n hx hb dX8_power_37 rfl (lv_at hl 0 rfl) ?_
        refine lv_iload_n hx hb dX8_power_38 rfl (lv_at hl 1 rfl) ?_
        obtain ⟨o10, ho10, hf⟩ := g_bind hf
        obtain ⟨r11, hr11, hf⟩ := g_bind hf
        refine g_callV hx hb hml hl.1 hts hown hK hG hS (As := [.int x1]) (rest := []) (tX8_bitsOf l D hr11) vX8_bitsOf mlX8_121 ho10 rfl rfl rfl rfl ⟨Nat.le_of_ble_eq_true rfl, Nat.le_of_ble_eq_true rfl⟩ rfl rfl (Nat.le_of_ble_eq_true rfl) ⟨Nat.le_of_ble_eq_true rfl, Nat.le_of_ble_eq_true rfl⟩ dX8_power_39 (fun H locs hG hS => ?_)
        refine lv_iconst (v := 1) hx hb dX8_power_42 (by decide +kernel) ?_
        refine lv_isub hx hb dX8_power_43 ?_
        refine lv_i2l (v := (r11.1 - 1).toInt64) hx hb dX8_power_44 rfl ?_
        refine lv_iload_n hx hb dX8_power_45 rfl (lv_at hl 2 rfl) ?_
        refine lv_i2l (v := x2.toInt64) hx hb dX8_power_46 rfl ?_
        refine lv_lmul hx hb dX8_power_47 ?_
        refine lv_ldc2 (v := 2048) hx hb hown (hts _ coX8_125) dX8_power_48 ?_
        refine W.lcmp hx hb dX8_power_51 ?_
        refine lv_if_lt (tgt := 57) hx hb dX8_power_52 (by decide) (fun c12 => ?_) (fun c12 => ?_)
        · rw [if_pos c12] at hf
          refine lv_iconst (v := 0) hx hb dX8_power_57 (by decide +kernel) ?_
          refine lv_istore (lv' := [(4, .int 0), (0, .ref x0), (1, .int x1), (2, .int x2), (3, .int x3)]) hx hb dX8_power_58 hl (by decide) rfl (fun ls hl => ?_)
          exact tLX8_power_60 C hK  g_fuel _ _ _ _ _ _ _ _ _ hG hS (lv_sub hl [1, 2, 3, 4, 0] rfl) hf
        · rw [if_neg c12] at hf
          refine lv_iconst (v := 0) hx hb dX8_power_55 (by decide +kernel) ?_
          cases hf
          exact g_zret hx hb hr hlocks (Or.inl rfl) hG hS dX8_power_56
      · rw [if_neg c9] at hf
        refine lv_aload_n hx hb dX8_power_28 rfl (lv_at hl 0 rfl) ?_
        obtain ⟨v22, hv22, hf⟩ := g_bind hf
        refine g_getr hx hb hts hown hK hG hv22 rfl iX8 (by decide) flX8_13 dX8_power_29 ?_
        refine lv_iload_n hx hb dX8_power_32 rfl (lv_at hl 3 rfl) ?_
        refine lv_iconst (v := 0) hx hb dX8_power_33 (by decide +kernel) ?_
        obtain ⟨σ23, hσ23, hf⟩ := g_bind hf
        refine g_iast hx hb hK hG hS hσ23 rfl dX8_power_34 (fun H locs hG hS => ?_)
        refine lv_iconst (v := 1) hx hb dX8_power_35 (by decide +kernel) ?_
        cases hf
        exact g_zret hx hb hr hlocks (Or.inr rfl) hG hS dX8_power_36
    · rw [if_neg c6] at hf
      exact tBX8_power_18 C hK   _  _ _ _ hG hS (lv_sub hl [] rfl) hf

def rmX8_raises : Room := { frames := 3, cells := 0, slots := 0, locals := 79 }
noncomputable def BX8_raises_43  (σ : g_S)  : Option (Int32 × g_S) := some ((-1), σ)
noncomputable def BX8_raises_85  (σ : g_S)  : Option (Int32 × g_S) := some ((-3), σ)
noncomputable def BX8_raises_112  (σ : g_S) (y0 : Nat) (y1 : Int32) (y2 : Int32) : Option (Int32 × g_S) := (g_o σ 8 y0).bind fun o24 => (fX8_holds σ y0 y1 y2).bind fun r25 => some (r25.1, r25.2)
noncomputable def BX8_raises_111  (σ : g_S) (y0 : Nat) (y1 : Int32) : Option (Int32 × g_S) := BX8_raises_112 σ y0 y1 0
noncomputable def fX8_raises (σ : g_S) (x0 : Nat) (x1 : Int32) (x2 : Int32) (x3 : Int32) : Option (Int32 × g_S) := (g_o σ 8 x0).bind fun o1 => (fX8_isWhole σ x0 x3).bind fun r2 => if r2.1 = 0 then (BX8_raises_43 r2.2) else ((g_fr r2.2 8 x0 3).bind fun v4 => (g_li r2.2 5 v4 x3).bind fun v5 => if v5 = 0 then ((g_fr r2.2 8 x0 2).bind fun v7 => (g_li r2.2 0 v7 (2 * x3)).bind fun v8 => if 1 < v8 then (BX8_raises_43 r2.2) else ((g_o r2.2 8 x0).bind fun o10 => (fX8_at r2.2 x0 (2 * x3) 0).bind fun r11 => if r11.1 ≤ 10000 then ((g_o r11.2 8 x0).bind fun o13 => (fX8_at r11.2 x0 (2 * x3) 0).bind fun r14 => (g_o r14.2 8 x0).bind fun o15 => (fX8_power r14.2 x0 (2 * x2) r14.1 32).bind fun r16 => if r16.1 = 0 then (BX8_raises_85 r16.2) else ((g_o r16.2 8 x0).bind fun o18 => (fX8_power r16.2 x0 ((2 * x2) + 1) r14.1 33).bind fun r19 => if r19.1 = 0 then (BX8_raises_85 r19.2) else ((g_fr r19.2 8 x0 3).bind fun v21 => (g_li r19.2 5 v21 x2).bind fun v22 => if v22 = 0 then (BX8_raises_111 r19.2 x0 x1) else (if g_irem r14.1 2 = 1 then (BX8_raises_112 r19.2 x0 x1 1) else (BX8_raises_111 r19.2 x0 x1))))) else (BX8_raises_43 r11.2))) else (BX8_raises_43 r2.2))
set_option maxHeartbeats 4000000 in
set_option maxRecDepth 100000 in
theorem tBX8_raises_43 {p : Program} {l : Launch} {e : Env} {s : State} {m : MethodId} {args : Array Value} {below : List Frame} {meth : Method} {c : Code} {D : g_D} {out : Int32 × g_S} (C : g_C RX8 cX8_raises 5 (some .int) True p s m args meth c) (hK : g_K D s)  : ∀ (σ : g_S)  (H : Heap) (locs : List Loc) (ls : Array Slot), g_H D σ H → va_S (g_A D) s.heap H locs → lv_has ls 5 [] → BX8_raises_43  σ  = some out → W p l e rmX8_raises s m args below meth c H locs 0 0 (MQ below (g_Q D out.2 (some (.int out.1))) args s 0 0 (g_A D)) (F0 m 43 ls []) := by
  obtain ⟨hx, hb, hml, hown, hts, hr, hlocks, hin⟩ := id C
  intro σ  H locs ls hG hS hl hf
  unfold BX8_raises_43 at hf
  refine lv_iconst (v := (-1)) hx hb dX8_raises_43 (by decide +kernel) ?_
  cases hf
  exact g_iret hx hb hr hlocks hG hS dX8_raises_44

set_option maxHeartbeats 4000000 in
set_option maxRecDepth 100000 in
theorem tBX8_raises_85 {p : Program} {l : Launch} {e : Env} {s : State} {m : MethodId} {args : Array Value} {below : List Frame} {meth : Method} {c : Code} {D : g_D} {out : Int32 × g_S} (C : g_C RX8 cX8_raises 5 (some .int) True p s m args meth c) (hK : g_K D s)  : ∀ (σ : g_S)  (H : Heap) (locs : List Loc) (ls : Array Slot), g_H D σ H → va_S (g_A D) s.heap H locs → lv_has ls 5 [] → BX8_raises_85  σ  = some out → W p l e rmX8_raises s m args below meth c H locs 0 0 (MQ below (g_Q D out.2 (some (.int out.1))) args s 0 0 (g_A D)) (F0 m 85 ls []) := by
  obtain ⟨hx, hb, hml, hown, hts, hr, hlocks, hin⟩ := id C
  intro σ  H locs ls hG hS hl hf
  unfold BX8_raises_85 at hf
  refine lv_bipush (v := (-3)) hx hb dX8_raises_85 (by decide +kernel) ?_
  cases hf
  exact g_iret hx hb hr hlocks hG hS dX8_raises_87

set_option maxHeartbeats 4000000 in
set_option maxRecDepth 100000 in
theorem tBX8_raises_112 {p : Program} {l : Launch} {e : Env} {s : State} {m : MethodId} {args : Array Value} {below : List Frame} {meth : Method} {c : Code} {D : g_D} {out : Int32 × g_S} (C : g_C RX8 cX8_raises 5 (some .int) True p s m args meth c) (hK : g_K D s)  : ∀ (σ : g_S) (y0 : Nat) (y1 : Int32) (y2 : Int32) (H : Heap) (locs : List Loc) (ls : Array Slot), g_H D σ H → va_S (g_A D) s.heap H locs → lv_has ls 5 [] → BX8_raises_112  σ y0 y1 y2 = some out → W p l e rmX8_raises s m args below meth c H locs 0 0 (MQ below (g_Q D out.2 (some (.int out.1))) args s 0 0 (g_A D)) (F0 m 112 ls [.int y2, .int y1, .ref y0]) := by
  obtain ⟨hx, hb, hml, hown, hts, hr, hlocks, hin⟩ := id C
  intro σ y0 y1 y2 H locs ls hG hS hl hf
  unfold BX8_raises_112 at hf
  obtain ⟨o24, ho24, hf⟩ := g_bind hf
  obtain ⟨r25, hr25, hf⟩ := g_bind hf
  refine g_callV hx hb hml hl.1 hts hown hK hG hS (As := [.int y1, .int y2]) (rest := []) (tX8_holds l D hr25) vX8_holds mlX8_108 ho24 rfl rfl rfl rfl ⟨Nat.le_of_ble_eq_true rfl, Nat.le_of_ble_eq_true rfl⟩ rfl rfl (Nat.le_of_ble_eq_true rfl) ⟨Nat.le_of_ble_eq_true rfl, Nat.le_of_ble_eq_true rfl⟩ dX8_raises_112 (fun H locs hG hS => ?_)
  cases hf
  exact g_iret hx hb hr hlocks hG hS dX8_raises_115

set_option maxHeartbeats 4000000 in
set_option maxRecDepth 100000 in
theorem tBX8_raises_111 {p : Program} {l : Launch} {e : Env} {s : State} {m : MethodId} {args : Array Value} {below : List Frame} {meth : Method} {c : Code} {D : g_D} {out : Int32 × g_S} (C : g_C RX8 cX8_raises 5 (some .int) True p s m args meth c) (hK : g_K D s)  : ∀ (σ : g_S) (y0 : Nat) (y1 : Int32) (H : Heap) (locs : List Loc) (ls : Array Slot), g_H D σ H → va_S (g_A D) s.heap H locs → lv_has ls 5 [] → BX8_raises_111  σ y0 y1 = some out → W p l e rmX8_raises s m args below meth c H locs 0 0 (MQ below (g_Q D out.2 (some (.int out.1))) args s 0 0 (g_A D)) (F0 m 111 ls [.int y1, .ref y0]) := by
  obtain ⟨hx, hb, hml, hown, hts, hr, hlocks, hin⟩ := id C
  intro σ y0 y1 H locs ls hG hS hl hf
  unfold BX8_raises_111 at hf
  refine lv_iconst (v := 0) hx hb dX8_raises_111 (by decide +kernel) ?_
  exact tBX8_raises_112 C hK   _ _ _ _ _ _ _ hG hS (lv_sub hl [] rfl) hf

set_option maxHeartbeats 4000000 in
set_option maxRecDepth 100000 in
theorem tX8_raises (l : Launch) (D : g_D) {σ : g_S} {x0 : Nat} {x1 : Int32} {x2 : Int32} {x3 : Int32} {out : Int32 × g_S} (hf : fX8_raises σ x0 x1 x2 x3 = some out) : Met l yX8_raises (Cond.code yX8_raises cX8_raises 5 (some .int) :: lw_g) rmX8_raises (g_P D σ [.ref x0, .int x1, .int x2, .int x3]) (g_Q D out.2 (some (.int out.1))) 0 0 (g_A D) := by
  refine Met.ofW (cc := cX8_raises) (maxL := 5) (ret := (some .int)) (by decide +kernel) rfl ?_
  intro p e s m args below meth c s₁ B hml hv
  obtain ⟨rfl, hG, hK⟩ := hv
  have hts : ∀ w ∈ lw_g, w.before _ s = true := fun w h => atoms_spec (ws := (Cond.code yX8_raises cX8_raises 5 (some .int) :: lw_g)) B.pre w (List.mem_cons_of_mem _ h)
  have C : g_C RX8 cX8_raises 5 (some .int) True p s m _ meth c := ⟨B.exec, B.bytes, hml, findClass_of_methodNamed B.named, hts, B.returns, B.notSynchronized, trivial⟩
  obtain ⟨hx, hb, hml, hown, hts, hr, hlocks, hin⟩ := id C
  have hS : va_S (g_A D) s.heap s.heap [] := va_S.rf
  have hl := lv_entry ([.ref x0, .int x1, .int x2, .int x3]) (n := 5) (Nat.le_of_ble_eq_true rfl)
  rw [lg_entry_eq]
  generalize (lg_sl ([.ref x0, .int x1, .int x2, .int x3]) ++ List.replicate (5 - (lg_sl ([.ref x0, .int x1, .int x2, .int x3])).length) Slot.unset).toArray = ls at hl ⊢
  have hl : lv_has ls 5 [(0, .ref x0), (1, .int x1), (2, .int x2), (3, .int x3)] := hl
  unfold fX8_raises at hf
  refine lv_aload_n hx hb dX8_raises_0 rfl (lv_at hl 0 rfl) ?_
  refine lv_iload_n hx hb dX8_raises_1 rfl (lv_at hl 3 rfl) ?_
  obtain ⟨o1, ho1, hf⟩ := g_bind hf
  obtain ⟨r2, hr2, hf⟩ := g_bind hf
  refine g_callV hx hb hml hl.1 hts hown hK hG hS (As := [.int x3]) (rest := []) (tX8_isWhole l D hr2) vX8_isWhole mlX8_127 ho1 rfl rfl rfl rfl ⟨Nat.le_of_ble_eq_true rfl, Nat.le_of_ble_eq_true rfl⟩ rfl rfl (Nat.le_of_ble_eq_true rfl) ⟨Nat.le_of_ble_eq_true rfl, Nat.le_of_ble_eq_true rfl⟩ dX8_raises_2 (fun H locs hG hS => ?_)
  refine lv_if_eq (tgt := 43) hx hb dX8_raises_5 (by decide) (fun c3 => ?_) (fun c3 => ?_)
  · rw [if_pos c3] at hf
    exact tBX8_raises_43 C hK   _  _ _ _ hG hS (lv_sub hl [] rfl) hf
  · rw [if_neg c3] at hf
    refine lv_aload_n hx hb dX8_raises_8 rfl (lv_at hl 0 rfl) ?_
    obtain ⟨v4, hv4, hf⟩ := g_bind hf
    refine g_getr hx hb hts hown hK hG hv4 rfl iX8 (by decide) flX8_16 dX8_raises_9 ?_
    refine lv_iload_n hx hb dX8_raises_12 rfl (lv_at hl 3 rfl) ?_
    obtain ⟨v5, hv5, hf⟩ := g_bind hf
    refine g_zald hx hb hK hG hv5 rfl dX8_raises_13 ?_
    refine lv_if_ne (tgt := 43) hx hb dX8_raises_14 (by decide) (fun c6 => ?_) (fun c6 => ?_)
    · rw [if_neg c6] at hf
      exact tBX8_raises_43 C hK   _  _ _ _ hG hS (lv_sub hl [] rfl) hf
    · rw [if_pos c6] at hf
      refine lv_aload_n hx hb dX8_raises_17 rfl (lv_at hl 0 rfl) ?_
      obtain ⟨v7, hv7, hf⟩ := g_bind hf
      refine g_getr hx hb hts hown hK hG hv7 rfl iX8 (by decide) flX8_13 dX8_raises_18 ?_
      refine lv_iconst (v := 2) hx hb dX8_raises_21 (by decide +kernel) ?_
      refine lv_iload_n hx hb dX8_raises_22 rfl (lv_at hl 3 rfl) ?_
      refine lv_imul hx hb dX8_raises_23 ?_
      obtain ⟨v8, hv8, hf⟩ := g_bind hf
      refine g_iald hx hb hK hG hv8 rfl dX8_raises_24 ?_
      refine lv_iconst (v := 1) hx hb dX8_raises_25 (by decide +kernel) ?_
      refine lv_icmp_gt (tgt := 43) hx hb dX8_raises_26 (by decide) (fun c9 => ?_) (fun c9 => ?_)
      · rw [if_pos c9] at hf
        exact tBX8_raises_43 C hK   _  _ _ _ hG hS (lv_sub hl [] rfl) hf
      · rw [if_neg c9] at hf
        refine lv_aload_n hx hb dX8_raises_29 rfl (lv_at hl 0 rfl) ?_
        refine lv_iconst (v := 2) hx hb dX8_raises_30 (by decide +kernel) ?_
        refine lv_iload_n hx hb dX8_raises_31 rfl (lv_at hl 3 rfl) ?_
        refine lv_imul hx hb dX8_raises_32 ?_
        refine lv_iconst (v := 0) hx hb dX8_raises_33 (by decide +kernel) ?_
        obtain ⟨o10, ho10, hf⟩ := g_bind hf
        obtain ⟨r11, hr11, hf⟩ := g_bind hf
        refine g_callV hx hb hml hl.1 hts hown hK hG hS (As := [.int (2 * x3), .int 0]) (rest := []) (tX8_at l D hr11) vX8_at mlX8_41 ho10 rfl rfl rfl rfl ⟨Nat.le_of_ble_eq_true rfl, Nat.le_of_ble_eq_true rfl⟩ rfl rfl (Nat.le_of_ble_eq_true rfl) ⟨Nat.le_of_ble_eq_true rfl, Nat.le_of_ble_eq_true rfl⟩ dX8_raises_34 (fun H locs hG hS => ?_)
        refine lv_sipush (v := 10000) hx hb dX8_raises_37 (by decide +kernel) ?_
        refine lv_icmp_le (tgt := 45) hx hb dX8_raises_40 (by decide) (fun c12 => ?_) (fun c12 => ?_)
        · rw [if_pos c12] at hf
          refine lv_aload_n hx hb dX8_raises_45 rfl (lv_at hl 0 rfl) ?_
          refine lv_iconst (v := 2) hx hb dX8_raises_46 (by decide +kernel) ?_
          refine lv_iload_n hx hb dX8_raises_47 rfl (lv_at hl 3 rfl) ?_
          refine lv_imul hx hb dX8_raises_48 ?_
          refine lv_iconst (v := 0) hx hb dX8_raises_49 (by decide +kernel) ?_
          obtain ⟨o13, ho13, hf⟩ := g_bind hf
          obtain ⟨r14, hr14, hf⟩ := g_bind hf
          refine g_callV hx hb hml hl.1 hts hown hK hG hS (As := [.int (2 * x3), .int 0]) (rest := []) (tX8_at l D hr14) vX8_at mlX8_41 ho13 rfl rfl rfl rfl ⟨Nat.le_of_ble_eq_true rfl, Nat.le_of_ble_eq_true rfl⟩ rfl rfl (Nat.le_of_ble_eq_true rfl) ⟨Nat.le_of_ble_eq_true rfl, Nat.le_of_ble_eq_true rfl⟩ dX8_raises_50 (fun H locs hG hS => ?_)
          refine lv_istore (lv' := [(4, .int r14.1), (0, .ref x0), (1, .int x1), (2, .int x2), (3, .int x3)]) hx hb dX8_raises_53 hl (by decide) rfl (fun ls hl => ?_)
          refine lv_aload_n hx hb dX8_raises_55 rfl (lv_at hl 1 rfl) ?_
          refine lv_iconst (v := 2) hx hb dX8_raises_56 (by decide +kernel) ?_
          refine lv_iload_n hx hb dX8_raises_57 rfl (lv_at hl 3 rfl) ?_
          refine lv_imul hx hb dX8_raises_58 ?_
          refine lv_iload hx hb dX8_raises_59 (lv_at hl 0 rfl) ?_
          refine lv_bipush (v := 32) hx hb dX8_raises_61 (by decide +kernel) ?_
          obtain ⟨o15, ho15, hf⟩ := g_bind hf
          obtain ⟨r16, hr16, hf⟩ := g_bind hf
          refine g_callV hx hb hml hl.1 hts hown hK hG hS (As := [.int (2 * x2), .int r14.1, .int 32]) (rest := []) (tX8_power l D hr16) vX8_power mlX8_130 ho15 rfl rfl rfl rfl ⟨Nat.le_of_ble_eq_true rfl, Nat.le_of_ble_eq_true rfl⟩ rfl rfl (Nat.le_of_ble_eq_true rfl) ⟨Nat.le_of_ble_eq_true rfl, Nat.le_of_ble_eq_true rfl⟩ dX8_raises_63 (fun H locs hG hS => ?_)
          refine lv_if_eq (tgt := 85) hx hb dX8_raises_66 (by decide) (fun c17 => ?_) (fun c17 => ?_)
          · rw [if_pos c17] at hf
            exact tBX8_raises_85 C hK   _  _ _ _ hG hS (lv_sub hl [] rfl) hf
          · rw [if_neg c17] at hf
            refine lv_aload_n hx hb dX8_raises_69 rfl (lv_at hl 1 rfl) ?_
            refine lv_iconst (v := 2) hx hb dX8_raises_70 (by decide +kernel) ?_
            refine lv_iload_n hx hb dX8_raises_71 rfl (lv_at hl 3 rfl) ?_
            refine lv_imul hx hb dX8_raises_72 ?_
            refine lv_iconst (v := 1) hx hb dX8_raises_73 (by decide +kernel) ?_
            refine lv_iadd hx hb dX8_raises_74 ?_
            refine lv_iload hx hb dX8_raises_75 (lv_at hl 0 rfl) ?_
            refine lv_bipush (v := 33) hx hb dX8_raises_77 (by decide +kernel) ?_
            obtain ⟨o18, ho18, hf⟩ := g_bind hf
            obtain ⟨r19, hr19, hf⟩ := g_bind hf
            refine g_callV hx hb hml hl.1 hts hown hK hG hS (As := [.int ((2 * x2) + 1), .int r14.1, .int 33]) (rest := []) (tX8_power l D hr19) vX8_power mlX8_130 ho18 rfl rfl rfl rfl ⟨Nat.le_of_ble_eq_true rfl, Nat.le_of_ble_eq_true rfl⟩ rfl rfl (Nat.le_of_ble_eq_true rfl) ⟨Nat.le_of_ble_eq_true rfl, Nat.le_of_ble_eq_true rfl⟩ dX8_raises_79 (fun H locs hG hS => ?_)
            refine lv_if_ne (tgt := 88) hx hb dX8_raises_82 (by decide) (fun c20 => ?_) (fun c20 => ?_)
            · rw [if_neg c20] at hf
              refine lv_aload_n hx hb dX8_raises_88 rfl (lv_at hl 1 rfl) ?_
              refine lv_iload_n hx hb dX8_raises_89 rfl (lv_at hl 2 rfl) ?_
              refine lv_aload_n hx hb dX8_raises_90 rfl (lv_at hl 1 rfl) ?_
              obtain ⟨v21, hv21, hf⟩ := g_bind hf
              refine g_getr hx hb hts hown hK hG hv21 rfl iX8 (by decide) flX8_16 dX8_raises_91 ?_
              refine lv_iload_n hx hb dX8_raises_94 rfl (lv_at hl 3 rfl) ?_
              obtain ⟨v22, hv22, hf⟩ := g_bind hf
              refine g_zald hx hb hK hG hv22 rfl dX8_raises_95 ?_
              refine lv_if_eq (tgt := 111) hx hb dX8_raises_96 (by decide) (fun c23 => ?_) (fun c23 => ?_)
              · rw [if_pos c23] at hf
                exact tBX8_raises_111 C hK   _ _ _ _ _ _ hG hS (lv_sub hl [] rfl) hf
              · rw [if_neg c23] at hf
                refine lv_iload hx hb dX8_raises_99 (lv_at hl 0 rfl) ?_
                refine lv_iconst (v := 2) hx hb dX8_raises_101 (by decide +kernel) ?_
                refine lv_irem hx hb dX8_raises_102 (by decide) ?_
                refine g_topi (y := g_irem r14.1 2) rfl ?_
                refine lv_iconst (v := 1) hx hb dX8_raises_103 (by decide +kernel) ?_
                refine lv_icmp_ne (tgt := 111) hx hb dX8_raises_104 (by decide) (fun c26 => ?_) (fun c26 => ?_)
                · rw [if_neg c26] at hf
                  exact tBX8_raises_111 C hK   _ _ _ _ _ _ hG hS (lv_sub hl [] rfl) hf
                · rw [if_pos c26] at hf
                  refine lv_iconst (v := 1) hx hb dX8_raises_107 (by decide +kernel) ?_
                  refine lv_goto (tgt := 112) hx hb dX8_raises_108 (by decide) ?_
                  exact tBX8_raises_112 C hK   _ _ _ _ _ _ _ hG hS (lv_sub hl [] rfl) hf
            · rw [if_pos c20] at hf
              exact tBX8_raises_85 C hK   _  _ _ _ hG hS (lv_sub hl [] rfl) hf
        · rw [if_neg c12] at hf
          exact tBX8_raises_43 C hK   _  _ _ _ hG hS (lv_sub hl [] rfl) hf

def rmX8_takesNumber : Room := { frames := 2, cells := 0, slots := 0, locals := 46 }
noncomputable def fX8_takesNumber (σ : g_S) (x0 : Nat) (x1 : Int32) : Option (g_S) := (g_o σ 8 x0).bind fun o1 => (fX8_copy σ x0 (2 * x1) 32).bind fun r2 => (g_o r2 8 x0).bind fun o3 => (fX8_copy r2 x0 ((2 * x1) + 1) 33).bind fun r4 => some r4
set_option maxHeartbeats 4000000 in
set_option maxRecDepth 100000 in
theorem tX8_takesNumber (l : Launch) (D : g_D) {σ : g_S} {x0 : Nat} {x1 : Int32} {out : g_S} (hf : fX8_takesNumber σ x0 x1 = some out) : Met l yX8_takesNumber (Cond.code yX8_takesNumber cX8_takesNumber 2 none :: lw_g) rmX8_takesNumber (g_P D σ [.ref x0, .int x1]) (g_Q D out (none)) 0 0 (g_A D) := by
  refine Met.ofW (cc := cX8_takesNumber) (maxL := 2) (ret := none) (by decide +kernel) rfl ?_
  intro p e s m args below meth c s₁ B hml hv
  obtain ⟨rfl, hG, hK⟩ := hv
  have hts : ∀ w ∈ lw_g, w.before _ s = true := fun w h => atoms_spec (ws := (Cond.code yX8_takesNumber cX8_takesNumber 2 none :: lw_g)) B.pre w (List.mem_cons_of_mem _ h)
  have C : g_C RX8 cX8_takesNumber 2 none True p s m _ meth c := ⟨B.exec, B.bytes, hml, findClass_of_methodNamed B.named, hts, B.returns, B.notSynchronized, trivial⟩
  obtain ⟨hx, hb, hml, hown, hts, hr, hlocks, hin⟩ := id C
  have hS : va_S (g_A D) s.heap s.heap [] := va_S.rf
  have hl := lv_entry ([.ref x0, .int x1]) (n := 2) (Nat.le_of_ble_eq_true rfl)
  rw [lg_entry_eq]
  generalize (lg_sl ([.ref x0, .int x1]) ++ List.replicate (2 - (lg_sl ([.ref x0, .int x1])).length) Slot.unset).toArray = ls at hl ⊢
  have hl : lv_has ls 2 [(0, .ref x0), (1, .int x1)] := hl
  unfold fX8_takesNumber at hf
  refine lv_aload_n hx hb dX8_takesNumber_0 rfl (lv_at hl 0 rfl) ?_
  refine lv_iconst (v := 2) hx hb dX8_takesNumber_1 (by decide +kernel) ?_
  refine lv_iload_n hx hb dX8_takesNumber_2 rfl (lv_at hl 1 rfl) ?_
  refine lv_imul hx hb dX8_takesNumber_3 ?_
  refine lv_bipush (v := 32) hx hb dX8_takesNumber_4 (by decide +kernel) ?_
  obtain ⟨o1, ho1, hf⟩ := g_bind hf
  obtain ⟨r2, hr2, hf⟩ := g_bind hf
  refine g_callV hx hb hml hl.1 hts hown hK hG hS (As := [.int (2 * x1), .int 32]) (rest := []) (tX8_copy l D hr2) vX8_copy mlX8_51 ho1 rfl rfl rfl rfl ⟨Nat.le_of_ble_eq_true rfl, Nat.le_of_ble_eq_true rfl⟩ rfl rfl (Nat.le_of_ble_eq_true rfl) ⟨Nat.le_of_ble_eq_true rfl, Nat.le_of_ble_eq_true rfl⟩ dX8_takesNumber_6 (fun H locs hG hS => ?_)
  refine lv_aload_n hx hb dX8_takesNumber_9 rfl (lv_at hl 0 rfl) ?_
  refine lv_iconst (v := 2) hx hb dX8_takesNumber_10 (by decide +kernel) ?_
  refine lv_iload_n hx hb dX8_takesNumber_11 rfl (lv_at hl 1 rfl) ?_
  refine lv_imul hx hb dX8_takesNumber_12 ?_
  refine lv_iconst (v := 1) hx hb dX8_takesNumber_13 (by decide +kernel) ?_
  refine lv_iadd hx hb dX8_takesNumber_14 ?_
  refine lv_bipush (v := 33) hx hb dX8_takesNumber_15 (by decide +kernel) ?_
  obtain ⟨o3, ho3, hf⟩ := g_bind hf
  obtain ⟨r4, hr4, hf⟩ := g_bind hf
  refine g_callV hx hb hml hl.1 hts hown hK hG hS (As := [.int ((2 * x1) + 1), .int 33]) (rest := []) (tX8_copy l D hr4) vX8_copy mlX8_51 ho3 rfl rfl rfl rfl ⟨Nat.le_of_ble_eq_true rfl, Nat.le_of_ble_eq_true rfl⟩ rfl rfl (Nat.le_of_ble_eq_true rfl) ⟨Nat.le_of_ble_eq_true rfl, Nat.le_of_ble_eq_true rfl⟩ dX8_takesNumber_17 (fun H locs hG hS => ?_)
  cases hf
  exact g_vret hx hb hr hlocks hG hS dX8_takesNumber_20

def rmX8_compare : Room := { frames := 2, cells := 0, slots := 0, locals := 55 }
noncomputable def BX8_compare_19  (σ : g_S)  : Option (Int32 × g_S) := some ((-2), σ)
noncomputable def BX8_compare_104  (σ : g_S) (y0 : Int32) : Option (Int32 × g_S) := some (y0, σ)
noncomputable def BX8_compare_51  (σ : g_S) (y0 : Int32) : Option (Int32 × g_S) := some (y0, σ)
noncomputable def fX8_compare (σ : g_S) (x0 : Nat) (x1 : Int32) (x2 : Int32) : Option (Int32 × g_S) := (g_p σ 8 x0 0 (.int 0)).bind fun σ1 => (fX8_isPlace σ1 x1).bind fun r2 => if r2.1 = 0 then (BX8_compare_19 r2.2) else ((fX8_isPlace r2.2 x2).bind fun r4 => if r4.1 = 0 then (BX8_compare_19 r4.2) else ((g_fr r4.2 8 x0 3).bind fun v6 => (g_li r4.2 5 v6 x1).bind fun v7 => (g_fr r4.2 8 x0 3).bind fun v8 => (g_li r4.2 5 v8 x2).bind fun v9 => if v7 = v9 then ((g_o r4.2 8 x0).bind fun o11 => (fX8_times r4.2 x0 (2 * x1) ((2 * x2) + 1) 34).bind fun r12 => (g_o r12 8 x0).bind fun o13 => (fX8_times r12 x0 (2 * x2) ((2 * x1) + 1) 43).bind fun r14 => (g_o r14 8 x0).bind fun o15 => (fX8_order r14 x0 34 43).bind fun r16 => (g_fr r16.2 8 x0 3).bind fun v17 => (g_li r16.2 5 v17 x1).bind fun v18 => if v18 = 0 then (BX8_compare_104 r16.2 r16.1) else (BX8_compare_104 r16.2 (-r16.1))) else ((g_fr r4.2 8 x0 3).bind fun v20 => (g_li r4.2 5 v20 x1).bind fun v21 => if v21 = 0 then (BX8_compare_51 r4.2 1) else (BX8_compare_51 r4.2 (-1)))))
set_option maxHeartbeats 4000000 in
set_option maxRecDepth 100000 in
theorem tBX8_compare_19 {p : Program} {l : Launch} {e : Env} {s : State} {m : MethodId} {args : Array Value} {below : List Frame} {meth : Method} {c : Code} {D : g_D} {out : Int32 × g_S} (C : g_C RX8 cX8_compare 4 (some .int) True p s m args meth c) (hK : g_K D s)  : ∀ (σ : g_S)  (H : Heap) (locs : List Loc) (ls : Array Slot), g_H D σ H → va_S (g_A D) s.heap H locs → lv_has ls 4 [] → BX8_compare_19  σ  = some out → W p l e rmX8_compare s m args below meth c H locs 0 0 (MQ below (g_Q D out.2 (some (.int out.1))) args s 0 0 (g_A D)) (F0 m 19 ls []) := by
  obtain ⟨hx, hb, hml, hown, hts, hr, hlocks, hin⟩ := id C
  intro σ  H locs ls hG hS hl hf
  unfold BX8_compare_19 at hf
  refine lv_bipush (v := (-2)) hx hb dX8_compare_19 (by decide +kernel) ?_
  cases hf
  exact g_iret hx hb hr hlocks hG hS dX8_compare_21

set_option maxHeartbeats 4000000 in
set_option maxRecDepth 100000 in
theorem tBX8_compare_104 {p : Program} {l : Launch} {e : Env} {s : State} {m : MethodId} {args : Array Value} {below : List Frame} {meth : Method} {c : Code} {D : g_D} {out : Int32 × g_S} (C : g_C RX8 cX8_compare 4 (some .int) True p s m args meth c) (hK : g_K D s)  : ∀ (σ : g_S) (y0 : Int32) (H : Heap) (locs : List Loc) (ls : Array Slot), g_H D σ H → va_S (g_A D) s.heap H locs → lv_has ls 4 [] → BX8_compare_104  σ y0 = some out → W p l e rmX8_compare s m args below meth c H locs 0 0 (MQ below (g_Q D out.2 (some (.int out.1))) args s 0 0 (g_A D)) (F0 m 104 ls [.int y0]) := by
  obtain ⟨hx, hb, hml, hown, hts, hr, hlocks, hin⟩ := id C
  intro σ y0 H locs ls hG hS hl hf
  unfold BX8_compare_104 at hf
  cases hf
  exact g_iret hx hb hr hlocks hG hS dX8_compare_104

set_option maxHeartbeats 4000000 in
set_option maxRecDepth 100000 in
theorem tBX8_compare_51 {p : Program} {l : Launch} {e : Env} {s : State} {m : MethodId} {args : Array Value} {below : List Frame} {meth : Method} {c : Code} {D : g_D} {out : Int32 × g_S} (C : g_C RX8 cX8_compare 4 (some .int) True p s m args meth c) (hK : g_K D s)  : ∀ (σ : g_S) (y0 : Int32) (H : Heap) (locs : List Loc) (ls : Array Slot), g_H D σ H → va_S (g_A D) s.heap H locs → lv_has ls 4 [] → BX8_compare_51  σ y0 = some out → W p l e rmX8_compare s m args below meth c H locs 0 0 (MQ below (g_Q D out.2 (some (.int out.1))) args s 0 0 (g_A D)) (F0 m 51 ls [.int y0]) := by
  obtain ⟨hx, hb, hml, hown, hts, hr, hlocks, hin⟩ := id C
  intro σ y0 H locs ls hG hS hl hf
  unfold BX8_compare_51 at hf
  cases hf
  exact g_iret hx hb hr hlocks hG hS dX8_compare_51

set_option maxHeartbeats 4000000 in
set_option maxRecDepth 100000 in
theorem tX8_compare (l : Launch) (D : g_D) {σ : g_S} {x0 : Nat} {x1 : Int32} {x2 : Int32} {out : Int32 × g_S} (hf : fX8_compare σ x0 x1 x2 = some out) : Met l yX8_compare (Cond.code yX8_compare cX8_compare 4 (some .int) :: lw_g) rmX8_compare (g_P D σ [.ref x0, .int x1, .int x2]) (g_Q D out.2 (some (.int out.1))) 0 0 (g_A D) := by
  refine Met.ofW (cc := cX8_compare) (maxL := 4) (ret := (some .int)) (by decide +kernel) rfl ?_
  intro p e s m args below meth c s₁ B hml hv
  obtain ⟨rfl, hG, hK⟩ := hv
  have hts : ∀ w ∈ lw_g, w.before _ s = true := fun w h => atoms_spec (ws := (Cond.code yX8_compare cX8_compare 4 (some .int) :: lw_g)) B.pre w (List.mem_cons_of_mem _ h)
  have C : g_C RX8 cX8_compare 4 (some .int) True p s m _ meth c := ⟨B.exec, B.bytes, hml, findClass_of_methodNamed B.named, hts, B.returns, B.notSynchronized, trivial⟩
  obtain ⟨hx, hb, hml, hown, hts, hr, hlocks, hin⟩ := id C
  have hS : va_S (g_A D) s.heap s.heap [] := va_S.rf
  have hl := lv_entry ([.ref x0, .int x1, .int x2]) (n := 4) (Nat.le_of_ble_eq_true rfl)
  rw [lg_entry_eq]
  generalize (lg_sl ([.ref x0, .int x1, .int x2]) ++ List.replicate (4 - (lg_sl ([.ref x0, .int x1, .int x2])).length) Slot.unset).toArray = ls at hl ⊢
  have hl : lv_has ls 4 [(0, .ref x0), (1, .int x1), (2, .int x2)] := hl
  unfold fX8_compare at hf
  refine lv_aload_n hx hb dX8_compare_0 rfl (lv_at hl 0 rfl) ?_
  refine lv_iconst (v := 0) hx hb dX8_compare_1 (by decide +kernel) ?_
  obtain ⟨σ1, hσ1, hf⟩ := g_bind hf
  refine g_put hx hb hts hown hK hG hS hσ1 rfl iX8 tyX8 tyX8_ok nmX8 (by decide) flX8_30 rfl rfl rfl dX8_compare_2 (fun H locs hG hS => ?_)
  refine lv_iload_n hx hb dX8_compare_5 rfl (lv_at hl 1 rfl) ?_
  obtain ⟨r2, hr2, hf⟩ := g_bind hf
  refine g_callS hx hb hml hl.1 hts hown hK hG hS (As := [.int x1]) (rest := []) (tX8_isPlace l D hr2) vX8_isPlace mlX8_98 rfl rfl ⟨Nat.le_of_ble_eq_true rfl, Nat.le_of_ble_eq_true rfl⟩ rfl rfl (Nat.le_of_ble_eq_true rfl) ⟨Nat.le_of_ble_eq_true rfl, Nat.le_of_ble_eq_true rfl⟩ dX8_compare_6 (fun H locs hG hS => ?_)
  refine lv_if_eq (tgt := 19) hx hb dX8_compare_9 (by decide) (fun c3 => ?_) (fun c3 => ?_)
  · rw [if_pos c3] at hf
    exact tBX8_compare_19 C hK   _  _ _ _ hG hS (lv_sub hl [] rfl) hf
  · rw [if_neg c3] at hf
    refine lv_iload_n hx hb dX8_compare_12 rfl (lv_at hl 2 rfl) ?_
    obtain ⟨r4, hr4, hf⟩ := g_bind hf
    refine g_callS hx hb hml hl.1 hts hown hK hG hS (As := [.int x2]) (rest := []) (tX8_isPlace l D hr4) vX8_isPlace mlX8_98 rfl rfl ⟨Nat.le_of_ble_eq_true rfl, Nat.le_of_ble_eq_true rfl⟩ rfl rfl (Nat.le_of_ble_eq_true rfl) ⟨Nat.le_of_ble_eq_true rfl, Nat.le_of_ble_eq_true rfl⟩ dX8_compare_13 (fun H locs hG hS => ?_)
    refine lv_if_ne (tgt := 22) hx hb dX8_compare_16 (by decide) (fun c5 => ?_) (fun c5 => ?_)
    · rw [if_neg c5] at hf
      refine lv_aload_n hx hb dX8_compare_22 rfl (lv_at hl 0 rfl) ?_
      obtain ⟨v6, hv6, hf⟩ := g_bind hf
      refine g_getr hx hb hts hown hK hG hv6 rfl iX8 (by decide) flX8_16 dX8_compare_23 ?_
      refine lv_iload_n hx hb dX8_compare_26 rfl (lv_at hl 1 rfl) ?_
      obtain ⟨v7, hv7, hf⟩ := g_bind hf
      refine g_zald hx hb hK hG hv7 rfl dX8_compare_27 ?_
      refine lv_aload_n hx hb dX8_compare_28 rfl (lv_at hl 0 rfl) ?_
      obtain ⟨v8, hv8, hf⟩ := g_bind hf
      refine g_getr hx hb hts hown hK hG hv8 rfl iX8 (by decide) flX8_16 dX8_compare_29 ?_
      refine lv_iload_n hx hb dX8_compare_32 rfl (lv_at hl 2 rfl) ?_
      obtain ⟨v9, hv9, hf⟩ := g_bind hf
      refine g_zald hx hb hK hG hv9 rfl dX8_compare_33 ?_
      refine lv_icmp_eq (tgt := 52) hx hb dX8_compare_34 (by decide) (fun c10 => ?_) (fun c10 => ?_)
      · rw [if_pos c10] at hf
        refine lv_aload_n hx hb dX8_compare_52 rfl (lv_at hl 0 rfl) ?_
        refine lv_iconst (v := 2) hx hb dX8_compare_53 (by decide +kernel) ?_
        refine lv_iload_n hx hb dX8_compare_54 rfl (lv_at hl 1 rfl) ?_
        refine lv_imul hx hb dX8_compare_55 ?_
        refine lv_iconst (v := 2) hx hb dX8_compare_56 (by decide +kernel) ?_
        refine lv_iload_n hx hb dX8_compare_57 rfl (lv_at hl 2 rfl) ?_
        refine lv_imul hx hb dX8_compare_58 ?_
        refine lv_iconst (v := 1) hx hb dX8_compare_59 (by decide +kernel) ?_
        refine lv_iadd hx hb dX8_compare_60 ?_
        refine lv_bipush (v := 34) hx hb dX8_compare_61 (by decide +kernel) ?_
        obtain ⟨o11, ho11, hf⟩ := g_bind hf
        obtain ⟨r12, hr12, hf⟩ := g_bind hf
        refine g_callV hx hb hml hl.1 hts hown hK hG hS (As := [.int (2 * x1), .int ((2 * x2) + 1), .int 34]) (rest := []) (tX8_times l D hr12) vX8_times mlX8_112 ho11 rfl rfl rfl rfl ⟨Nat.le_of_ble_eq_true rfl, Nat.le_of_ble_eq_true rfl⟩ rfl rfl (Nat.le_of_ble_eq_true rfl) ⟨Nat.le_of_ble_eq_true rfl, Nat.le_of_ble_eq_true rfl⟩ dX8_compare_63 (fun H locs hG hS => ?_)
        refine lv_aload_n hx hb dX8_compare_66 rfl (lv_at hl 0 rfl) ?_
        refine lv_iconst (v := 2) hx hb dX8_compare_67 (by decide +kernel) ?_
        refine lv_iload_n hx hb dX8_compare_68 rfl (lv_at hl 2 rfl) ?_
        refine lv_imul hx hb dX8_compare_69 ?_
        refine lv_iconst (v := 2) hx hb dX8_compare_70 (by decide +kernel) ?_
        refine lv_iload_n hx hb dX8_compare_71 rfl (lv_at hl 1 rfl) ?_
        refine lv_imul hx hb dX8_compare_72 ?_
        refine lv_iconst (v := 1) hx hb dX8_compare_73 (by decide +kernel) ?_
        refine lv_iadd hx hb dX8_compare_74 ?_
        refine lv_bipush (v := 43) hx hb dX8_compare_75 (by decide +kernel) ?_
        obtain ⟨o13, ho13, hf⟩ := g_bind hf
        obtain ⟨r14, hr14, hf⟩ := g_bind hf
        refine g_callV hx hb hml hl.1 hts hown hK hG hS (As := [.int (2 * x2), .int ((2 * x1) + 1), .int 43]) (rest := []) (tX8_times l D hr14) vX8_times mlX8_112 ho13 rfl rfl rfl rfl ⟨Nat.le_of_ble_eq_true rfl, Nat.le_of_ble_eq_true rfl⟩ rfl rfl (Nat.le_of_ble_eq_true rfl) ⟨Nat.le_of_ble_eq_true rfl, Nat.le_of_ble_eq_true rfl⟩ dX8_compare_77 (fun H locs hG hS => ?_)
        refine lv_aload_n hx hb dX8_compare_80 rfl (lv_at hl 0 rfl) ?_
        refine lv_bipush (v := 34) hx hb dX8_compare_81 (by decide +kernel) ?_
        refine lv_bipush (v := 43) hx hb dX8_compare_83 (by decide +kernel) ?_
        obtain ⟨o15, ho15, hf⟩ := g_bind hf
        obtain ⟨r16, hr16, hf⟩ := g_bind hf
        refine g_callV hx hb hml hl.1 hts hown hK hG hS (As := [.int 34, .int 43]) (rest := []) (tX8_order l D hr16) vX8_order mlX8_48 ho15 rfl rfl rfl rfl ⟨Nat.le_of_ble_eq_true rfl, Nat.le_of_ble_eq_true rfl⟩ rfl rfl (Nat.le_of_ble_eq_true rfl) ⟨Nat.le_of_ble_eq_true rfl, Nat.le_of_ble_eq_true rfl⟩ dX8_compare_85 (fun H locs hG hS => ?_)
        refine lv_istore_n (lv' := [(3, .int r16.1), (0, .ref x0), (1, .int x1), (2, .int x2)]) hx hb dX8_compare_88 rfl hl (by decide) rfl (fun ls hl => ?_)
        refine lv_aload_n hx hb dX8_compare_89 rfl (lv_at hl 1 rfl) ?_
        obtain ⟨v17, hv17, hf⟩ := g_bind hf
        refine g_getr hx hb hts hown hK hG hv17 rfl iX8 (by decide) flX8_16 dX8_compare_90 ?_
        refine lv_iload_n hx hb dX8_compare_93 rfl (lv_at hl 2 rfl) ?_
        obtain ⟨v18, hv18, hf⟩ := g_bind hf
        refine g_zald hx hb hK hG hv18 rfl dX8_compare_94 ?_
        refine lv_if_eq (tgt := 103) hx hb dX8_compare_95 (by decide) (fun c19 => ?_) (fun c19 => ?_)
        · rw [if_pos c19] at hf
          refine lv_iload_n hx hb dX8_compare_103 rfl (lv_at hl 0 rfl) ?_
          exact tBX8_compare_104 C hK   _ _ _ _ _ hG hS (lv_sub hl [] rfl) hf
        · rw [if_neg c19] at hf
          refine lv_iload_n hx hb dX8_compare_98 rfl (lv_at hl 0 rfl) ?_
          refine lv_ineg hx hb dX8_compare_99 ?_
          refine lv_goto (tgt := 104) hx hb dX8_compare_100 (by decide) ?_
          exact tBX8_compare_104 C hK   _ _ _ _ _ hG hS (lv_sub hl [] rfl) hf
      · rw [if_neg c10] at hf
        refine lv_aload_n hx hb dX8_compare_37 rfl (lv_at hl 0 rfl) ?_
        obtain ⟨v20, hv20, hf⟩ := g_bind hf
        refine g_getr hx hb hts hown hK hG hv20 rfl iX8 (by decide) flX8_16 dX8_compare_38 ?_
        refine lv_iload_n hx hb dX8_compare_41 rfl (lv_at hl 1 rfl) ?_
        obtain ⟨v21, hv21, hf⟩ := g_bind hf
        refine g_zald hx hb hK hG hv21 rfl dX8_compare_42 ?_
        refine lv_if_eq (tgt := 50) hx hb dX8_compare_43 (by decide) (fun c22 => ?_) (fun c22 => ?_)
        · rw [if_pos c22] at hf
          refine lv_iconst (v := 1) hx hb dX8_compare_50 (by decide +kernel) ?_
          exact tBX8_compare_51 C hK   _ _ _ _ _ hG hS (lv_sub hl [] rfl) hf
        · rw [if_neg c22] at hf
          refine lv_iconst (v := (-1)) hx hb dX8_compare_46 (by decide +kernel) ?_
          refine lv_goto (tgt := 51) hx hb dX8_compare_47 (by decide) ?_
          exact tBX8_compare_51 C hK   _ _ _ _ _ hG hS (lv_sub hl [] rfl) hf
    · rw [if_pos c5] at hf
      exact tBX8_compare_19 C hK   _  _ _ _ hG hS (lv_sub hl [] rfl) hf

def rmX8_chooses : Room := { frames := 3, cells := 0, slots := 0, locals := 78 }
noncomputable def BX8_chooses_28  (σ : g_S) (x0 : Nat) (x1 : Int32) (y0 : Int32) : Option (Int32 × g_S) := (g_o σ 8 x0).bind fun o5 => (fX8_takesNumber σ x0 y0).bind fun r6 => (g_fr r6 8 x0 3).bind fun v7 => (g_li r6 5 v7 y0).bind fun v8 => (g_o r6 8 x0).bind fun o9 => (fX8_holds r6 x0 x1 v8).bind fun r10 => some (r10.1, r10.2)
noncomputable def BX8_chooses_20  (σ : g_S) (x0 : Nat) (x1 : Int32) (x2 : Int32) (x3 : Int32) (y0 : Int32) (y1 : Int32) : Option (Int32 × g_S) := if y0 = y1 then (BX8_chooses_28 σ x0 x1 x2) else (BX8_chooses_28 σ x0 x1 x3)
noncomputable def fX8_chooses (σ : g_S) (x0 : Nat) (x1 : Int32) (x2 : Int32) (x3 : Int32) (x4 : Int32) : Option (Int32 × g_S) := (g_o σ 8 x0).bind fun o1 => (fX8_compare σ x0 x2 x3).bind fun r2 => if r2.1 ≤ 0 then (BX8_chooses_20 r2.2 x0 x1 x2 x3 x4 0) else (BX8_chooses_20 r2.2 x0 x1 x2 x3 x4 1)
set_option maxHeartbeats 4000000 in
set_option maxRecDepth 100000 in
theorem tBX8_chooses_28 {p : Program} {l : Launch} {e : Env} {s : State} {m : MethodId} {args : Array Value} {below : List Frame} {meth : Method} {c : Code} {D : g_D} {out : Int32 × g_S} (C : g_C RX8 cX8_chooses 7 (some .int) True p s m args meth c) (hK : g_K D s)  : ∀ (σ : g_S) (x0 : Nat) (x1 : Int32) (y0 : Int32) (H : Heap) (locs : List Loc) (ls : Array Slot), g_H D σ H → va_S (g_A D) s.heap H locs → lv_has ls 7 [(0, .ref x0), (1, .int x1)] → BX8_chooses_28  σ x0 x1 y0 = some out → W p l e rmX8_chooses s m args below meth c H locs 0 0 (MQ below (g_Q D out.2 (some (.int out.1))) args s 0 0 (g_A D)) (F0 m 28 ls [.int y0]) := by
  obtain ⟨hx, hb, hml, hown, hts, hr, hlocks, hin⟩ := id C
  intro σ x0 x1 y0 H locs ls hG hS hl hf
  unfold BX8_chooses_28 at hf
  refine lv_istore (lv' := [(6, .int y0), (0, .ref x0), (1, .int x1)]) hx hb dX8_chooses_28 hl (by decide) rfl (fun ls hl => ?_)
  refine lv_aload_n hx hb dX8_chooses_30 rfl (lv_at hl 1 rfl) ?_
  refine lv_iload hx hb dX8_chooses_31 (lv_at hl 0 rfl) ?_
  obtain ⟨o5, ho5, hf⟩ := g_bind hf
  obtain ⟨r6, hr6, hf⟩ := g_bind hf
  refine g_callV hx hb hml hl.1 hts hown hK hG hS (As := [.int y0]) (rest := []) (tX8_takesNumber l D hr6) vX8_takesNumber mlX8_137 ho5 rfl rfl rfl rfl ⟨Nat.le_of_ble_eq_true rfl, Nat.le_of_ble_eq_true rfl⟩ rfl rfl (Nat.le_of_ble_eq_true rfl) ⟨Nat.le_of_ble_eq_true rfl, Nat.le_of_ble_eq_true rfl⟩ dX8_chooses_33 (fun H locs hG hS => ?_)
  refine lv_aload_n hx hb dX8_chooses_36 rfl (lv_at hl 1 rfl) ?_
  refine lv_iload_n hx hb dX8_chooses_37 rfl (lv_at hl 2 rfl) ?_
  refine lv_aload_n hx hb dX8_chooses_38 rfl (lv_at hl 1 rfl) ?_
  obtain ⟨v7, hv7, hf⟩ := g_bind hf
  refine g_getr hx hb hts hown hK hG hv7 rfl iX8 (by decide) flX8_16 dX8_chooses_39 ?_
  refine lv_iload hx hb dX8_chooses_42 (lv_at hl 0 rfl) ?_
  obtain ⟨v8, hv8, hf⟩ := g_bind hf
  refine g_zald hx hb hK hG hv8 rfl dX8_chooses_44 ?_
  obtain ⟨o9, ho9, hf⟩ := g_bind hf
  obtain ⟨r10, hr10, hf⟩ := g_bind hf
  refine g_callV hx hb hml hl.1 hts hown hK hG hS (As := [.int x1, .int v8]) (rest := []) (tX8_holds l D hr10) vX8_holds mlX8_108 ho9 rfl rfl rfl rfl ⟨Nat.le_of_ble_eq_true rfl, Nat.le_of_ble_eq_true rfl⟩ rfl rfl (Nat.le_of_ble_eq_true rfl) ⟨Nat.le_of_ble_eq_true rfl, Nat.le_of_ble_eq_true rfl⟩ dX8_chooses_45 (fun H locs hG hS => ?_)
  cases hf
  exact g_iret hx hb hr hlocks hG hS dX8_chooses_48

set_option maxHeartbeats 4000000 in
set_option maxRecDepth 100000 in
theorem tBX8_chooses_20 {p : Program} {l : Launch} {e : Env} {s : State} {m : MethodId} {args : Array Value} {below : List Frame} {meth : Method} {c : Code} {D : g_D} {out : Int32 × g_S} (C : g_C RX8 cX8_chooses 7 (some .int) True p s m args meth c) (hK : g_K D s)  : ∀ (σ : g_S) (x0 : Nat) (x1 : Int32) (x2 : Int32) (x3 : Int32) (y0 : Int32) (y1 : Int32) (H : Heap) (locs : List Loc) (ls : Array Slot), g_H D σ H → va_S (g_A D) s.heap H locs → lv_has ls 7 [(0, .ref x0), (1, .int x1), (2, .int x2), (3, .int x3)] → BX8_chooses_20  σ x0 x1 x2 x3 y0 y1 = some out → W p l e rmX8_chooses s m args below meth c H locs 0 0 (MQ below (g_Q D out.2 (some (.int out.1))) args s 0 0 (g_A D)) (F0 m 20 ls [.int y1, .int y0]) := by
  obtain ⟨hx, hb, hml, hown, hts, hr, hlocks, hin⟩ := id C
  intro σ x0 x1 x2 x3 y0 y1 H locs ls hG hS hl hf
  unfold BX8_chooses_20 at hf
  refine lv_icmp_ne (tgt := 27) hx hb dX8_chooses_20 (by decide) (fun c4 => ?_) (fun c4 => ?_)
  · rw [if_neg c4] at hf
    refine lv_iload_n hx hb dX8_chooses_27 rfl (lv_at hl 3 rfl) ?_
    exact tBX8_chooses_28 C hK   _ _ _ _ _ _ _ hG hS (lv_sub hl [0, 1] rfl) hf
  · rw [if_pos c4] at hf
    refine lv_iload_n hx hb dX8_chooses_23 rfl (lv_at hl 2 rfl) ?_
    refine lv_goto (tgt := 28) hx hb dX8_chooses_24 (by decide) ?_
    exact tBX8_chooses_28 C hK   _ _ _ _ _ _ _ hG hS (lv_sub hl [0, 1] rfl) hf

set_option maxHeartbeats 4000000 in
set_option maxRecDepth 100000 in
theorem tX8_chooses (l : Launch) (D : g_D) {σ : g_S} {x0 : Nat} {x1 : Int32} {x2 : Int32} {x3 : Int32} {x4 : Int32} {out : Int32 × g_S} (hf : fX8_chooses σ x0 x1 x2 x3 x4 = some out) : Met l yX8_chooses (Cond.code yX8_chooses cX8_chooses 7 (some .int) :: lw_g) rmX8_chooses (g_P D σ [.ref x0, .int x1, .int x2, .int x3, .int x4]) (g_Q D out.2 (some (.int out.1))) 0 0 (g_A D) := by
  refine Met.ofW (cc := cX8_chooses) (maxL := 7) (ret := (some .int)) (by decide +kernel) rfl ?_
  intro p e s m args below meth c s₁ B hml hv
  obtain ⟨rfl, hG, hK⟩ := hv
  have hts : ∀ w ∈ lw_g, w.before _ s = true := fun w h => atoms_spec (ws := (Cond.code yX8_chooses cX8_chooses 7 (some .int) :: lw_g)) B.pre w (List.mem_cons_of_mem _ h)
  have C : g_C RX8 cX8_chooses 7 (some .int) True p s m _ meth c := ⟨B.exec, B.bytes, hml, findClass_of_methodNamed B.named, hts, B.returns, B.notSynchronized, trivial⟩
  obtain ⟨hx, hb, hml, hown, hts, hr, hlocks, hin⟩ := id C
  have hS : va_S (g_A D) s.heap s.heap [] := va_S.rf
  have hl := lv_entry ([.ref x0, .int x1, .int x2, .int x3, .int x4]) (n := 7) (Nat.le_of_ble_eq_true rfl)
  rw [lg_entry_eq]
  generalize (lg_sl ([.ref x0, .int x1, .int x2, .int x3, .int x4]) ++ List.replicate (7 - (lg_sl ([.ref x0, .int x1, .int x2, .int x3, .int x4])).length) Slot.unset).toArray = ls at hl ⊢
  have hl : lv_has ls 7 [(0, .ref x0), (1, .int x1), (2, .int x2), (3, .int x3), (4, .int x4)] := hl
  unfold fX8_chooses at hf
  refine lv_aload_n hx hb dX8_chooses_0 rfl (lv_at hl 0 rfl) ?_
  refine lv_iload_n hx hb dX8_chooses_1 rfl (lv_at hl 2 rfl) ?_
  refine lv_iload_n hx hb dX8_chooses_2 rfl (lv_at hl 3 rfl) ?_
  obtain ⟨o1, ho1, hf⟩ := g_bind hf
  obtain ⟨r2, hr2, hf⟩ := g_bind hf
  refine g_callV hx hb hml hl.1 hts hown hK hG hS (As := [.int x2, .int x3]) (rest := []) (tX8_compare l D hr2) vX8_compare mlX8_134 ho1 rfl rfl rfl rfl ⟨Nat.le_of_ble_eq_true rfl, Nat.le_of_ble_eq_true rfl⟩ rfl rfl (Nat.le_of_ble_eq_true rfl) ⟨Nat.le_of_ble_eq_true rfl, Nat.le_of_ble_eq_true rfl⟩ dX8_chooses_3 (fun H locs hG hS => ?_)
  refine lv_istore (lv' := [(5, .int r2.1), (0, .ref x0), (1, .int x1), (2, .int x2), (3, .int x3), (4, .int x4)]) hx hb dX8_chooses_6 hl (by decide) rfl (fun ls hl => ?_)
  refine lv_iload hx hb dX8_chooses_8 (lv_at hl 5 rfl) ?_
  refine lv_iload hx hb dX8_chooses_10 (lv_at hl 0 rfl) ?_
  refine lv_if_le (tgt := 19) hx hb dX8_chooses_12 (by decide) (fun c3 => ?_) (fun c3 => ?_)
  · rw [if_pos c3] at hf
    refine lv_iconst (v := 0) hx hb dX8_chooses_19 (by decide +kernel) ?_
    exact tBX8_chooses_20 C hK   _ _ _ _ _ _ _ _ _ _ hG hS (lv_sub hl [1, 2, 3, 4] rfl) hf
  · rw [if_neg c3] at hf
    refine lv_iconst (v := 1) hx hb dX8_chooses_15 (by decide +kernel) ?_
    refine lv_goto (tgt := 20) hx hb dX8_chooses_16 (by decide) ?_
    exact tBX8_chooses_20 C hK   _ _ _ _ _ _ _ _ _ _ hG hS (lv_sub hl [1, 2, 3, 4] rfl) hf

def rmX8_reckon : Room := { frames := 5, cells := 0, slots := 0, locals := 124 }
noncomputable def BX8_reckon_79  (σ : g_S)  : Option (Int32 × g_S) := some ((-1), σ)
noncomputable def BX8_reckon_341  (σ : g_S) (x0 : Nat) (x1 : Int32) (x6 : Int32) : Option (Int32 × g_S) := (g_o σ 8 x0).bind fun o21 => (fX8_least σ x0).bind fun r22 => (g_o r22 8 x0).bind fun o23 => (fX8_holds r22 x0 x1 x6).bind fun r24 => some (r24.1, r24.2)
noncomputable def BX8_reckon_190  (σ : g_S) (x0 : Nat) (x1 : Int32) (y0 : Nat) (y1 : Int32) (y2 : Int32) (y3 : Int32) : Option (Int32 × g_S) := (g_o σ 8 y0).bind fun o19 => (fX8_sums σ y0 y1 y2 y3).bind fun r20 => BX8_reckon_341 r20.2 x0 x1 r20.1
noncomputable def BX8_reckon_274  (σ : g_S) (x0 : Nat) (x1 : Int32) (y0 : Nat) (y1 : Int32) (y2 : Int32) (y3 : Int32) : Option (Int32 × g_S) := (g_o σ 8 y0).bind fun o35 => (fX8_downwards σ y0 y1 y2 y3).bind fun r36 => BX8_reckon_341 r36.2 x0 x1 r36.1
noncomputable def BX8_reckon_337  (σ : g_S) (y0 : Nat) (y1 : Int32) (y2 : Int32) (y3 : Int32) (y4 : Int32) : Option (Int32 × g_S) := (g_o σ 8 y0).bind fun o47 => (fX8_chooses σ y0 y1 y2 y3 y4).bind fun r48 => some (r48.1, r48.2)
noncomputable def BX8_reckon_126  (σ : g_S) (x0 : Nat) (x1 : Int32) (x2 : Int32) (x3 : Int32) (x4 : Int32) (y0 : Int32) : Option (Int32 × g_S) := if x4 = 0 then (if x4 = 1 then (BX8_reckon_190 σ x0 x1 x0 x2 x3 1) else (BX8_reckon_190 σ x0 x1 x0 x2 x3 0)) else (if x4 = 1 then (if x4 = 1 then (BX8_reckon_190 σ x0 x1 x0 x2 x3 1) else (BX8_reckon_190 σ x0 x1 x0 x2 x3 0)) else (if x4 = 2 then ((g_o σ 8 x0).bind fun o26 => (fX8_times σ x0 (2 * x2) (2 * x3) 32).bind fun r27 => (g_o r27 8 x0).bind fun o28 => (fX8_times r27 x0 ((2 * x2) + 1) ((2 * x3) + 1) 33).bind fun r29 => BX8_reckon_341 r29 x0 x1 y0) else (if x4 = 3 then ((g_o σ 8 x0).bind fun o30 => (fX8_times σ x0 (2 * x2) ((2 * x3) + 1) 32).bind fun r31 => (g_o r31 8 x0).bind fun o32 => (fX8_times r31 x0 ((2 * x2) + 1) (2 * x3) 33).bind fun r33 => BX8_reckon_341 r33 x0 x1 y0) else (if x4 = 4 then (if x4 = 5 then (BX8_reckon_274 σ x0 x1 x0 x2 x3 1) else (BX8_reckon_274 σ x0 x1 x0 x2 x3 0)) else (if x4 = 5 then (if x4 = 5 then (BX8_reckon_274 σ x0 x1 x0 x2 x3 1) else (BX8_reckon_274 σ x0 x1 x0 x2 x3 0)) else (if x4 = 6 then ((g_o σ 8 x0).bind fun o38 => (fX8_common σ x0 (2 * x2) (2 * x3)).bind fun r39 => (g_o r39 8 x0).bind fun o40 => (fX8_copy r39 x0 39 32).bind fun r41 => (g_o r41 8 x0).bind fun o42 => (fX8_small r41 x0 33 1).bind fun r43 => BX8_reckon_341 r43 x0 x1 0) else (if x4 = 7 then ((g_o σ 8 x0).bind fun o44 => (fX8_raises σ x0 x1 x2 x3).bind fun r45 => some (r45.1, r45.2)) else ((if x4 = 9 then (BX8_reckon_337 σ x0 x1 x2 x3 1) else (BX8_reckon_337 σ x0 x1 x2 x3 0))))))))))
noncomputable def BX8_reckon_106  (σ : g_S) (x0 : Nat) (x1 : Int32) (x2 : Int32) (x3 : Int32) (x4 : Int32) : Option (Int32 × g_S) := (g_fr σ 8 x0 3).bind fun v13 => (g_li σ 5 v13 x2).bind fun v14 => (g_fr σ 8 x0 3).bind fun v15 => (g_li σ 5 v15 x3).bind fun v16 => if v14 = v16 then (BX8_reckon_126 σ x0 x1 x2 x3 x4 0) else (BX8_reckon_126 σ x0 x1 x2 x3 x4 1)
noncomputable def BX8_reckon_81  (σ : g_S) (x0 : Nat) (x1 : Int32) (x2 : Int32) (x3 : Int32) (x4 : Int32) : Option (Int32 × g_S) := if x4 < 3 then (BX8_reckon_106 σ x0 x1 x2 x3 x4) else (if 5 < x4 then (BX8_reckon_106 σ x0 x1 x2 x3 x4) else ((g_o σ 8 x0).bind fun o50 => (fX8_isZero σ x0 (2 * x3)).bind fun r51 => if r51.1 = 0 then (BX8_reckon_106 r51.2 x0 x1 x2 x3 x4) else (some ((-2), r51.2))))
noncomputable def BX8_reckon_23  (σ : g_S) (x0 : Nat) (x1 : Int32) (x2 : Int32) (x3 : Int32) (x4 : Int32) (y0 : Int32) : Option (Int32 × g_S) := (fX8_isPlace σ x1).bind fun r3 => if r3.1 = 0 then (BX8_reckon_79 r3.2) else ((fX8_isPlace r3.2 x2).bind fun r5 => if r5.1 = 0 then (BX8_reckon_79 r5.2) else ((fX8_isPlace r5.2 x3).bind fun r7 => if r7.1 = 0 then (BX8_reckon_79 r7.2) else (if x4 < 0 then (BX8_reckon_79 r7.2) else (if 9 < x4 then (BX8_reckon_79 r7.2) else (if y0 = 0 then (BX8_reckon_81 r7.2 x0 x1 x2 x3 x4) else ((g_o r7.2 8 x0).bind fun o53 => (fX8_isWhole r7.2 x0 x2).bind fun r54 => if r54.1 = 0 then (BX8_reckon_79 r54.2) else ((g_o r54.2 8 x0).bind fun o56 => (fX8_isWhole r54.2 x0 x3).bind fun r57 => if r57.1 = 0 then (BX8_reckon_79 r57.2) else (BX8_reckon_81 r57.2 x0 x1 x2 x3 x4))))))))
noncomputable def BX8_reckon_22  (σ : g_S) (x0 : Nat) (x1 : Int32) (x2 : Int32) (x3 : Int32) (x4 : Int32) : Option (Int32 × g_S) := BX8_reckon_23 σ x0 x1 x2 x3 x4 0
noncomputable def fX8_reckon (σ : g_S) (x0 : Nat) (x1 : Int32) (x2 : Int32) (x3 : Int32) (x4 : Int32) : Option (Int32 × g_S) := (g_p σ 8 x0 0 (.int 0)).bind fun σ1 => if x4 < 4 then (BX8_reckon_22 σ1 x0 x1 x2 x3 x4) else (if 6 < x4 then (BX8_reckon_22 σ1 x0 x1 x2 x3 x4) else (BX8_reckon_23 σ1 x0 x1 x2 x3 x4 1))
set_option maxHeartbeats 4000000 in
set_option maxRecDepth 100000 in
theorem tBX8_reckon_79 {p : Program} {l : Launch} {e : Env} {s : State} {m : MethodId} {args : Array Value} {below : List Frame} {meth : Method} {c : Code} {D : g_D} {out : Int32 × g_S} (C : g_C RX8 cX8_reckon 7 (some .int) True p s m args meth c) (hK : g_K D s)  : ∀ (σ : g_S)  (H : Heap) (locs : List Loc) (ls : Array Slot), g_H D σ H → va_S (g_A D) s.heap H locs → lv_has ls 7 [] → BX8_reckon_79  σ  = some out → W p l e rmX8_reckon s m args below meth c H locs 0 0 (MQ below (g_Q D out.2 (some (.int out.1))) args s 0 0 (g_A D)) (F0 m 79 ls []) := by
  obtain ⟨hx, hb, hml, hown, hts, hr, hlocks, hin⟩ := id C
  intro σ  H locs ls hG hS hl hf
  unfold BX8_reckon_79 at hf
  refine lv_iconst (v := (-1)) hx hb dX8_reckon_79 (by decide +kernel) ?_
  cases hf
  exact g_iret hx hb hr hlocks hG hS dX8_reckon_80

set_option maxHeartbeats 4000000 in
set_option maxRecDepth 100000 in
theorem tBX8_reckon_341 {p : Program} {l : Launch} {e : Env} {s : State} {m : MethodId} {args : Array Value} {below : List Frame} {meth : Method} {c : Code} {D : g_D} {out : Int32 × g_S} (C : g_C RX8 cX8_reckon 7 (some .int) True p s m args meth c) (hK : g_K D s)  : ∀ (σ : g_S) (x0 : Nat) (x1 : Int32) (x6 : Int32) (H : Heap) (locs : List Loc) (ls : Array Slot), g_H D σ H → va_S (g_A D) s.heap H locs → lv_has ls 7 [(0, .ref x0), (1, .int x1), (6, .int x6)] → BX8_reckon_341  σ x0 x1 x6 = some out → W p l e rmX8_reckon s m args below meth c H locs 0 0 (MQ below (g_Q D out.2 (some (.int out.1))) args s 0 0 (g_A D)) (F0 m 341 ls []) := by
  obtain ⟨hx, hb, hml, hown, hts, hr, hlocks, hin⟩ := id C
  intro σ x0 x1 x6 H locs ls hG hS hl hf
  unfold BX8_reckon_341 at hf
  refine lv_aload_n hx hb dX8_reckon_341 rfl (lv_at hl 0 rfl) ?_
  obtain ⟨o21, ho21, hf⟩ := g_bind hf
  obtain ⟨r22, hr22, hf⟩ := g_bind hf
  refine g_callV hx hb hml hl.1 hts hown hK hG hS (As := []) (rest := []) (tX8_least l D hr22) vX8_least mlX8_105 ho21 rfl rfl rfl rfl ⟨Nat.le_of_ble_eq_true rfl, Nat.le_of_ble_eq_true rfl⟩ rfl rfl (Nat.le_of_ble_eq_true rfl) ⟨Nat.le_of_ble_eq_true rfl, Nat.le_of_ble_eq_true rfl⟩ dX8_reckon_342 (fun H locs hG hS => ?_)
  refine lv_aload_n hx hb dX8_reckon_345 rfl (lv_at hl 0 rfl) ?_
  refine lv_iload_n hx hb dX8_reckon_346 rfl (lv_at hl 1 rfl) ?_
  refine lv_iload hx hb dX8_reckon_347 (lv_at hl 2 rfl) ?_
  obtain ⟨o23, ho23, hf⟩ := g_bind hf
  obtain ⟨r24, hr24, hf⟩ := g_bind hf
  refine g_callV hx hb hml hl.1 hts hown hK hG hS (As := [.int x1, .int x6]) (rest := []) (tX8_holds l D hr24) vX8_holds mlX8_108 ho23 rfl rfl rfl rfl ⟨Nat.le_of_ble_eq_true rfl, Nat.le_of_ble_eq_true rfl⟩ rfl rfl (Nat.le_of_ble_eq_true rfl) ⟨Nat.le_of_ble_eq_true rfl, Nat.le_of_ble_eq_true rfl⟩ dX8_reckon_349 (fun H locs hG hS => ?_)
  cases hf
  exact g_iret hx hb hr hlocks hG hS dX8_reckon_352

set_option maxHeartbeats 4000000 in
set_option maxRecDepth 100000 in
theorem tBX8_reckon_190 {p : Program} {l : Launch} {e : Env} {s : State} {m : MethodId} {args : Array Value} {below : List Frame} {meth : Method} {c : Code} {D : g_D} {out : Int32 × g_S} (C : g_C RX8 cX8_reckon 7 (some .int) True p s m args meth c) (hK : g_K D s)  : ∀ (σ : g_S) (x0 : Nat) (x1 : Int32) (y0 : Nat) (y1 : Int32) (y2 : Int32) (y3 : Int32) (H : Heap) (locs : List Loc) (ls : Array Slot), g_H D σ H → va_S (g_A D) s.heap H locs → lv_has ls 7 [(0, .ref x0), (1, .int x1)] → BX8_reckon_190  σ x0 x1 y0 y1 y2 y3 = some out → W p l e rmX8_reckon s m args below meth c H locs 0 0 (MQ below (g_Q D out.2 (some (.int out.1))) args s 0 0 (g_A D)) (F0 m 190 ls [.int y3, .int y2, .int y1, .ref y0]) := by
  obtain ⟨hx, hb, hml, hown, hts, hr, hlocks, hin⟩ := id C
  intro σ x0 x1 y0 y1 y2 y3 H locs ls hG hS hl hf
  unfold BX8_reckon_190 at hf
  obtain ⟨o19, ho19, hf⟩ := g_bind hf
  obtain ⟨r20, hr20, hf⟩ := g_bind hf
  refine g_callV hx hb hml hl.1 hts hown hK hG hS (As := [.int y1, .int y2, .int y3]) (rest := []) (tX8_sums l D hr20) vX8_sums mlX8_141 ho19 rfl rfl rfl rfl ⟨Nat.le_of_ble_eq_true rfl, Nat.le_of_ble_eq_true rfl⟩ rfl rfl (Nat.le_of_ble_eq_true rfl) ⟨Nat.le_of_ble_eq_true rfl, Nat.le_of_ble_eq_true rfl⟩ dX8_reckon_190 (fun H locs hG hS => ?_)
  refine lv_istore (lv' := [(6, .int r20.1), (0, .ref x0), (1, .int x1)]) hx hb dX8_reckon_193 hl (by decide) rfl (fun ls hl => ?_)
  refine lv_goto (tgt := 341) hx hb dX8_reckon_195 (by decide) ?_
  exact tBX8_reckon_341 C hK   _ _ _ _ _ _ _ hG hS (lv_sub hl [1, 2, 0] rfl) hf

set_option maxHeartbeats 4000000 in
set_option maxRecDepth 100000 in
theorem tBX8_reckon_274 {p : Program} {l : Launch} {e : Env} {s : State} {m : MethodId} {args : Array Value} {below : List Frame} {meth : Method} {c : Code} {D : g_D} {out : Int32 × g_S} (C : g_C RX8 cX8_reckon 7 (some .int) True p s m args meth c) (hK : g_K D s)  : ∀ (σ : g_S) (x0 : Nat) (x1 : Int32) (y0 : Nat) (y1 : Int32) (y2 : Int32) (y3 : Int32) (H : Heap) (locs : List Loc) (ls : Array Slot), g_H D σ H → va_S (g_A D) s.heap H locs → lv_has ls 7 [(0, .ref x0), (1, .int x1)] → BX8_reckon_274  σ x0 x1 y0 y1 y2 y3 = some out → W p l e rmX8_reckon s m args below meth c H locs 0 0 (MQ below (g_Q D out.2 (some (.int out.1))) args s 0 0 (g_A D)) (F0 m 274 ls [.int y3, .int y2, .int y1, .ref y0]) := by
  obtain ⟨hx, hb, hml, hown, hts, hr, hlocks, hin⟩ := id C
  intro σ x0 x1 y0 y1 y2 y3 H locs ls hG hS hl hf
  unfold BX8_reckon_274 at hf
  obtain ⟨o35, ho35, hf⟩ := g_bind hf
  obtain ⟨r36, hr36, hf⟩ := g_bind hf
  refine g_callV hx hb hml hl.1 hts hown hK hG hS (As := [.int y1, .int y2, .int y3]) (rest := []) (tX8_downwards l D hr36) vX8_downwards mlX8_145 ho35 rfl rfl rfl rfl ⟨Nat.le_of_ble_eq_true rfl, Nat.le_of_ble_eq_true rfl⟩ rfl rfl (Nat.le_of_ble_eq_true rfl) ⟨Nat.le_of_ble_eq_true rfl, Nat.le_of_ble_eq_true rfl⟩ dX8_reckon_274 (fun H locs hG hS => ?_)
  refine lv_istore (lv' := [(6, .int r36.1), (0, .ref x0), (1, .int x1)]) hx hb dX8_reckon_277 hl (by decide) rfl (fun ls hl => ?_)
  refine lv_goto (tgt := 341) hx hb dX8_reckon_279 (by decide) ?_
  exact tBX8_reckon_341 C hK   _ _ _ _ _ _ _ hG hS (lv_sub hl [1, 2, 0] rfl) hf

set_option maxHeartbeats 4000000 in
set_option maxRecDepth 100000 in
theorem tBX8_reckon_337 {p : Program} {l : Launch} {e : Env} {s : State} {m : MethodId} {args : Array Value} {below : List Frame} {meth : Method} {c : Code} {D : g_D} {out : Int32 × g_S} (C : g_C RX8 cX8_reckon 7 (some .int) True p s m args meth c) (hK : g_K D s)  : ∀ (σ : g_S) (y0 : Nat) (y1 : Int32) (y2 : Int32) (y3 : Int32) (y4 : Int32) (H : Heap) (locs : List Loc) (ls : Array Slot), g_H D σ H → va_S (g_A D) s.heap H locs → lv_has ls 7 [] → BX8_reckon_337  σ y0 y1 y2 y3 y4 = some out → W p l e rmX8_reckon s m args below meth c H locs 0 0 (MQ below (g_Q D out.2 (some (.int out.1))) args s 0 0 (g_A D)) (F0 m 337 ls [.int y4, .int y3, .int y2, .int y1, .ref y0]) := by
  obtain ⟨hx, hb, hml, hown, hts, hr, hlocks, hin⟩ := id C
  intro σ y0 y1 y2 y3 y4 H locs ls hG hS hl hf
  unfold BX8_reckon_337 at hf
  obtain ⟨o47, ho47, hf⟩ := g_bind hf
  obtain ⟨r48, hr48, hf⟩ := g_bind hf
  refine g_callV hx hb hml hl.1 hts hown hK hG hS (As := [.int y1, .int y2, .int y3, .int y4]) (rest := []) (tX8_chooses l D hr48) vX8_chooses mlX8_151 ho47 rfl rfl rfl rfl ⟨Nat.le_of_ble_eq_true rfl, Nat.le_of_ble_eq_true rfl⟩ rfl rfl (Nat.le_of_ble_eq_true rfl) ⟨Nat.le_of_ble_eq_true rfl, Nat.le_of_ble_eq_true rfl⟩ dX8_reckon_337 (fun H locs hG hS => ?_)
  cases hf
  exact g_iret hx hb hr hlocks hG hS dX8_reckon_340

set_option maxHeartbeats 4000000 in
set_option maxRecDepth 100000 in
theorem tBX8_reckon_126 {p : Program} {l : Launch} {e : Env} {s : State} {m : MethodId} {args : Array Value} {below : List Frame} {meth : Method} {c : Code} {D : g_D} {out : Int32 × g_S} (C : g_C RX8 cX8_reckon 7 (some .int) True p s m args meth c) (hK : g_K D s)  : ∀ (σ : g_S) (x0 : Nat) (x1 : Int32) (x2 : Int32) (x3 : Int32) (x4 : Int32) (y0 : Int32) (H : Heap) (locs : List Loc) (ls : Array Slot), g_H D σ H → va_S (g_A D) s.heap H locs → lv_has ls 7 [(0, .ref x0), (1, .int x1), (2, .int x2), (3, .int x3), (4, .int x4)] → BX8_reckon_126  σ x0 x1 x2 x3 x4 y0 = some out → W p l e rmX8_reckon s m args below meth c H locs 0 0 (MQ below (g_Q D out.2 (some (.int out.1))) args s 0 0 (g_A D)) (F0 m 126 ls [.int y0]) := by
  obtain ⟨hx, hb, hml, hown, hts, hr, hlocks, hin⟩ := id C
  intro σ x0 x1 x2 x3 x4 y0 H locs ls hG hS hl hf
  unfold BX8_reckon_126 at hf
  refine lv_istore (lv' := [(6, .int y0), (0, .ref x0), (1, .int x1), (2, .int x2), (3, .int x3), (4, .int x4)]) hx hb dX8_reckon_126 hl (by decide) rfl (fun ls hl => ?_)
  refine lv_iload hx hb dX8_reckon_128 (lv_at hl 5 rfl) ?_
  by_cases n0 : x4 = 0
  · rw [if_pos n0] at hf
    refine lv_tableIn (tgt := 176) hx hb dX8_reckon_130 (by rw [n0]; decide) (by rw [n0]; decide) (by rw [n0]; rfl) (by decide) ?_
    refine lv_aload_n hx hb dX8_reckon_176 rfl (lv_at hl 1 rfl) ?_
    refine lv_iload_n hx hb dX8_reckon_177 rfl (lv_at hl 3 rfl) ?_
    refine lv_iload_n hx hb dX8_reckon_178 rfl (lv_at hl 4 rfl) ?_
    refine lv_iload hx hb dX8_reckon_179 (lv_at hl 5 rfl) ?_
    refine lv_iconst (v := 1) hx hb dX8_reckon_181 (by decide +kernel) ?_
    refine lv_icmp_ne (tgt := 189) hx hb dX8_reckon_182 (by decide) (fun c18 => ?_) (fun c18 => ?_)
    · rw [if_neg c18] at hf
      refine lv_iconst (v := 0) hx hb dX8_reckon_189 (by decide +kernel) ?_
      exact tBX8_reckon_190 C hK   _ _ _ _ _ _ _ _ _ _ hG hS (lv_sub hl [1, 2] rfl) hf
    · rw [if_pos c18] at hf
      refine lv_iconst (v := 1) hx hb dX8_reckon_185 (by decide +kernel) ?_
      refine lv_goto (tgt := 190) hx hb dX8_reckon_186 (by decide) ?_
      exact tBX8_reckon_190 C hK   _ _ _ _ _ _ _ _ _ _ hG hS (lv_sub hl [1, 2] rfl) hf
  · rw [if_neg n0] at hf
    by_cases n1 : x4 = 1
    · rw [if_pos n1] at hf
      refine lv_tableIn (tgt := 176) hx hb dX8_reckon_130 (by rw [n1]; decide) (by rw [n1]; decide) (by rw [n1]; rfl) (by decide) ?_
      refine lv_aload_n hx hb dX8_reckon_176 rfl (lv_at hl 1 rfl) ?_
      refine lv_iload_n hx hb dX8_reckon_177 rfl (lv_at hl 3 rfl) ?_
      refine lv_iload_n hx hb dX8_reckon_178 rfl (lv_at hl 4 rfl) ?_
      refine lv_iload hx hb dX8_reckon_179 (lv_at hl 5 rfl) ?_
      refine lv_iconst (v := 1) hx hb dX8_reckon_181 (by decide +kernel) ?_
      refine lv_icmp_ne (tgt := 189) hx hb dX8_reckon_182 (by decide) (fun c25 => ?_) (fun c25 => ?_)
      · rw [if_neg c25] at hf
        refine lv_iconst (v := 0) hx hb dX8_reckon_189 (by decide +kernel) ?_
        exact tBX8_reckon_190 C hK   _ _ _ _ _ _ _ _ _ _ hG hS (lv_sub hl [1, 2] rfl) hf
      · rw [if_pos c25] at hf
        refine lv_iconst (v := 1) hx hb dX8_reckon_185 (by decide +kernel) ?_
        refine lv_goto (tgt := 190) hx hb dX8_reckon_186 (by decide) ?_
        exact tBX8_reckon_190 C hK   _ _ _ _ _ _ _ _ _ _ hG hS (lv_sub hl [1, 2] rfl) hf
    · rw [if_neg n1] at hf
      by_cases n2 : x4 = 2
      · rw [if_pos n2] at hf
        refine lv_tableIn (tgt := 198) hx hb dX8_reckon_130 (by rw [n2]; decide) (by rw [n2]; decide) (by rw [n2]; rfl) (by decide) ?_
        refine lv_aload_n hx hb dX8_reckon_198 rfl (lv_at hl 1 rfl) ?_
        refine lv_iconst (v := 2) hx hb dX8_reckon_199 (by decide +kernel) ?_
        refine lv_iload_n hx hb dX8_reckon_200 rfl (lv_at hl 3 rfl) ?_
        refine lv_imul hx hb dX8_reckon_201 ?_
        refine lv_iconst (v := 2) hx hb dX8_reckon_202 (by decide +kernel) ?_
        refine lv_iload_n hx hb dX8_reckon_203 rfl (lv_at hl 4 rfl) ?_
        refine lv_imul hx hb dX8_reckon_204 ?_
        refine lv_bipush (v := 32) hx hb dX8_reckon_205 (by decide +kernel) ?_
        obtain ⟨o26, ho26, hf⟩ := g_bind hf
        obtain ⟨r27, hr27, hf⟩ := g_bind hf
        refine g_callV hx hb hml hl.1 hts hown hK hG hS (As := [.int (2 * x2), .int (2 * x3), .int 32]) (rest := []) (tX8_times l D hr27) vX8_times mlX8_112 ho26 rfl rfl rfl rfl ⟨Nat.le_of_ble_eq_true rfl, Nat.le_of_ble_eq_true rfl⟩ rfl rfl (Nat.le_of_ble_eq_true rfl) ⟨Nat.le_of_ble_eq_true rfl, Nat.le_of_ble_eq_true rfl⟩ dX8_reckon_207 (fun H locs hG hS => ?_)
        refine lv_aload_n hx hb dX8_reckon_210 rfl (lv_at hl 1 rfl) ?_
        refine lv_iconst (v := 2) hx hb dX8_reckon_211 (by decide +kernel) ?_
        refine lv_iload_n hx hb dX8_reckon_212 rfl (lv_at hl 3 rfl) ?_
        refine lv_imul hx hb dX8_reckon_213 ?_
        refine lv_iconst (v := 1) hx hb dX8_reckon_214 (by decide +kernel) ?_
        refine lv_iadd hx hb dX8_reckon_215 ?_
        refine lv_iconst (v := 2) hx hb dX8_reckon_216 (by decide +kernel) ?_
        refine lv_iload_n hx hb dX8_reckon_217 rfl (lv_at hl 4 rfl) ?_
        refine lv_imul hx hb dX8_reckon_218 ?_
        refine lv_iconst (v := 1) hx hb dX8_reckon_219 (by decide +kernel) ?_
        refine lv_iadd hx hb dX8_reckon_220 ?_
        refine lv_bipush (v := 33) hx hb dX8_reckon_221 (by decide +kernel) ?_
        obtain ⟨o28, ho28, hf⟩ := g_bind hf
        obtain ⟨r29, hr29, hf⟩ := g_bind hf
        refine g_callV hx hb hml hl.1 hts hown hK hG hS (As := [.int ((2 * x2) + 1), .int ((2 * x3) + 1), .int 33]) (rest := []) (tX8_times l D hr29) vX8_times mlX8_112 ho28 rfl rfl rfl rfl ⟨Nat.le_of_ble_eq_true rfl, Nat.le_of_ble_eq_true rfl⟩ rfl rfl (Nat.le_of_ble_eq_true rfl) ⟨Nat.le_of_ble_eq_true rfl, Nat.le_of_ble_eq_true rfl⟩ dX8_reckon_223 (fun H locs hG hS => ?_)
        refine lv_goto (tgt := 341) hx hb dX8_reckon_226 (by decide) ?_
        exact tBX8_reckon_341 C hK   _ _ _ _ _ _ _ hG hS (lv_sub hl [1, 2, 0] rfl) hf
      · rw [if_neg n2] at hf
        by_cases n3 : x4 = 3
        · rw [if_pos n3] at hf
          refine lv_tableIn (tgt := 229) hx hb dX8_reckon_130 (by rw [n3]; decide) (by rw [n3]; decide) (by rw [n3]; rfl) (by decide) ?_
          refine lv_aload_n hx hb dX8_reckon_229 rfl (lv_at hl 1 rfl) ?_
          refine lv_iconst (v := 2) hx hb dX8_reckon_230 (by decide +kernel) ?_
          refine lv_iload_n hx hb dX8_reckon_231 rfl (lv_at hl 3 rfl) ?_
          refine lv_imul hx hb dX8_reckon_232 ?_
          refine lv_iconst (v := 2) hx hb dX8_reckon_233 (by decide +kernel) ?_
          refine lv_iload_n hx hb dX8_reckon_234 rfl (lv_at hl 4 rfl) ?_
          refine lv_imul hx hb dX8_reckon_235 ?_
          refine lv_iconst (v := 1) hx hb dX8_reckon_236 (by decide +kernel) ?_
          refine lv_iadd hx hb dX8_reckon_237 ?_
          refine lv_bipush (v := 32) hx hb dX8_reckon_238 (by decide +kernel) ?_
          obtain ⟨o30, ho30, hf⟩ := g_bind hf
          obtain ⟨r31, hr31, hf⟩ := g_bind hf
          refine g_callV hx hb hml hl.1 hts hown hK hG hS (As := [.int (2 * x2), .int ((2 * x3) + 1), .int 32]) (rest := []) (tX8_times l D hr31) vX8_times mlX8_112 ho30 rfl rfl rfl rfl ⟨Nat.le_of_ble_eq_true rfl, Nat.le_of_ble_eq_true rfl⟩ rfl rfl (Nat.le_of_ble_eq_true rfl) ⟨Nat.le_of_ble_eq_true rfl, Nat.le_of_ble_eq_true rfl⟩ dX8_reckon_240 (fun H locs hG hS => ?_)
          refine lv_aload_n hx hb dX8_reckon_243 rfl (lv_at hl 1 rfl) ?_
          refine lv_iconst (v := 2) hx hb dX8_reckon_244 (by decide +kernel) ?_
          refine lv_iload_n hx hb dX8_reckon_245 rfl (lv_at hl 3 rfl) ?_
          refine lv_imul hx hb dX8_reckon_246 ?_
          refine lv_iconst (v := 1) hx hb dX8_reckon_247 (by decide +kernel) ?_
          refine lv_iadd hx hb dX8_reckon_248 ?_
          refine lv_iconst (v := 2) hx hb dX8_reckon_249 (by decide +kernel) ?_
          refine lv_iload_n hx hb dX8_reckon_250 rfl (lv_at hl 4 rfl) ?_
          refine lv_imul hx hb dX8_reckon_251 ?_
          refine lv_bipush (v := 33) hx hb dX8_reckon_252 (by decide +kernel) ?_
          obtain ⟨o32, ho32, hf⟩ := g_bind hf
          obtain ⟨r33, hr33, hf⟩ := g_bind hf
          refine g_callV hx hb hml hl.1 hts hown hK hG hS (As := [.int ((2 * x2) + 1), .int (2 * x3), .int 33]) (rest := []) (tX8_times l D hr33) vX8_times mlX8_112 ho32 rfl rfl rfl rfl ⟨Nat.le_of_ble_eq_true rfl, Nat.le_of_ble_eq_true rfl⟩ rfl rfl (Nat.le_of_ble_eq_true rfl) ⟨Nat.le_of_ble_eq_true rfl, Nat.le_of_ble_eq_true rfl⟩ dX8_reckon_254 (fun H locs hG hS => ?_)
          refine lv_goto (tgt := 341) hx hb dX8_reckon_257 (by decide) ?_
          exact tBX8_reckon_341 C hK   _ _ _ _ _ _ _ hG hS (lv_sub hl [1, 2, 0] rfl) hf
        · rw [if_neg n3] at hf
          by_cases n4 : x4 = 4
          · rw [if_pos n4] at hf
            refine lv_tableIn (tgt := 260) hx hb dX8_reckon_130 (by rw [n4]; decide) (by rw [n4]; decide) (by rw [n4]; rfl) (by decide) ?_
            refine lv_aload_n hx hb dX8_reckon_260 rfl (lv_at hl 1 rfl) ?_
            refine lv_iload_n hx hb dX8_reckon_261 rfl (lv_at hl 3 rfl) ?_
            refine lv_iload_n hx hb dX8_reckon_262 rfl (lv_at hl 4 rfl) ?_
            refine lv_iload hx hb dX8_reckon_263 (lv_at hl 5 rfl) ?_
            refine lv_iconst (v := 5) hx hb dX8_reckon_265 (by decide +kernel) ?_
            refine lv_icmp_ne (tgt := 273) hx hb dX8_reckon_266 (by decide) (fun c34 => ?_) (fun c34 => ?_)
            · rw [if_neg c34] at hf
              refine lv_iconst (v := 0) hx hb dX8_reckon_273 (by decide +kernel) ?_
              exact tBX8_reckon_274 C hK   _ _ _ _ _ _ _ _ _ _ hG hS (lv_sub hl [1, 2] rfl) hf
            · rw [if_pos c34] at hf
              refine lv_iconst (v := 1) hx hb dX8_reckon_269 (by decide +kernel) ?_
              refine lv_goto (tgt := 274) hx hb dX8_reckon_270 (by decide) ?_
              exact tBX8_reckon_274 C hK   _ _ _ _ _ _ _ _ _ _ hG hS (lv_sub hl [1, 2] rfl) hf
          · rw [if_neg n4] at hf
            by_cases n5 : x4 = 5
            · rw [if_pos n5] at hf
              refine lv_tableIn (tgt := 260) hx hb dX8_reckon_130 (by rw [n5]; decide) (by rw [n5]; decide) (by rw [n5]; rfl) (by decide) ?_
              refine lv_aload_n hx hb dX8_reckon_260 rfl (lv_at hl 1 rfl) ?_
              refine lv_iload_n hx hb dX8_reckon_261 rfl (lv_at hl 3 rfl) ?_
              refine lv_iload_n hx hb dX8_reckon_262 rfl (lv_at hl 4 rfl) ?_
              refine lv_iload hx hb dX8_reckon_263 (lv_at hl 5 rfl) ?_
              refine lv_iconst (v := 5) hx hb dX8_reckon_265 (by decide +kernel) ?_
              refine lv_icmp_ne (tgt := 273) hx hb dX8_reckon_266 (by decide) (fun c37 => ?_) (fun c37 => ?_)
              · rw [if_neg c37] at hf
                refine lv_iconst (v := 0) hx hb dX8_reckon_273 (by decide +kernel) ?_
                exact tBX8_reckon_274 C hK   _ _ _ _ _ _ _ _ _ _ hG hS (lv_sub hl [1, 2] rfl) hf
              · rw [if_pos c37] at hf
                refine lv_iconst (v := 1) hx hb dX8_reckon_269 (by decide +kernel) ?_
                refine lv_goto (tgt := 274) hx hb dX8_reckon_270 (by decide) ?_
                exact tBX8_reckon_274 C hK   _ _ _ _ _ _ _ _ _ _ hG hS (lv_sub hl [1, 2] rfl) hf
            · rw [if_neg n5] at hf
              by_cases n6 : x4 = 6
              · rw [if_pos n6] at hf
                refine lv_tableIn (tgt := 282) hx hb dX8_reckon_130 (by rw [n6]; decide) (by rw [n6]; decide) (by rw [n6]; rfl) (by decide) ?_
                refine lv_aload_n hx hb dX8_reckon_282 rfl (lv_at hl 1 rfl) ?_
                refine lv_iconst (v := 2) hx hb dX8_reckon_283 (by decide +kernel) ?_
                refine lv_iload_n hx hb dX8_reckon_284 rfl (lv_at hl 3 rfl) ?_
                refine lv_imul hx hb dX8_reckon_285 ?_
                refine lv_iconst (v := 2) hx hb dX8_reckon_286 (by decide +kernel) ?_
                refine lv_iload_n hx hb dX8_reckon_287 rfl (lv_at hl 4 rfl) ?_
                refine lv_imul hx hb dX8_reckon_288 ?_
                obtain ⟨o38, ho38, hf⟩ := g_bind hf
                obtain ⟨r39, hr39, hf⟩ := g_bind hf
                refine g_callV hx hb hml hl.1 hts hown hK hG hS (As := [.int (2 * x2), .int (2 * x3)]) (rest := []) (tX8_common l D hr39) vX8_common mlX8_80 ho38 rfl rfl rfl rfl ⟨Nat.le_of_ble_eq_true rfl, Nat.le_of_ble_eq_true rfl⟩ rfl rfl (Nat.le_of_ble_eq_true rfl) ⟨Nat.le_of_ble_eq_true rfl, Nat.le_of_ble_eq_true rfl⟩ dX8_reckon_289 (fun H locs hG hS => ?_)
                refine lv_aload_n hx hb dX8_reckon_292 rfl (lv_at hl 1 rfl) ?_
                refine lv_bipush (v := 39) hx hb dX8_reckon_293 (by decide +kernel) ?_
                refine lv_bipush (v := 32) hx hb dX8_reckon_295 (by decide +kernel) ?_
                obtain ⟨o40, ho40, hf⟩ := g_bind hf
                obtain ⟨r41, hr41, hf⟩ := g_bind hf
                refine g_callV hx hb hml hl.1 hts hown hK hG hS (As := [.int 39, .int 32]) (rest := []) (tX8_copy l D hr41) vX8_copy mlX8_51 ho40 rfl rfl rfl rfl ⟨Nat.le_of_ble_eq_true rfl, Nat.le_of_ble_eq_true rfl⟩ rfl rfl (Nat.le_of_ble_eq_true rfl) ⟨Nat.le_of_ble_eq_true rfl, Nat.le_of_ble_eq_true rfl⟩ dX8_reckon_297 (fun H locs hG hS => ?_)
                refine lv_aload_n hx hb dX8_reckon_300 rfl (lv_at hl 1 rfl) ?_
                refine lv_bipush (v := 33) hx hb dX8_reckon_301 (by decide +kernel) ?_
                refine lv_iconst (v := 1) hx hb dX8_reckon_303 (by decide +kernel) ?_
                obtain ⟨o42, ho42, hf⟩ := g_bind hf
                obtain ⟨r43, hr43, hf⟩ := g_bind hf
                refine g_callV hx hb hml hl.1 hts hown hK hG hS (As := [.int 33, .int 1]) (rest := []) (tX8_small l D hr43) vX8_small mlX8_26 ho42 rfl rfl rfl rfl ⟨Nat.le_of_ble_eq_true rfl, Nat.le_of_ble_eq_true rfl⟩ rfl rfl (Nat.le_of_ble_eq_true rfl) ⟨Nat.le_of_ble_eq_true rfl, Nat.le_of_ble_eq_true rfl⟩ dX8_reckon_304 (fun H locs hG hS => ?_)
                refine lv_iconst (v := 0) hx hb dX8_reckon_307 (by decide +kernel) ?_
                refine lv_istore (lv' := [(6, .int 0), (0, .ref x0), (1, .int x1), (2, .int x2), (3, .int x3), (4, .int x4)]) hx hb dX8_reckon_308 hl (by decide) rfl (fun ls hl => ?_)
                refine lv_goto (tgt := 341) hx hb dX8_reckon_310 (by decide) ?_
                exact tBX8_reckon_341 C hK   _ _ _ _ _ _ _ hG hS (lv_sub hl [1, 2, 0] rfl) hf
              · rw [if_neg n6] at hf
                by_cases n7 : x4 = 7
                · rw [if_pos n7] at hf
                  refine lv_tableIn (tgt := 313) hx hb dX8_reckon_130 (by rw [n7]; decide) (by rw [n7]; decide) (by rw [n7]; rfl) (by decide) ?_
                  refine lv_aload_n hx hb dX8_reckon_313 rfl (lv_at hl 1 rfl) ?_
                  refine lv_iload_n hx hb dX8_reckon_314 rfl (lv_at hl 2 rfl) ?_
                  refine lv_iload_n hx hb dX8_reckon_315 rfl (lv_at hl 3 rfl) ?_
                  refine lv_iload_n hx hb dX8_reckon_316 rfl (lv_at hl 4 rfl) ?_
                  obtain ⟨o44, ho44, hf⟩ := g_bind hf
                  obtain ⟨r45, hr45, hf⟩ := g_bind hf
                  refine g_callV hx hb hml hl.1 hts hown hK hG hS (As := [.int x1, .int x2, .int x3]) (rest := []) (tX8_raises l D hr45) vX8_raises mlX8_148 ho44 rfl rfl rfl rfl ⟨Nat.le_of_ble_eq_true rfl, Nat.le_of_ble_eq_true rfl⟩ rfl rfl (Nat.le_of_ble_eq_true rfl) ⟨Nat.le_of_ble_eq_true rfl, Nat.le_of_ble_eq_true rfl⟩ dX8_reckon_317 (fun H locs hG hS => ?_)
                  cases hf
                  exact g_iret hx hb hr hlocks hG hS dX8_reckon_320
                · rw [if_neg n7] at hf
                  refine lv_tableOut (tgt := 321) hx hb dX8_reckon_130 (g_out (hi := 7) (fun k h => match k, h with | 0, _ => n0 | 1, _ => n1 | 2, _ => n2 | 3, _ => n3 | 4, _ => n4 | 5, _ => n5 | 6, _ => n6 | 7, _ => n7 | k + 8, h => absurd h (by omega))) (by decide) ?_
                  refine lv_aload_n hx hb dX8_reckon_321 rfl (lv_at hl 1 rfl) ?_
                  refine lv_iload_n hx hb dX8_reckon_322 rfl (lv_at hl 2 rfl) ?_
                  refine lv_iload_n hx hb dX8_reckon_323 rfl (lv_at hl 3 rfl) ?_
                  refine lv_iload_n hx hb dX8_reckon_324 rfl (lv_at hl 4 rfl) ?_
                  refine lv_iload hx hb dX8_reckon_325 (lv_at hl 5 rfl) ?_
                  refine lv_bipush (v := 9) hx hb dX8_reckon_327 (by decide +kernel) ?_
                  refine lv_icmp_ne (tgt := 336) hx hb dX8_reckon_329 (by decide) (fun c46 => ?_) (fun c46 => ?_)
                  · rw [if_neg c46] at hf
                    refine lv_iconst (v := 0) hx hb dX8_reckon_336 (by decide +kernel) ?_
                    exact tBX8_reckon_337 C hK   _ _ _ _ _ _ _ _ _ hG hS (lv_sub hl [] rfl) hf
                  · rw [if_pos c46] at hf
                    refine lv_iconst (v := 1) hx hb dX8_reckon_332 (by decide +kernel) ?_
                    refine lv_goto (tgt := 337) hx hb dX8_reckon_333 (by decide) ?_
                    exact tBX8_reckon_337 C hK   _ _ _ _ _ _ _ _ _ hG hS (lv_sub hl [] rfl) hf

set_option maxHeartbeats 4000000 in
set_option maxRecDepth 100000 in
theorem tBX8_reckon_106 {p : Program} {l : Launch} {e : Env} {s : State} {m : MethodId} {args : Array Value} {below : List Frame} {meth : Method} {c : Code} {D : g_D} {out : Int32 × g_S} (C : g_C RX8 cX8_reckon 7 (some .int) True p s m args meth c) (hK : g_K D s)  : ∀ (σ : g_S) (x0 : Nat) (x1 : Int32) (x2 : Int32) (x3 : Int32) (x4 : Int32) (H : Heap) (locs : List Loc) (ls : Array Slot), g_H D σ H → va_S (g_A D) s.heap H locs → lv_has ls 7 [(0, .ref x0), (1, .int x1), (2, .int x2), (3, .int x3), (4, .int x4)] → BX8_reckon_106  σ x0 x1 x2 x3 x4 = some out → W p l e rmX8_reckon s m args below meth c H locs 0 0 (MQ below (g_Q D out.2 (some (.int out.1))) args s 0 0 (g_A D)) (F0 m 106 ls []) := by
  obtain ⟨hx, hb, hml, hown, hts, hr, hlocks, hin⟩ := id C
  intro σ x0 x1 x2 x3 x4 H locs ls hG hS hl hf
  unfold BX8_reckon_106 at hf
  refine lv_aload_n hx hb dX8_reckon_106 rfl (lv_at hl 0 rfl) ?_
  obtain ⟨v13, hv13, hf⟩ := g_bind hf
  refine g_getr hx hb hts hown hK hG hv13 rfl iX8 (by decide) flX8_16 dX8_reckon_107 ?_
  refine lv_iload_n hx hb dX8_reckon_110 rfl (lv_at hl 2 rfl) ?_
  obtain ⟨v14, hv14, hf⟩ := g_bind hf
  refine g_zald hx hb hK hG hv14 rfl dX8_reckon_111 ?_
  refine lv_aload_n hx hb dX8_reckon_112 rfl (lv_at hl 0 rfl) ?_
  obtain ⟨v15, hv15, hf⟩ := g_bind hf
  refine g_getr hx hb hts hown hK hG hv15 rfl iX8 (by decide) flX8_16 dX8_reckon_113 ?_
  refine lv_iload_n hx hb dX8_reckon_116 rfl (lv_at hl 3 rfl) ?_
  obtain ⟨v16, hv16, hf⟩ := g_bind hf
  refine g_zald hx hb hK hG hv16 rfl dX8_reckon_117 ?_
  refine lv_icmp_eq (tgt := 125) hx hb dX8_reckon_118 (by decide) (fun c17 => ?_) (fun c17 => ?_)
  · rw [if_pos c17] at hf
    refine lv_iconst (v := 0) hx hb dX8_reckon_125 (by decide +kernel) ?_
    exact tBX8_reckon_126 C hK   _ _ _ _ _ _ _ _ _ _ hG hS (lv_sub hl [0, 1, 2, 3, 4] rfl) hf
  · rw [if_neg c17] at hf
    refine lv_iconst (v := 1) hx hb dX8_reckon_121 (by decide +kernel) ?_
    refine lv_goto (tgt := 126) hx hb dX8_reckon_122 (by decide) ?_
    exact tBX8_reckon_126 C hK   _ _ _ _ _ _ _ _ _ _ hG hS (lv_sub hl [0, 1, 2, 3, 4] rfl) hf

set_option maxHeartbeats 4000000 in
set_option maxRecDepth 100000 in
theorem tBX8_reckon_81 {p : Program} {l : Launch} {e : Env} {s : State} {m : MethodId} {args : Array Value} {below : List Frame} {meth : Method} {c : Code} {D : g_D} {out : Int32 × g_S} (C : g_C RX8 cX8_reckon 7 (some .int) True p s m args meth c) (hK : g_K D s)  : ∀ (σ : g_S) (x0 : Nat) (x1 : Int32) (x2 : Int32) (x3 : Int32) (x4 : Int32) (H : Heap) (locs : List Loc) (ls : Array Slot), g_H D σ H → va_S (g_A D) s.heap H locs → lv_has ls 7 [(0, .ref x0), (1, .int x1), (2, .int x2), (3, .int x3), (4, .int x4)] → BX8_reckon_81  σ x0 x1 x2 x3 x4 = some out → W p l e rmX8_reckon s m args below meth c H locs 0 0 (MQ below (g_Q D out.2 (some (.int out.1))) args s 0 0 (g_A D)) (F0 m 81 ls []) := by
  obtain ⟨hx, hb, hml, hown, hts, hr, hlocks, hin⟩ := id C
  intro σ x0 x1 x2 x3 x4 H locs ls hG hS hl hf
  unfold BX8_reckon_81 at hf
  refine lv_iload hx hb dX8_reckon_81 (lv_at hl 4 rfl) ?_
  refine lv_iconst (v := 3) hx hb dX8_reckon_83 (by decide +kernel) ?_
  refine lv_icmp_lt (tgt := 106) hx hb dX8_reckon_84 (by decide) (fun c12 => ?_) (fun c12 => ?_)
  · rw [if_pos c12] at hf
    exact tBX8_reckon_106 C hK   _ _ _ _ _ _ _ _ _ hG hS (lv_sub hl [0, 1, 2, 3, 4] rfl) hf
  · rw [if_neg c12] at hf
    refine lv_iload hx hb dX8_reckon_87 (lv_at hl 4 rfl) ?_
    refine lv_iconst (v := 5) hx hb dX8_reckon_89 (by decide +kernel) ?_
    refine lv_icmp_gt (tgt := 106) hx hb dX8_reckon_90 (by decide) (fun c49 => ?_) (fun c49 => ?_)
    · rw [if_pos c49] at hf
      exact tBX8_reckon_106 C hK   _ _ _ _ _ _ _ _ _ hG hS (lv_sub hl [0, 1, 2, 3, 4] rfl) hf
    · rw [if_neg c49] at hf
      refine lv_aload_n hx hb dX8_reckon_93 rfl (lv_at hl 0 rfl) ?_
      refine lv_iconst (v := 2) hx hb dX8_reckon_94 (by decide +kernel) ?_
      refine lv_iload_n hx hb dX8_reckon_95 rfl (lv_at hl 3 rfl) ?_
      refine lv_imul hx hb dX8_reckon_96 ?_
      obtain ⟨o50, ho50, hf⟩ := g_bind hf
      obtain ⟨r51, hr51, hf⟩ := g_bind hf
      refine g_callV hx hb hml hl.1 hts hown hK hG hS (As := [.int (2 * x3)]) (rest := []) (tX8_isZero l D hr51) vX8_isZero mlX8_73 ho50 rfl rfl rfl rfl ⟨Nat.le_of_ble_eq_true rfl, Nat.le_of_ble_eq_true rfl⟩ rfl rfl (Nat.le_of_ble_eq_true rfl) ⟨Nat.le_of_ble_eq_true rfl, Nat.le_of_ble_eq_true rfl⟩ dX8_reckon_97 (fun H locs hG hS => ?_)
      refine lv_if_eq (tgt := 106) hx hb dX8_reckon_100 (by decide) (fun c52 => ?_) (fun c52 => ?_)
      · rw [if_pos c52] at hf
        exact tBX8_reckon_106 C hK   _ _ _ _ _ _ _ _ _ hG hS (lv_sub hl [0, 1, 2, 3, 4] rfl) hf
      · rw [if_neg c52] at hf
        refine lv_bipush (v := (-2)) hx hb dX8_reckon_103 (by decide +kernel) ?_
        cases hf
        exact g_iret hx hb hr hlocks hG hS dX8_reckon_105

set_option maxHeartbeats 4000000 in
set_option maxRecDepth 100000 in
theorem tBX8_reckon_23 {p : Program} {l : Launch} {e : Env} {s : State} {m : MethodId} {args : Array Value} {below : List Frame} {meth : Method} {c : Code} {D : g_D} {out : Int32 × g_S} (C : g_C RX8 cX8_reckon 7 (some .int) True p s m args meth c) (hK : g_K D s)  : ∀ (σ : g_S) (x0 : Nat) (x1 : Int32) (x2 : Int32) (x3 : Int32) (x4 : Int32) (y0 : Int32) (H : Heap) (locs : List Loc) (ls : Array Slot), g_H D σ H → va_S (g_A D) s.heap H locs → lv_has ls 7 [(0, .ref x0), (1, .int x1), (2, .int x2), (3, .int x3), (4, .int x4)] → BX8_reckon_23  σ x0 x1 x2 x3 x4 y0 = some out → W p l e rmX8_reckon s m args below meth c H locs 0 0 (MQ below (g_Q D out.2 (some (.int out.1))) args s 0 0 (g_A D)) (F0 m 23 ls [.int y0]) := by
  obtain ⟨hx, hb, hml, hown, hts, hr, hlocks, hin⟩ := id C
  intro σ x0 x1 x2 x3 x4 y0 H locs ls hG hS hl hf
  unfold BX8_reckon_23 at hf
  refine lv_istore (lv' := [(5, .int y0), (0, .ref x0), (1, .int x1), (2, .int x2), (3, .int x3), (4, .int x4)]) hx hb dX8_reckon_23 hl (by decide) rfl (fun ls hl => ?_)
  refine lv_iload_n hx hb dX8_reckon_25 rfl (lv_at hl 2 rfl) ?_
  obtain ⟨r3, hr3, hf⟩ := g_bind hf
  refine g_callS hx hb hml hl.1 hts hown hK hG hS (As := [.int x1]) (rest := []) (tX8_isPlace l D hr3) vX8_isPlace mlX8_98 rfl rfl ⟨Nat.le_of_ble_eq_true rfl, Nat.le_of_ble_eq_true rfl⟩ rfl rfl (Nat.le_of_ble_eq_true rfl) ⟨Nat.le_of_ble_eq_true rfl, Nat.le_of_ble_eq_true rfl⟩ dX8_reckon_26 (fun H locs hG hS => ?_)
  refine lv_if_eq (tgt := 79) hx hb dX8_reckon_29 (by decide) (fun c4 => ?_) (fun c4 => ?_)
  · rw [if_pos c4] at hf
    exact tBX8_reckon_79 C hK   _  _ _ _ hG hS (lv_sub hl [] rfl) hf
  · rw [if_neg c4] at hf
    refine lv_iload_n hx hb dX8_reckon_32 rfl (lv_at hl 3 rfl) ?_
    obtain ⟨r5, hr5, hf⟩ := g_bind hf
    refine g_callS hx hb hml hl.1 hts hown hK hG hS (As := [.int x2]) (rest := []) (tX8_isPlace l D hr5) vX8_isPlace mlX8_98 rfl rfl ⟨Nat.le_of_ble_eq_true rfl, Nat.le_of_ble_eq_true rfl⟩ rfl rfl (Nat.le_of_ble_eq_true rfl) ⟨Nat.le_of_ble_eq_true rfl, Nat.le_of_ble_eq_true rfl⟩ dX8_reckon_33 (fun H locs hG hS => ?_)
    refine lv_if_eq (tgt := 79) hx hb dX8_reckon_36 (by decide) (fun c6 => ?_) (fun c6 => ?_)
    · rw [if_pos c6] at hf
      exact tBX8_reckon_79 C hK   _  _ _ _ hG hS (lv_sub hl [] rfl) hf
    · rw [if_neg c6] at hf
      refine lv_iload_n hx hb dX8_reckon_39 rfl (lv_at hl 4 rfl) ?_
      obtain ⟨r7, hr7, hf⟩ := g_bind hf
      refine g_callS hx hb hml hl.1 hts hown hK hG hS (As := [.int x3]) (rest := []) (tX8_isPlace l D hr7) vX8_isPlace mlX8_98 rfl rfl ⟨Nat.le_of_ble_eq_true rfl, Nat.le_of_ble_eq_true rfl⟩ rfl rfl (Nat.le_of_ble_eq_true rfl) ⟨Nat.le_of_ble_eq_true rfl, Nat.le_of_ble_eq_true rfl⟩ dX8_reckon_40 (fun H locs hG hS => ?_)
      refine lv_if_eq (tgt := 79) hx hb dX8_reckon_43 (by decide) (fun c8 => ?_) (fun c8 => ?_)
      · rw [if_pos c8] at hf
        exact tBX8_reckon_79 C hK   _  _ _ _ hG hS (lv_sub hl [] rfl) hf
      · rw [if_neg c8] at hf
        refine lv_iload hx hb dX8_reckon_46 (lv_at hl 5 rfl) ?_
        refine lv_if_lt (tgt := 79) hx hb dX8_reckon_48 (by decide) (fun c9 => ?_) (fun c9 => ?_)
        · rw [if_pos c9] at hf
          exact tBX8_reckon_79 C hK   _  _ _ _ hG hS (lv_sub hl [] rfl) hf
        · rw [if_neg c9] at hf
          refine lv_iload hx hb dX8_reckon_51 (lv_at hl 5 rfl) ?_
          refine lv_bipush (v := 9) hx hb dX8_reckon_53 (by decide +kernel) ?_
          refine lv_icmp_gt (tgt := 79) hx hb dX8_reckon_55 (by decide) (fun c10 => ?_) (fun c10 => ?_)
          · rw [if_pos c10] at hf
            exact tBX8_reckon_79 C hK   _  _ _ _ hG hS (lv_sub hl [] rfl) hf
          · rw [if_neg c10] at hf
            refine lv_iload hx hb dX8_reckon_58 (lv_at hl 0 rfl) ?_
            refine lv_if_eq (tgt := 81) hx hb dX8_reckon_60 (by decide) (fun c11 => ?_) (fun c11 => ?_)
            · rw [if_pos c11] at hf
              exact tBX8_reckon_81 C hK   _ _ _ _ _ _ _ _ _ hG hS (lv_sub hl [1, 2, 3, 4, 5] rfl) hf
            · rw [if_neg c11] at hf
              refine lv_aload_n hx hb dX8_reckon_63 rfl (lv_at hl 1 rfl) ?_
              refine lv_iload_n hx hb dX8_reckon_64 rfl (lv_at hl 3 rfl) ?_
              obtain ⟨o53, ho53, hf⟩ := g_bind hf
              obtain ⟨r54, hr54, hf⟩ := g_bind hf
              refine g_callV hx hb hml hl.1 hts hown hK hG hS (As := [.int x2]) (rest := []) (tX8_isWhole l D hr54) vX8_isWhole mlX8_127 ho53 rfl rfl rfl rfl ⟨Nat.le_of_ble_eq_true rfl, Nat.le_of_ble_eq_true rfl⟩ rfl rfl (Nat.le_of_ble_eq_true rfl) ⟨Nat.le_of_ble_eq_true rfl, Nat.le_of_ble_eq_true rfl⟩ dX8_reckon_65 (fun H locs hG hS => ?_)
              refine lv_if_eq (tgt := 79) hx hb dX8_reckon_68 (by decide) (fun c55 => ?_) (fun c55 => ?_)
              · rw [if_pos c55] at hf
                exact tBX8_reckon_79 C hK   _  _ _ _ hG hS (lv_sub hl [] rfl) hf
              · rw [if_neg c55] at hf
                refine lv_aload_n hx hb dX8_reckon_71 rfl (lv_at hl 1 rfl) ?_
                refine lv_iload_n hx hb dX8_reckon_72 rfl (lv_at hl 4 rfl) ?_
                obtain ⟨o56, ho56, hf⟩ := g_bind hf
                obtain ⟨r57, hr57, hf⟩ := g_bind hf
                refine g_callV hx hb hml hl.1 hts hown hK hG hS (As := [.int x3]) (rest := []) (tX8_isWhole l D hr57) vX8_isWhole mlX8_127 ho56 rfl rfl rfl rfl ⟨Nat.le_of_ble_eq_true rfl, Nat.le_of_ble_eq_true rfl⟩ rfl rfl (Nat.le_of_ble_eq_true rfl) ⟨Nat.le_of_ble_eq_true rfl, Nat.le_of_ble_eq_true rfl⟩ dX8_reckon_73 (fun H locs hG hS => ?_)
                refine lv_if_ne (tgt := 81) hx hb dX8_reckon_76 (by decide) (fun c58 => ?_) (fun c58 => ?_)
                · rw [if_neg c58] at hf
                  exact tBX8_reckon_81 C hK   _ _ _ _ _ _ _ _ _ hG hS (lv_sub hl [1, 2, 3, 4, 5] rfl) hf
                · rw [if_pos c58] at hf
                  exact tBX8_reckon_79 C hK   _  _ _ _ hG hS (lv_sub hl [] rfl) hf

set_option maxHeartbeats 4000000 in
set_option maxRecDepth 100000 in
theorem tBX8_reckon_22 {p : Program} {l : Launch} {e : Env} {s : State} {m : MethodId} {args : Array Value} {below : List Frame} {meth : Method} {c : Code} {D : g_D} {out : Int32 × g_S} (C : g_C RX8 cX8_reckon 7 (some .int) True p s m args meth c) (hK : g_K D s)  : ∀ (σ : g_S) (x0 : Nat) (x1 : Int32) (x2 : Int32) (x3 : Int32) (x4 : Int32) (H : Heap) (locs : List Loc) (ls : Array Slot), g_H D σ H → va_S (g_A D) s.heap H locs → lv_has ls 7 [(0, .ref x0), (1, .int x1), (2, .int x2), (3, .int x3), (4, .int x4)] → BX8_reckon_22  σ x0 x1 x2 x3 x4 = some out → W p l e rmX8_reckon s m args below meth c H locs 0 0 (MQ below (g_Q D out.2 (some (.int out.1))) args s 0 0 (g_A D)) (F0 m 22 ls []) := by
  obtain ⟨hx, hb, hml, hown, hts, hr, hlocks, hin⟩ := id C
  intro σ x0 x1 x2 x3 x4 H locs ls hG hS hl hf
  unfold BX8_reckon_22 at hf
  refine lv_iconst (v := 0) hx hb dX8_reckon_22 (by decide +kernel) ?_
  exact tBX8_reckon_23 C hK   _ _ _ _ _ _ _ _ _ _ hG hS (lv_sub hl [0, 1, 2, 3, 4] rfl) hf

set_option maxHeartbeats 4000000 in
set_option maxRecDepth 100000 in
theorem tX8_reckon (l : Launch) (D : g_D) {σ : g_S} {x0 : Nat} {x1 : Int32} {x2 : Int32} {x3 : Int32} {x4 : Int32} {out : Int32 × g_S} (hf : fX8_reckon σ x0 x1 x2 x3 x4 = some out) : Met l yX8_reckon (Cond.code yX8_reckon cX8_reckon 7 (some .int) :: lw_g) rmX8_reckon (g_P D σ [.ref x0, .int x1, .int x2, .int x3, .int x4]) (g_Q D out.2 (some (.int out.1))) 0 0 (g_A D) := by
  refine Met.ofW (cc := cX8_reckon) (maxL := 7) (ret := (some .int)) (by decide +kernel) rfl ?_
  intro p e s m args below meth c s₁ B hml hv
  obtain ⟨rfl, hG, hK⟩ := hv
  have hts : ∀ w ∈ lw_g, w.before _ s = true := fun w h => atoms_spec (ws := (Cond.code yX8_reckon cX8_reckon 7 (some .int) :: lw_g)) B.pre w (List.mem_cons_of_mem _ h)
  have C : g_C RX8 cX8_reckon 7 (some .int) True p s m _ meth c := ⟨B.exec, B.bytes, hml, findClass_of_methodNamed B.named, hts, B.returns, B.notSynchronized, trivial⟩
  obtain ⟨hx, hb, hml, hown, hts, hr, hlocks, hin⟩ := id C
  have hS : va_S (g_A D) s.heap s.heap [] := va_S.rf
  have hl := lv_entry ([.ref x0, .int x1, .int x2, .int x3, .int x4]) (n := 7) (Nat.le_of_ble_eq_true rfl)
  rw [lg_entry_eq]
  generalize (lg_sl ([.ref x0, .int x1, .int x2, .int x3, .int x4]) ++ List.replicate (7 - (lg_sl ([.ref x0, .int x1, .int x2, .int x3, .int x4])).length) Slot.unset).toArray = ls at hl ⊢
  have hl : lv_has ls 7 [(0, .ref x0), (1, .int x1), (2, .int x2), (3, .int x3), (4, .int x4)] := hl
  unfold fX8_reckon at hf
  refine lv_aload_n hx hb dX8_reckon_0 rfl (lv_at hl 0 rfl) ?_
  refine lv_iconst (v := 0) hx hb dX8_reckon_1 (by decide +kernel) ?_
  obtain ⟨σ1, hσ1, hf⟩ := g_bind hf
  refine g_put hx hb hts hown hK hG hS hσ1 rfl iX8 tyX8 tyX8_ok nmX8 (by decide) flX8_30 rfl rfl rfl dX8_reckon_2 (fun H locs hG hS => ?_)
  refine lv_iload hx hb dX8_reckon_5 (lv_at hl 4 rfl) ?_
  refine lv_iconst (v := 4) hx hb dX8_reckon_7 (by decide +kernel) ?_
  refine lv_icmp_lt (tgt := 22) hx hb dX8_reckon_8 (by decide) (fun c2 => ?_) (fun c2 => ?_)
  · rw [if_pos c2] at hf
    exact tBX8_reckon_22 C hK   _ _ _ _ _ _ _ _ _ hG hS (lv_sub hl [0, 1, 2, 3, 4] rfl) hf
  · rw [if_neg c2] at hf
    refine lv_iload hx hb dX8_reckon_11 (lv_at hl 4 rfl) ?_
    refine lv_bipush (v := 6) hx hb dX8_reckon_13 (by decide +kernel) ?_
    refine lv_icmp_gt (tgt := 22) hx hb dX8_reckon_15 (by decide) (fun c59 => ?_) (fun c59 => ?_)
    · rw [if_pos c59] at hf
      exact tBX8_reckon_22 C hK   _ _ _ _ _ _ _ _ _ hG hS (lv_sub hl [0, 1, 2, 3, 4] rfl) hf
    · rw [if_neg c59] at hf
      refine lv_iconst (v := 1) hx hb dX8_reckon_18 (by decide +kernel) ?_
      refine lv_goto (tgt := 23) hx hb dX8_reckon_19 (by decide) ?_
      exact tBX8_reckon_23 C hK   _ _ _ _ _ _ _ _ _ _ hG hS (lv_sub hl [0, 1, 2, 3, 4] rfl) hf

def rmX8_whole : Room := { frames := 3, cells := 0, slots := 0, locals := 82 }
noncomputable def BX8_whole_160  (σ : g_S) (x0 : Nat) : Option (g_S) := (g_o σ 8 x0).bind fun o12 => (fX8_small σ x0 33 1).bind fun r13 => some r13
noncomputable def BX8_whole_137  (σ : g_S) (x0 : Nat) (x4 : Int32) : Option (g_S) := (g_o σ 8 x0).bind fun o9 => (fX8_copy σ x0 35 32).bind fun r10 => if x4 = 0 then (BX8_whole_160 r10 x0) else ((g_o r10 8 x0).bind fun o14 => (fX8_add r10 x0 35 42 32).bind fun r15 => BX8_whole_160 r15 x0)
noncomputable def BX8_whole_135  (σ : g_S) (x0 : Nat) (y0 : Int32) : Option (g_S) := BX8_whole_137 σ x0 y0
noncomputable def BX8_whole_130  (σ : g_S) (x0 : Nat) : Option (g_S) := BX8_whole_135 σ x0 1
noncomputable def BX8_whole_134  (σ : g_S) (x0 : Nat) : Option (g_S) := BX8_whole_135 σ x0 0
noncomputable def BX8_whole_76  (σ : g_S) (x0 : Nat) (x1 : Int32) (x2 : Int32) (y0 : Int32) : Option (g_S) := if x2 = 6 then ((g_o σ 8 x0).bind fun o16 => (fX8_add σ x0 36 36 43).bind fun r17 => (g_o r17 8 x0).bind fun o18 => (fX8_order r17 x0 43 ((2 * x1) + 1)).bind fun r19 => if 0 < r19.1 then (BX8_whole_130 r19.2 x0) else (if r19.1 = 0 then ((g_o r19.2 8 x0).bind fun o22 => (fX8_at r19.2 x0 35 0).bind fun r23 => if g_irem r23.1 2 = 1 then (BX8_whole_130 r23.2 x0) else (BX8_whole_134 r23.2 x0)) else (BX8_whole_134 r19.2 x0))) else (BX8_whole_137 σ x0 y0)
noncomputable def BX8_whole_75  (σ : g_S) (x0 : Nat) (x1 : Int32) (x2 : Int32) : Option (g_S) := BX8_whole_76 σ x0 x1 x2 0
noncomputable def BX8_whole_49  (σ : g_S) (x0 : Nat) (x1 : Int32) (x2 : Int32) : Option (g_S) := BX8_whole_76 σ x0 x1 x2 0
noncomputable def BX8_whole_26  (σ : g_S) (x0 : Nat) (x1 : Int32) (x2 : Int32) (y0 : Int32) : Option (g_S) := if x2 = 3 then (if y0 = 0 then (BX8_whole_49 σ x0 x1 x2) else ((g_fr σ 8 x0 3).bind fun v30 => (g_li σ 5 v30 x1).bind fun v31 => if v31 = 0 then (BX8_whole_49 σ x0 x1 x2) else (BX8_whole_76 σ x0 x1 x2 1))) else (if x2 = 4 then (if y0 = 0 then (BX8_whole_75 σ x0 x1 x2) else ((g_fr σ 8 x0 3).bind fun v26 => (g_li σ 5 v26 x1).bind fun v27 => if v27 = 0 then (BX8_whole_76 σ x0 x1 x2 1) else (BX8_whole_75 σ x0 x1 x2))) else (BX8_whole_75 σ x0 x1 x2))
noncomputable def fX8_whole (σ : g_S) (x0 : Nat) (x1 : Int32) (x2 : Int32) : Option (g_S) := (g_o σ 8 x0).bind fun o1 => (fX8_divides σ x0 (2 * x1) ((2 * x1) + 1)).bind fun r2 => (g_o r2 8 x0).bind fun o3 => (fX8_isZero r2 x0 36).bind fun r4 => if r4.1 = 0 then (BX8_whole_26 r4.2 x0 x1 x2 1) else (BX8_whole_26 r4.2 x0 x1 x2 0)
set_option maxHeartbeats 4000000 in
set_option maxRecDepth 100000 in
theorem tBX8_whole_160 {p : Program} {l : Launch} {e : Env} {s : State} {m : MethodId} {args : Array Value} {below : List Frame} {meth : Method} {c : Code} {D : g_D} {out : g_S} (C : g_C RX8 cX8_whole 6 none True p s m args meth c) (hK : g_K D s)  : ∀ (σ : g_S) (x0 : Nat) (H : Heap) (locs : List Loc) (ls : Array Slot), g_H D σ H → va_S (g_A D) s.heap H locs → lv_has ls 6 [(0, .ref x0)] → BX8_whole_160  σ x0 = some out → W p l e rmX8_whole s m args below meth c H locs 0 0 (MQ below (g_Q D out (none)) args s 0 0 (g_A D)) (F0 m 160 ls []) := by
  obtain ⟨hx, hb, hml, hown, hts, hr, hlocks, hin⟩ := id C
  intro σ x0 H locs ls hG hS hl hf
  unfold BX8_whole_160 at hf
  refine lv_aload_n hx hb dX8_whole_160 rfl (lv_at hl 0 rfl) ?_
  refine lv_bipush (v := 33) hx hb dX8_whole_161 (by decide +kernel) ?_
  refine lv_iconst (v := 1) hx hb dX8_whole_163 (by decide +kernel) ?_
  obtain ⟨o12, ho12, hf⟩ := g_bind hf
  obtain ⟨r13, hr13, hf⟩ := g_bind hf
  refine g_callV hx hb hml hl.1 hts hown hK hG hS (As := [.int 33, .int 1]) (rest := []) (tX8_small l D hr13) vX8_small mlX8_26 ho12 rfl rfl rfl rfl ⟨Nat.le_of_ble_eq_true rfl, Nat.le_of_ble_eq_true rfl⟩ rfl rfl (Nat.le_of_ble_eq_true rfl) ⟨Nat.le_of_ble_eq_true rfl, Nat.le_of_ble_eq_true rfl⟩ dX8_whole_164 (fun H locs hG hS => ?_)
  cases hf
  exact g_vret hx hb hr hlocks hG hS dX8_whole_167

set_option maxHeartbeats 4000000 in
set_option maxRecDepth 100000 in
theorem tBX8_whole_137 {p : Program} {l : Launch} {e : Env} {s : State} {m : MethodId} {args : Array Value} {below : List Frame} {meth : Method} {c : Code} {D : g_D} {out : g_S} (C : g_C RX8 cX8_whole 6 none True p s m args meth c) (hK : g_K D s)  : ∀ (σ : g_S) (x0 : Nat) (x4 : Int32) (H : Heap) (locs : List Loc) (ls : Array Slot), g_H D σ H → va_S (g_A D) s.heap H locs → lv_has ls 6 [(0, .ref x0), (4, .int x4)] → BX8_whole_137  σ x0 x4 = some out → W p l e rmX8_whole s m args below meth c H locs 0 0 (MQ below (g_Q D out (none)) args s 0 0 (g_A D)) (F0 m 137 ls []) := by
  obtain ⟨hx, hb, hml, hown, hts, hr, hlocks, hin⟩ := id C
  intro σ x0 x4 H locs ls hG hS hl hf
  unfold BX8_whole_137 at hf
  refine lv_aload_n hx hb dX8_whole_137 rfl (lv_at hl 0 rfl) ?_
  refine lv_bipush (v := 35) hx hb dX8_whole_138 (by decide +kernel) ?_
  refine lv_bipush (v := 32) hx hb dX8_whole_140 (by decide +kernel) ?_
  obtain ⟨o9, ho9, hf⟩ := g_bind hf
  obtain ⟨r10, hr10, hf⟩ := g_bind hf
  refine g_callV hx hb hml hl.1 hts hown hK hG hS (As := [.int 35, .int 32]) (rest := []) (tX8_copy l D hr10) vX8_copy mlX8_51 ho9 rfl rfl rfl rfl ⟨Nat.le_of_ble_eq_true rfl, Nat.le_of_ble_eq_true rfl⟩ rfl rfl (Nat.le_of_ble_eq_true rfl) ⟨Nat.le_of_ble_eq_true rfl, Nat.le_of_ble_eq_true rfl⟩ dX8_whole_142 (fun H locs hG hS => ?_)
  refine lv_iload hx hb dX8_whole_145 (lv_at hl 1 rfl) ?_
  refine lv_if_eq (tgt := 160) hx hb dX8_whole_147 (by decide) (fun c11 => ?_) (fun c11 => ?_)
  · rw [if_pos c11] at hf
    exact tBX8_whole_160 C hK   _ _ _ _ _ hG hS (lv_sub hl [0] rfl) hf
  · rw [if_neg c11] at hf
    refine lv_aload_n hx hb dX8_whole_150 rfl (lv_at hl 0 rfl) ?_
    refine lv_bipush (v := 35) hx hb dX8_whole_151 (by decide +kernel) ?_
    refine lv_bipush (v := 42) hx hb dX8_whole_153 (by decide +kernel) ?_
    refine lv_bipush (v := 32) hx hb dX8_whole_155 (by decide +kernel) ?_
    obtain ⟨o14, ho14, hf⟩ := g_bind hf
    obtain ⟨r15, hr15, hf⟩ := g_bind hf
    refine g_callV hx hb hml hl.1 hts hown hK hG hS (As := [.int 35, .int 42, .int 32]) (rest := []) (tX8_add l D hr15) vX8_add mlX8_115 ho14 rfl rfl rfl rfl ⟨Nat.le_of_ble_eq_true rfl, Nat.le_of_ble_eq_true rfl⟩ rfl rfl (Nat.le_of_ble_eq_true rfl) ⟨Nat.le_of_ble_eq_true rfl, Nat.le_of_ble_eq_true rfl⟩ dX8_whole_157 (fun H locs hG hS => ?_)
    exact tBX8_whole_160 C hK   _ _ _ _ _ hG hS (lv_sub hl [0] rfl) hf

set_option maxHeartbeats 4000000 in
set_option maxRecDepth 100000 in
theorem tBX8_whole_135 {p : Program} {l : Launch} {e : Env} {s : State} {m : MethodId} {args : Array Value} {below : List Frame} {meth : Method} {c : Code} {D : g_D} {out : g_S} (C : g_C RX8 cX8_whole 6 none True p s m args meth c) (hK : g_K D s)  : ∀ (σ : g_S) (x0 : Nat) (y0 : Int32) (H : Heap) (locs : List Loc) (ls : Array Slot), g_H D σ H → va_S (g_A D) s.heap H locs → lv_has ls 6 [(0, .ref x0)] → BX8_whole_135  σ x0 y0 = some out → W p l e rmX8_whole s m args below meth c H locs 0 0 (MQ below (g_Q D out (none)) args s 0 0 (g_A D)) (F0 m 135 ls [.int y0]) := by
  obtain ⟨hx, hb, hml, hown, hts, hr, hlocks, hin⟩ := id C
  intro σ x0 y0 H locs ls hG hS hl hf
  unfold BX8_whole_135 at hf
  refine lv_istore (lv' := [(4, .int y0), (0, .ref x0)]) hx hb dX8_whole_135 hl (by decide) rfl (fun ls hl => ?_)
  exact tBX8_whole_137 C hK   _ _ _ _ _ _ hG hS (lv_sub hl [1, 0] rfl) hf

set_option maxHeartbeats 4000000 in
set_option maxRecDepth 100000 in
theorem tBX8_whole_130 {p : Program} {l : Launch} {e : Env} {s : State} {m : MethodId} {args : Array Value} {below : List Frame} {meth : Method} {c : Code} {D : g_D} {out : g_S} (C : g_C RX8 cX8_whole 6 none True p s m args meth c) (hK : g_K D s)  : ∀ (σ : g_S) (x0 : Nat) (H : Heap) (locs : List Loc) (ls : Array Slot), g_H D σ H → va_S (g_A D) s.heap H locs → lv_has ls 6 [(0, .ref x0)] → BX8_whole_130  σ x0 = some out → W p l e rmX8_whole s m args below meth c H locs 0 0 (MQ below (g_Q D out (none)) args s 0 0 (g_A D)) (F0 m 130 ls []) := by
  obtain ⟨hx, hb, hml, hown, hts, hr, hlocks, hin⟩ := id C
  intro σ x0 H locs ls hG hS hl hf
  unfold BX8_whole_130 at hf
  refine lv_iconst (v := 1) hx hb dX8_whole_130 (by decide +kernel) ?_
  refine lv_goto (tgt := 135) hx hb dX8_whole_131 (by decide) ?_
  exact tBX8_whole_135 C hK   _ _ _ _ _ _ hG hS (lv_sub hl [0] rfl) hf

set_option maxHeartbeats 4000000 in
set_option maxRecDepth 100000 in
theorem tBX8_whole_134 {p : Program} {l : Launch} {e : Env} {s : State} {m : MethodId} {args : Array Value} {below : List Frame} {meth : Method} {c : Code} {D : g_D} {out : g_S} (C : g_C RX8 cX8_whole 6 none True p s m args meth c) (hK : g_K D s)  : ∀ (σ : g_S) (x0 : Nat) (H : Heap) (locs : List Loc) (ls : Array Slot), g_H D σ H → va_S (g_A D) s.heap H locs → lv_has ls 6 [(0, .ref x0)] → BX8_whole_134  σ x0 = some out → W p l e rmX8_whole s m args below meth c H locs 0 0 (MQ below (g_Q D out (none)) args s 0 0 (g_A D)) (F0 m 134 ls []) := by
  obtain ⟨hx, hb, hml, hown, hts, hr, hlocks, hin⟩ := id C
  intro σ x0 H locs ls hG hS hl hf
  unfold BX8_whole_134 at hf
  refine lv_iconst (v := 0) hx hb dX8_whole_134 (by decide +kernel) ?_
  exact tBX8_whole_135 C hK   _ _ _ _ _ _ hG hS (lv_sub hl [0] rfl) hf

set_option maxHeartbeats 4000000 in
set_option maxRecDepth 100000 in
theorem tBX8_whole_76 {p : Program} {l : Launch} {e : Env} {s : State} {m : MethodId} {args : Array Value} {below : List Frame} {meth : Method} {c : Code} {D : g_D} {out : g_S} (C : g_C RX8 cX8_whole 6 none True p s m args meth c) (hK : g_K D s)  : ∀ (σ : g_S) (x0 : Nat) (x1 : Int32) (x2 : Int32) (y0 : Int32) (H : Heap) (locs : List Loc) (ls : Array Slot), g_H D σ H → va_S (g_A D) s.heap H locs → lv_has ls 6 [(0, .ref x0), (1, .int x1), (2, .int x2)] → BX8_whole_76  σ x0 x1 x2 y0 = some out → W p l e rmX8_whole s m args below meth c H locs 0 0 (MQ below (g_Q D out (none)) args s 0 0 (g_A D)) (F0 m 76 ls [.int y0]) := by
  obtain ⟨hx, hb, hml, hown, hts, hr, hlocks, hin⟩ := id C
  intro σ x0 x1 x2 y0 H locs ls hG hS hl hf
  unfold BX8_whole_76 at hf
  refine lv_istore (lv' := [(4, .int y0), (0, .ref x0), (1, .int x1), (2, .int x2)]) hx hb dX8_whole_76 hl (by decide) rfl (fun ls hl => ?_)
  refine lv_iload_n hx hb dX8_whole_78 rfl (lv_at hl 3 rfl) ?_
  refine lv_bipush (v := 6) hx hb dX8_whole_79 (by decide +kernel) ?_
  refine lv_icmp_ne (tgt := 137) hx hb dX8_whole_81 (by decide) (fun c8 => ?_) (fun c8 => ?_)
  · rw [if_neg c8] at hf
    exact tBX8_whole_137 C hK   _ _ _ _ _ _ hG hS (lv_sub hl [1, 0] rfl) hf
  · rw [if_pos c8] at hf
    refine lv_aload_n hx hb dX8_whole_84 rfl (lv_at hl 1 rfl) ?_
    refine lv_bipush (v := 36) hx hb dX8_whole_85 (by decide +kernel) ?_
    refine lv_bipush (v := 36) hx hb dX8_whole_87 (by decide +kernel) ?_
    refine lv_bipush (v := 43) hx hb dX8_whole_89 (by decide +kernel) ?_
    obtain ⟨o16, ho16, hf⟩ := g_bind hf
    obtain ⟨r17, hr17, hf⟩ := g_bind hf
    refine g_callV hx hb hml hl.1 hts hown hK hG hS (As := [.int 36, .int 36, .int 43]) (rest := []) (tX8_add l D hr17) vX8_add mlX8_115 ho16 rfl rfl rfl rfl ⟨Nat.le_of_ble_eq_true rfl, Nat.le_of_ble_eq_true rfl⟩ rfl rfl (Nat.le_of_ble_eq_true rfl) ⟨Nat.le_of_ble_eq_true rfl, Nat.le_of_ble_eq_true rfl⟩ dX8_whole_91 (fun H locs hG hS => ?_)
    refine lv_aload_n hx hb dX8_whole_94 rfl (lv_at hl 1 rfl) ?_
    refine lv_bipush (v := 43) hx hb dX8_whole_95 (by decide +kernel) ?_
    refine lv_iconst (v := 2) hx hb dX8_whole_97 (by decide +kernel) ?_
    refine lv_iload_n hx hb dX8_whole_98 rfl (lv_at hl 2 rfl) ?_
    refine lv_imul hx hb dX8_whole_99 ?_
    refine lv_iconst (v := 1) hx hb dX8_whole_100 (by decide +kernel) ?_
    refine lv_iadd hx hb dX8_whole_101 ?_
    obtain ⟨o18, ho18, hf⟩ := g_bind hf
    obtain ⟨r19, hr19, hf⟩ := g_bind hf
    refine g_callV hx hb hml hl.1 hts hown hK hG hS (As := [.int 43, .int ((2 * x1) + 1)]) (rest := []) (tX8_order l D hr19) vX8_order mlX8_48 ho18 rfl rfl rfl rfl ⟨Nat.le_of_ble_eq_true rfl, Nat.le_of_ble_eq_true rfl⟩ rfl rfl (Nat.le_of_ble_eq_true rfl) ⟨Nat.le_of_ble_eq_true rfl, Nat.le_of_ble_eq_true rfl⟩ dX8_whole_102 (fun H locs hG hS => ?_)
    refine lv_istore (lv' := [(5, .int r19.1), (4, .int y0), (0, .ref x0), (1, .int x1), (2, .int x2)]) hx hb dX8_whole_105 hl (by decide) rfl (fun ls hl => ?_)
    refine lv_iload hx hb dX8_whole_107 (lv_at hl 0 rfl) ?_
    refine lv_if_gt (tgt := 130) hx hb dX8_whole_109 (by decide) (fun c20 => ?_) (fun c20 => ?_)
    · rw [if_pos c20] at hf
      exact tBX8_whole_130 C hK   _ _ _ _ _ hG hS (lv_sub hl [2] rfl) hf
    · rw [if_neg c20] at hf
      refine lv_iload hx hb dX8_whole_112 (lv_at hl 0 rfl) ?_
      refine lv_if_ne (tgt := 134) hx hb dX8_whole_114 (by decide) (fun c21 => ?_) (fun c21 => ?_)
      · rw [if_neg c21] at hf
        exact tBX8_whole_134 C hK   _ _ _ _ _ hG hS (lv_sub hl [2] rfl) hf
      · rw [if_pos c21] at hf
        refine lv_aload_n hx hb dX8_whole_117 rfl (lv_at hl 2 rfl) ?_
        refine lv_bipush (v := 35) hx hb dX8_whole_118 (by decide +kernel) ?_
        refine lv_iconst (v := 0) hx hb dX8_whole_120 (by decide +kernel) ?_
        obtain ⟨o22, ho22, hf⟩ := g_bind hf
        obtain ⟨r23, hr23, hf⟩ := g_bind hf
        refine g_callV hx hb hml hl.1 hts hown hK hG hS (As := [.int 35, .int 0]) (rest := []) (tX8_at l D hr23) vX8_at mlX8_41 ho22 rfl rfl rfl rfl ⟨Nat.le_of_ble_eq_true rfl, Nat.le_of_ble_eq_true rfl⟩ rfl rfl (Nat.le_of_ble_eq_true rfl) ⟨Nat.le_of_ble_eq_true rfl, Nat.le_of_ble_eq_true rfl⟩ dX8_whole_121 (fun H locs hG hS => ?_)
        refine lv_iconst (v := 2) hx hb dX8_whole_124 (by decide +kernel) ?_
        refine lv_irem hx hb dX8_whole_125 (by decide) ?_
        refine g_topi (y := g_irem r23.1 2) rfl ?_
        refine lv_iconst (v := 1) hx hb dX8_whole_126 (by decide +kernel) ?_
        refine lv_icmp_ne (tgt := 134) hx hb dX8_whole_127 (by decide) (fun c24 => ?_) (fun c24 => ?_)
        · rw [if_neg c24] at hf
          exact tBX8_whole_134 C hK   _ _ _ _ _ hG hS (lv_sub hl [2] rfl) hf
        · rw [if_pos c24] at hf
          exact tBX8_whole_130 C hK   _ _ _ _ _ hG hS (lv_sub hl [2] rfl) hf

set_option maxHeartbeats 4000000 in
set_option maxRecDepth 100000 in
theorem tBX8_whole_75 {p : Program} {l : Launch} {e : Env} {s : State} {m : MethodId} {args : Array Value} {below : List Frame} {meth : Method} {c : Code} {D : g_D} {out : g_S} (C : g_C RX8 cX8_whole 6 none True p s m args meth c) (hK : g_K D s)  : ∀ (σ : g_S) (x0 : Nat) (x1 : Int32) (x2 : Int32) (H : Heap) (locs : List Loc) (ls : Array Slot), g_H D σ H → va_S (g_A D) s.heap H locs → lv_has ls 6 [(0, .ref x0), (1, .int x1), (2, .int x2)] → BX8_whole_75  σ x0 x1 x2 = some out → W p l e rmX8_whole s m args below meth c H locs 0 0 (MQ below (g_Q D out (none)) args s 0 0 (g_A D)) (F0 m 75 ls []) := by
  obtain ⟨hx, hb, hml, hown, hts, hr, hlocks, hin⟩ := id C
  intro σ x0 x1 x2 H locs ls hG hS hl hf
  unfold BX8_whole_75 at hf
  refine lv_iconst (v := 0) hx hb dX8_whole_75 (by decide +kernel) ?_
  exact tBX8_whole_76 C hK   _ _ _ _ _ _ _ _ hG hS (lv_sub hl [0, 1, 2] rfl) hf

set_option maxHeartbeats 4000000 in
set_option maxRecDepth 100000 in
theorem tBX8_whole_49 {p : Program} {l : Launch} {e : Env} {s : State} {m : MethodId} {args : Array Value} {below : List Frame} {meth : Method} {c : Code} {D : g_D} {out : g_S} (C : g_C RX8 cX8_whole 6 none True p s m args meth c) (hK : g_K D s)  : ∀ (σ : g_S) (x0 : Nat) (x1 : Int32) (x2 : Int32) (H : Heap) (locs : List Loc) (ls : Array Slot), g_H D σ H → va_S (g_A D) s.heap H locs → lv_has ls 6 [(0, .ref x0), (1, .int x1), (2, .int x2)] → BX8_whole_49  σ x0 x1 x2 = some out → W p l e rmX8_whole s m args below meth c H locs 0 0 (MQ below (g_Q D out (none)) args s 0 0 (g_A D)) (F0 m 49 ls []) := by
  obtain ⟨hx, hb, hml, hown, hts, hr, hlocks, hin⟩ := id C
  intro σ x0 x1 x2 H locs ls hG hS hl hf
  unfold BX8_whole_49 at hf
  refine lv_iconst (v := 0) hx hb dX8_whole_49 (by decide +kernel) ?_
  refine lv_goto (tgt := 76) hx hb dX8_whole_50 (by decide) ?_
  exact tBX8_whole_76 C hK   _ _ _ _ _ _ _ _ hG hS (lv_sub hl [0, 1, 2] rfl) hf

set_option maxHeartbeats 4000000 in
set_option maxRecDepth 100000 in
theorem tBX8_whole_26 {p : Program} {l : Launch} {e : Env} {s : State} {m : MethodId} {args : Array Value} {below : List Frame} {meth : Method} {c : Code} {D : g_D} {out : g_S} (C : g_C RX8 cX8_whole 6 none True p s m args meth c) (hK : g_K D s)  : ∀ (σ : g_S) (x0 : Nat) (x1 : Int32) (x2 : Int32) (y0 : Int32) (H : Heap) (locs : List Loc) (ls : Array Slot), g_H D σ H → va_S (g_A D) s.heap H locs → lv_has ls 6 [(0, .ref x0), (1, .int x1), (2, .int x2)] → BX8_whole_26  σ x0 x1 x2 y0 = some out → W p l e rmX8_whole s m args below meth c H locs 0 0 (MQ below (g_Q D out (none)) args s 0 0 (g_A D)) (F0 m 26 ls [.int y0]) := by
  obtain ⟨hx, hb, hml, hown, hts, hr, hlocks, hin⟩ := id C
  intro σ x0 x1 x2 y0 H locs ls hG hS hl hf
  unfold BX8_whole_26 at hf
  refine lv_istore_n (lv' := [(3, .int y0), (0, .ref x0), (1, .int x1), (2, .int x2)]) hx hb dX8_whole_26 rfl hl (by decide) rfl (fun ls hl => ?_)
  refine lv_iload_n hx hb dX8_whole_27 rfl (lv_at hl 3 rfl) ?_
  refine lv_iconst (v := 3) hx hb dX8_whole_28 (by decide +kernel) ?_
  refine lv_icmp_ne (tgt := 53) hx hb dX8_whole_29 (by decide) (fun c6 => ?_) (fun c6 => ?_)
  · rw [if_neg c6] at hf
    refine lv_iload_n hx hb dX8_whole_53 rfl (lv_at hl 3 rfl) ?_
    refine lv_iconst (v := 4) hx hb dX8_whole_54 (by decide +kernel) ?_
    refine lv_icmp_ne (tgt := 75) hx hb dX8_whole_55 (by decide) (fun c7 => ?_) (fun c7 => ?_)
    · rw [if_neg c7] at hf
      exact tBX8_whole_75 C hK   _ _ _ _ _ _ _ hG hS (lv_sub hl [1, 2, 3] rfl) hf
    · rw [if_pos c7] at hf
      refine lv_iload_n hx hb dX8_whole_58 rfl (lv_at hl 0 rfl) ?_
      refine lv_if_eq (tgt := 75) hx hb dX8_whole_59 (by decide) (fun c25 => ?_) (fun c25 => ?_)
      · rw [if_pos c25] at hf
        exact tBX8_whole_75 C hK   _ _ _ _ _ _ _ hG hS (lv_sub hl [1, 2, 3] rfl) hf
      · rw [if_neg c25] at hf
        refine lv_aload_n hx hb dX8_whole_62 rfl (lv_at hl 1 rfl) ?_
        obtain ⟨v26, hv26, hf⟩ := g_bind hf
        refine g_getr hx hb hts hown hK hG hv26 rfl iX8 (by decide) flX8_16 dX8_whole_63 ?_
        refine lv_iload_n hx hb dX8_whole_66 rfl (lv_at hl 2 rfl) ?_
        obtain ⟨v27, hv27, hf⟩ := g_bind hf
        refine g_zald hx hb hK hG hv27 rfl dX8_whole_67 ?_
        refine lv_if_ne (tgt := 75) hx hb dX8_whole_68 (by decide) (fun c28 => ?_) (fun c28 => ?_)
        · rw [if_neg c28] at hf
          exact tBX8_whole_75 C hK   _ _ _ _ _ _ _ hG hS (lv_sub hl [1, 2, 3] rfl) hf
        · rw [if_pos c28] at hf
          refine lv_iconst (v := 1) hx hb dX8_whole_71 (by decide +kernel) ?_
          refine lv_goto (tgt := 76) hx hb dX8_whole_72 (by decide) ?_
          exact tBX8_whole_76 C hK   _ _ _ _ _ _ _ _ hG hS (lv_sub hl [1, 2, 3] rfl) hf
  · rw [if_pos c6] at hf
    refine lv_iload_n hx hb dX8_whole_32 rfl (lv_at hl 0 rfl) ?_
    refine lv_if_eq (tgt := 49) hx hb dX8_whole_33 (by decide) (fun c29 => ?_) (fun c29 => ?_)
    · rw [if_pos c29] at hf
      exact tBX8_whole_49 C hK   _ _ _ _ _ _ _ hG hS (lv_sub hl [1, 2, 3] rfl) hf
    · rw [if_neg c29] at hf
      refine lv_aload_n hx hb dX8_whole_36 rfl (lv_at hl 1 rfl) ?_
      obtain ⟨v30, hv30, hf⟩ := g_bind hf
      refine g_getr hx hb hts hown hK hG hv30 rfl iX8 (by decide) flX8_16 dX8_whole_37 ?_
      refine lv_iload_n hx hb dX8_whole_40 rfl (lv_at hl 2 rfl) ?_
      obtain ⟨v31, hv31, hf⟩ := g_bind hf
      refine g_zald hx hb hK hG hv31 rfl dX8_whole_41 ?_
      refine lv_if_eq (tgt := 49) hx hb dX8_whole_42 (by decide) (fun c32 => ?_) (fun c32 => ?_)
      · rw [if_pos c32] at hf
        exact tBX8_whole_49 C hK   _ _ _ _ _ _ _ hG hS (lv_sub hl [1, 2, 3] rfl) hf
      · rw [if_neg c32] at hf
        refine lv_iconst (v := 1) hx hb dX8_whole_45 (by decide +kernel) ?_
        refine lv_goto (tgt := 76) hx hb dX8_whole_46 (by decide) ?_
        exact tBX8_whole_76 C hK   _ _ _ _ _ _ _ _ hG hS (lv_sub hl [1, 2, 3] rfl) hf

set_option maxHeartbeats 4000000 in
set_option maxRecDepth 100000 in
theorem tX8_whole (l : Launch) (D : g_D) {σ : g_S} {x0 : Nat} {x1 : Int32} {x2 : Int32} {out : g_S} (hf : fX8_whole σ x0 x1 x2 = some out) : Met l yX8_whole (Cond.code yX8_whole cX8_whole 6 none :: lw_g) rmX8_whole (g_P D σ [.ref x0, .int x1, .int x2]) (g_Q D out (none)) 0 0 (g_A D) := by
  refine Met.ofW (cc := cX8_whole) (maxL := 6) (ret := none) (by decide +kernel) rfl ?_
  intro p e s m args below meth c s₁ B hml hv
  obtain ⟨rfl, hG, hK⟩ := hv
  have hts : ∀ w ∈ lw_g, w.before _ s = true := fun w h => atoms_spec (ws := (Cond.code yX8_whole cX8_whole 6 none :: lw_g)) B.pre w (List.mem_cons_of_mem _ h)
  have C : g_C RX8 cX8_whole 6 none True p s m _ meth c := ⟨B.exec, B.bytes, hml, findClass_of_methodNamed B.named, hts, B.returns, B.notSynchronized, trivial⟩
  obtain ⟨hx, hb, hml, hown, hts, hr, hlocks, hin⟩ := id C
  have hS : va_S (g_A D) s.heap s.heap [] := va_S.rf
  have hl := lv_entry ([.ref x0, .int x1, .int x2]) (n := 6) (Nat.le_of_ble_eq_true rfl)
  rw [lg_entry_eq]
  generalize (lg_sl ([.ref x0, .int x1, .int x2]) ++ List.replicate (6 - (lg_sl ([.ref x0, .int x1, .int x2])).length) Slot.unset).toArray = ls at hl ⊢
  have hl : lv_has ls 6 [(0, .ref x0), (1, .int x1), (2, .int x2)] := hl
  unfold fX8_whole at hf
  refine lv_aload_n hx hb dX8_whole_0 rfl (lv_at hl 0 rfl) ?_
  refine lv_iconst (v := 2) hx hb dX8_whole_1 (by decide +kernel) ?_
  refine lv_iload_n hx hb dX8_whole_2 rfl (lv_at hl 1 rfl) ?_
  refine lv_imul hx hb dX8_whole_3 ?_
  refine lv_iconst (v := 2) hx hb dX8_whole_4 (by decide +kernel) ?_
  refine lv_iload_n hx hb dX8_whole_5 rfl (lv_at hl 1 rfl) ?_
  refine lv_imul hx hb dX8_whole_6 ?_
  refine lv_iconst (v := 1) hx hb dX8_whole_7 (by decide +kernel) ?_
  refine lv_iadd hx hb dX8_whole_8 ?_
  obtain ⟨o1, ho1, hf⟩ := g_bind hf
  obtain ⟨r2, hr2, hf⟩ := g_bind hf
  refine g_callV hx hb hml hl.1 hts hown hK hG hS (As := [.int (2 * x1), .int ((2 * x1) + 1)]) (rest := []) (tX8_divides l D hr2) vX8_divides mlX8_77 ho1 rfl rfl rfl rfl ⟨Nat.le_of_ble_eq_true rfl, Nat.le_of_ble_eq_true rfl⟩ rfl rfl (Nat.le_of_ble_eq_true rfl) ⟨Nat.le_of_ble_eq_true rfl, Nat.le_of_ble_eq_true rfl⟩ dX8_whole_9 (fun H locs hG hS => ?_)
  refine lv_aload_n hx hb dX8_whole_12 rfl (lv_at hl 0 rfl) ?_
  refine lv_bipush (v := 36) hx hb dX8_whole_13 (by decide +kernel) ?_
  obtain ⟨o3, ho3, hf⟩ := g_bind hf
  obtain ⟨r4, hr4, hf⟩ := g_bind hf
  refine g_callV hx hb hml hl.1 hts hown hK hG hS (As := [.int 36]) (rest := []) (tX8_isZero l D hr4) vX8_isZero mlX8_73 ho3 rfl rfl rfl rfl ⟨Nat.le_of_ble_eq_true rfl, Nat.le_of_ble_eq_true rfl⟩ rfl rfl (Nat.le_of_ble_eq_true rfl) ⟨Nat.le_of_ble_eq_true rfl, Nat.le_of_ble_eq_true rfl⟩ dX8_whole_15 (fun H locs hG hS => ?_)
  refine lv_if_ne (tgt := 25) hx hb dX8_whole_18 (by decide) (fun c5 => ?_) (fun c5 => ?_)
  · rw [if_neg c5] at hf
    refine lv_iconst (v := 0) hx hb dX8_whole_25 (by decide +kernel) ?_
    exact tBX8_whole_26 C hK   _ _ _ _ _ _ _ _ hG hS (lv_sub hl [0, 1, 2] rfl) hf
  · rw [if_pos c5] at hf
    refine lv_iconst (v := 1) hx hb dX8_whole_21 (by decide +kernel) ?_
    refine lv_goto (tgt := 26) hx hb dX8_whole_22 (by decide) ?_
    exact tBX8_whole_26 C hK   _ _ _ _ _ _ _ _ hG hS (lv_sub hl [0, 1, 2] rfl) hf

def rmX8_round : Room := { frames := 4, cells := 0, slots := 0, locals := 107 }
noncomputable def BX8_round_29  (σ : g_S)  : Option (Int32 × g_S) := some ((-1), σ)
noncomputable def BX8_round_125  (σ : g_S) (x0 : Nat) (x1 : Int32) (x4 : Int32) : Option (Int32 × g_S) := (g_o σ 8 x0).bind fun o18 => (fX8_holds σ x0 x1 x4).bind fun r19 => some (r19.1, r19.2)
noncomputable def BX8_round_114  (σ : g_S) (x0 : Nat) (x1 : Int32) (y0 : Int32) : Option (Int32 × g_S) := BX8_round_125 σ x0 x1 y0
noncomputable def fX8_round (σ : g_S) (x0 : Nat) (x1 : Int32) (x2 : Int32) (x3 : Int32) : Option (Int32 × g_S) := (g_p σ 8 x0 0 (.int 0)).bind fun σ1 => (fX8_isPlace σ1 x1).bind fun r2 => if r2.1 = 0 then (BX8_round_29 r2.2) else ((fX8_isPlace r2.2 x2).bind fun r4 => if r4.1 = 0 then (BX8_round_29 r4.2) else (if x3 < 0 then (BX8_round_29 r4.2) else (if x3 ≤ 7 then ((g_fr r4.2 8 x0 3).bind fun v8 => (g_li r4.2 5 v8 x2).bind fun v9 => (g_o r4.2 8 x0).bind fun o10 => (fX8_takesNumber r4.2 x0 x2).bind fun r11 => if x3 = 0 then ((g_o r11 8 x0).bind fun o25 => (fX8_small r11 x0 33 1).bind fun r26 => BX8_round_125 r26 x0 x1 v9) else (if x3 = 1 then ((g_o r11 8 x0).bind fun o21 => (fX8_copy r11 x0 ((2 * x2) + 1) 32).bind fun r22 => (g_o r22 8 x0).bind fun o23 => (fX8_small r22 x0 33 1).bind fun r24 => BX8_round_125 r24 x0 x1 0) else (if x3 = 2 then (BX8_round_125 r11 x0 x1 0) else (if x3 = 7 then (if v9 = 0 then (BX8_round_114 r11 x0 x1 1) else (BX8_round_114 r11 x0 x1 0)) else ((g_o r11 8 x0).bind fun o16 => (fX8_whole r11 x0 x2 x3).bind fun r17 => BX8_round_125 r17 x0 x1 v9))))) else (BX8_round_29 r4.2))))
set_option maxHeartbeats 4000000 in
set_option maxRecDepth 100000 in
theorem tBX8_round_29 {p : Program} {l : Launch} {e : Env} {s : State} {m : MethodId} {args : Array Value} {below : List Frame} {meth : Method} {c : Code} {D : g_D} {out : Int32 × g_S} (C : g_C RX8 cX8_round 5 (some .int) True p s m args meth c) (hK : g_K D s)  : ∀ (σ : g_S)  (H : Heap) (locs : List Loc) (ls : Array Slot), g_H D σ H → va_S (g_A D) s.heap H locs → lv_has ls 5 [] → BX8_round_29  σ  = some out → W p l e rmX8_round s m args below meth c H locs 0 0 (MQ below (g_Q D out.2 (some (.int out.1))) args s 0 0 (g_A D)) (F0 m 29 ls []) := by
  obtain ⟨hx, hb, hml, hown, hts, hr, hlocks, hin⟩ := id C
  intro σ  H locs ls hG hS hl hf
  unfold BX8_round_29 at hf
  refine lv_iconst (v := (-1)) hx hb dX8_round_29 (by decide +kernel) ?_
  cases hf
  exact g_iret hx hb hr hlocks hG hS dX8_round_30

set_option maxHeartbeats 4000000 in
set_option maxRecDepth 100000 in
theorem tBX8_round_125 {p : Program} {l : Launch} {e : Env} {s : State} {m : MethodId} {args : Array Value} {below : List Frame} {meth : Method} {c : Code} {D : g_D} {out : Int32 × g_S} (C : g_C RX8 cX8_round 5 (some .int) True p s m args meth c) (hK : g_K D s)  : ∀ (σ : g_S) (x0 : Nat) (x1 : Int32) (x4 : Int32) (H : Heap) (locs : List Loc) (ls : Array Slot), g_H D σ H → va_S (g_A D) s.heap H locs → lv_has ls 5 [(0, .ref x0), (1, .int x1), (4, .int x4)] → BX8_round_125  σ x0 x1 x4 = some out → W p l e rmX8_round s m args below meth c H locs 0 0 (MQ below (g_Q D out.2 (some (.int out.1))) args s 0 0 (g_A D)) (F0 m 125 ls []) := by
  obtain ⟨hx, hb, hml, hown, hts, hr, hlocks, hin⟩ := id C
  intro σ x0 x1 x4 H locs ls hG hS hl hf
  unfold BX8_round_125 at hf
  refine lv_aload_n hx hb dX8_round_125 rfl (lv_at hl 0 rfl) ?_
  refine lv_iload_n hx hb dX8_round_126 rfl (lv_at hl 1 rfl) ?_
  refine lv_iload hx hb dX8_round_127 (lv_at hl 2 rfl) ?_
  obtain ⟨o18, ho18, hf⟩ := g_bind hf
  obtain ⟨r19, hr19, hf⟩ := g_bind hf
  refine g_callV hx hb hml hl.1 hts hown hK hG hS (As := [.int x1, .int x4]) (rest := []) (tX8_holds l D hr19) vX8_holds mlX8_108 ho18 rfl rfl rfl rfl ⟨Nat.le_of_ble_eq_true rfl, Nat.le_of_ble_eq_true rfl⟩ rfl rfl (Nat.le_of_ble_eq_true rfl) ⟨Nat.le_of_ble_eq_true rfl, Nat.le_of_ble_eq_true rfl⟩ dX8_round_129 (fun H locs hG hS => ?_)
  cases hf
  exact g_iret hx hb hr hlocks hG hS dX8_round_132

set_option maxHeartbeats 4000000 in
set_option maxRecDepth 100000 in
theorem tBX8_round_114 {p : Program} {l : Launch} {e : Env} {s : State} {m : MethodId} {args : Array Value} {below : List Frame} {meth : Method} {c : Code} {D : g_D} {out : Int32 × g_S} (C : g_C RX8 cX8_round 5 (some .int) True p s m args meth c) (hK : g_K D s)  : ∀ (σ : g_S) (x0 : Nat) (x1 : Int32) (y0 : Int32) (H : Heap) (locs : List Loc) (ls : Array Slot), g_H D σ H → va_S (g_A D) s.heap H locs → lv_has ls 5 [(0, .ref x0), (1, .int x1)] → BX8_round_114  σ x0 x1 y0 = some out → W p l e rmX8_round s m args below meth c H locs 0 0 (MQ below (g_Q D out.2 (some (.int out.1))) args s 0 0 (g_A D)) (F0 m 114 ls [.int y0]) := by
  obtain ⟨hx, hb, hml, hown, hts, hr, hlocks, hin⟩ := id C
  intro σ x0 x1 y0 H locs ls hG hS hl hf
  unfold BX8_round_114 at hf
  refine lv_istore (lv' := [(4, .int y0), (0, .ref x0), (1, .int x1)]) hx hb dX8_round_114 hl (by decide) rfl (fun ls hl => ?_)
  refine lv_goto (tgt := 125) hx hb dX8_round_116 (by decide) ?_
  exact tBX8_round_125 C hK   _ _ _ _ _ _ _ hG hS (lv_sub hl [1, 2, 0] rfl) hf

set_option maxHeartbeats 4000000 in
set_option maxRecDepth 100000 in
theorem tX8_round (l : Launch) (D : g_D) {σ : g_S} {x0 : Nat} {x1 : Int32} {x2 : Int32} {x3 : Int32} {out : Int32 × g_S} (hf : fX8_round σ x0 x1 x2 x3 = some out) : Met l yX8_round (Cond.code yX8_round cX8_round 5 (some .int) :: lw_g) rmX8_round (g_P D σ [.ref x0, .int x1, .int x2, .int x3]) (g_Q D out.2 (some (.int out.1))) 0 0 (g_A D) := by
  refine Met.ofW (cc := cX8_round) (maxL := 5) (ret := (some .int)) (by decide +kernel) rfl ?_
  intro p e s m args below meth c s₁ B hml hv
  obtain ⟨rfl, hG, hK⟩ := hv
  have hts : ∀ w ∈ lw_g, w.before _ s = true := fun w h => atoms_spec (ws := (Cond.code yX8_round cX8_round 5 (some .int) :: lw_g)) B.pre w (List.mem_cons_of_mem _ h)
  have C : g_C RX8 cX8_round 5 (some .int) True p s m _ meth c := ⟨B.exec, B.bytes, hml, findClass_of_methodNamed B.named, hts, B.returns, B.notSynchronized, trivial⟩
  obtain ⟨hx, hb, hml, hown, hts, hr, hlocks, hin⟩ := id C
  have hS : va_S (g_A D) s.heap s.heap [] := va_S.rf
  have hl := lv_entry ([.ref x0, .int x1, .int x2, .int x3]) (n := 5) (Nat.le_of_ble_eq_true rfl)
  rw [lg_entry_eq]
  generalize (lg_sl ([.ref x0, .int x1, .int x2, .int x3]) ++ List.replicate (5 - (lg_sl ([.ref x0, .int x1, .int x2, .int x3])).length) Slot.unset).toArray = ls at hl ⊢
  have hl : lv_has ls 5 [(0, .ref x0), (1, .int x1), (2, .int x2), (3, .int x3)] := hl
  unfold fX8_round at hf
  refine lv_aload_n hx hb dX8_round_0 rfl (lv_at hl 0 rfl) ?_
  refine lv_iconst (v := 0) hx hb dX8_round_1 (by decide +kernel) ?_
  obtain ⟨σ1, hσ1, hf⟩ := g_bind hf
  refine g_put hx hb hts hown hK hG hS hσ1 rfl iX8 tyX8 tyX8_ok nmX8 (by decide) flX8_30 rfl rfl rfl dX8_round_2 (fun H locs hG hS => ?_)
  refine lv_iload_n hx hb dX8_round_5 rfl (lv_at hl 1 rfl) ?_
  obtain ⟨r2, hr2, hf⟩ := g_bind hf
  refine g_callS hx hb hml hl.1 hts hown hK hG hS (As := [.int x1]) (rest := []) (tX8_isPlace l D hr2) vX8_isPlace mlX8_98 rfl rfl ⟨Nat.le_of_ble_eq_true rfl, Nat.le_of_ble_eq_true rfl⟩ rfl rfl (Nat.le_of_ble_eq_true rfl) ⟨Nat.le_of_ble_eq_true rfl, Nat.le_of_ble_eq_true rfl⟩ dX8_round_6 (fun H locs hG hS => ?_)
  refine lv_if_eq (tgt := 29) hx hb dX8_round_9 (by decide) (fun c3 => ?_) (fun c3 => ?_)
  · rw [if_pos c3] at hf
    exact tBX8_round_29 C hK   _  _ _ _ hG hS (lv_sub hl [] rfl) hf
  · rw [if_neg c3] at hf
    refine lv_iload_n hx hb dX8_round_12 rfl (lv_at hl 2 rfl) ?_
    obtain ⟨r4, hr4, hf⟩ := g_bind hf
    refine g_callS hx hb hml hl.1 hts hown hK hG hS (As := [.int x2]) (rest := []) (tX8_isPlace l D hr4) vX8_isPlace mlX8_98 rfl rfl ⟨Nat.le_of_ble_eq_true rfl, Nat.le_of_ble_eq_true rfl⟩ rfl rfl (Nat.le_of_ble_eq_true rfl) ⟨Nat.le_of_ble_eq_true rfl, Nat.le_of_ble_eq_true rfl⟩ dX8_round_13 (fun H locs hG hS => ?_)
    refine lv_if_eq (tgt := 29) hx hb dX8_round_16 (by decide) (fun c5 => ?_) (fun c5 => ?_)
    · rw [if_pos c5] at hf
      exact tBX8_round_29 C hK   _  _ _ _ hG hS (lv_sub hl [] rfl) hf
    · rw [if_neg c5] at hf
      refine lv_iload_n hx hb dX8_round_19 rfl (lv_at hl 3 rfl) ?_
      refine lv_if_lt (tgt := 29) hx hb dX8_round_20 (by decide) (fun c6 => ?_) (fun c6 => ?_)
      · rw [if_pos c6] at hf
        exact tBX8_round_29 C hK   _  _ _ _ hG hS (lv_sub hl [] rfl) hf
      · rw [if_neg c6] at hf
        refine lv_iload_n hx hb dX8_round_23 rfl (lv_at hl 3 rfl) ?_
        refine lv_bipush (v := 7) hx hb dX8_round_24 (by decide +kernel) ?_
        refine lv_icmp_le (tgt := 31) hx hb dX8_round_26 (by decide) (fun c7 => ?_) (fun c7 => ?_)
        · rw [if_pos c7] at hf
          refine lv_aload_n hx hb dX8_round_31 rfl (lv_at hl 0 rfl) ?_
          obtain ⟨v8, hv8, hf⟩ := g_bind hf
          refine g_getr hx hb hts hown hK hG hv8 rfl iX8 (by decide) flX8_16 dX8_round_32 ?_
          refine lv_iload_n hx hb dX8_round_35 rfl (lv_at hl 2 rfl) ?_
          obtain ⟨v9, hv9, hf⟩ := g_bind hf
          refine g_zald hx hb hK hG hv9 rfl dX8_round_36 ?_
          refine lv_istore (lv' := [(4, .int v9), (0, .ref x0), (1, .int x1), (2, .int x2), (3, .int x3)]) hx hb dX8_round_37 hl (by decide) rfl (fun ls hl => ?_)
          refine lv_aload_n hx hb dX8_round_39 rfl (lv_at hl 1 rfl) ?_
          refine lv_iload_n hx hb dX8_round_40 rfl (lv_at hl 3 rfl) ?_
          obtain ⟨o10, ho10, hf⟩ := g_bind hf
          obtain ⟨r11, hr11, hf⟩ := g_bind hf
          refine g_callV hx hb hml hl.1 hts hown hK hG hS (As := [.int x2]) (rest := []) (tX8_takesNumber l D hr11) vX8_takesNumber mlX8_137 ho10 rfl rfl rfl rfl ⟨Nat.le_of_ble_eq_true rfl, Nat.le_of_ble_eq_true rfl⟩ rfl rfl (Nat.le_of_ble_eq_true rfl) ⟨Nat.le_of_ble_eq_true rfl, Nat.le_of_ble_eq_true rfl⟩ dX8_round_41 (fun H locs hG hS => ?_)
          refine lv_iload_n hx hb dX8_round_44 rfl (lv_at hl 4 rfl) ?_
          refine lv_if_ne (tgt := 58) hx hb dX8_round_45 (by decide) (fun c12 => ?_) (fun c12 => ?_)
          · rw [if_neg c12] at hf
            refine lv_iload_n hx hb dX8_round_58 rfl (lv_at hl 4 rfl) ?_
            refine lv_iconst (v := 1) hx hb dX8_round_59 (by decide +kernel) ?_
            refine lv_icmp_ne (tgt := 87) hx hb dX8_round_60 (by decide) (fun c13 => ?_) (fun c13 => ?_)
            · rw [if_neg c13] at hf
              refine lv_iload_n hx hb dX8_round_87 rfl (lv_at hl 4 rfl) ?_
              refine lv_iconst (v := 2) hx hb dX8_round_88 (by decide +kernel) ?_
              refine lv_icmp_ne (tgt := 98) hx hb dX8_round_89 (by decide) (fun c14 => ?_) (fun c14 => ?_)
              · rw [if_neg c14] at hf
                refine lv_iload_n hx hb dX8_round_98 rfl (lv_at hl 4 rfl) ?_
                refine lv_bipush (v := 7) hx hb dX8_round_99 (by decide +kernel) ?_
                refine lv_icmp_ne (tgt := 119) hx hb dX8_round_101 (by decide) (fun c15 => ?_) (fun c15 => ?_)
                · rw [if_neg c15] at hf
                  refine lv_aload_n hx hb dX8_round_119 rfl (lv_at hl 1 rfl) ?_
                  refine lv_iload_n hx hb dX8_round_120 rfl (lv_at hl 3 rfl) ?_
                  refine lv_iload_n hx hb dX8_round_121 rfl (lv_at hl 4 rfl) ?_
                  obtain ⟨o16, ho16, hf⟩ := g_bind hf
                  obtain ⟨r17, hr17, hf⟩ := g_bind hf
                  refine g_callV hx hb hml hl.1 hts hown hK hG hS (As := [.int x2, .int x3]) (rest := []) (tX8_whole l D hr17) vX8_whole mlX8_155 ho16 rfl rfl rfl rfl ⟨Nat.le_of_ble_eq_true rfl, Nat.le_of_ble_eq_true rfl⟩ rfl rfl (Nat.le_of_ble_eq_true rfl) ⟨Nat.le_of_ble_eq_true rfl, Nat.le_of_ble_eq_true rfl⟩ dX8_round_122 (fun H locs hG hS => ?_)
                  exact tBX8_round_125 C hK   _ _ _ _ _ _ _ hG hS (lv_sub hl [1, 2, 0] rfl) hf
                · rw [if_pos c15] at hf
                  refine lv_iload hx hb dX8_round_104 (lv_at hl 0 rfl) ?_
                  refine lv_if_ne (tgt := 113) hx hb dX8_round_106 (by decide) (fun c20 => ?_) (fun c20 => ?_)
                  · rw [if_neg c20] at hf
                    refine lv_iconst (v := 0) hx hb dX8_round_113 (by decide +kernel) ?_
                    exact tBX8_round_114 C hK   _ _ _ _ _ _ _ hG hS (lv_sub hl [1, 2] rfl) hf
                  · rw [if_pos c20] at hf
                    refine lv_iconst (v := 1) hx hb dX8_round_109 (by decide +kernel) ?_
                    refine lv_goto (tgt := 114) hx hb dX8_round_110 (by decide) ?_
                    exact tBX8_round_114 C hK   _ _ _ _ _ _ _ hG hS (lv_sub hl [1, 2] rfl) hf
              · rw [if_pos c14] at hf
                refine lv_iconst (v := 0) hx hb dX8_round_92 (by decide +kernel) ?_
                refine lv_istore (lv' := [(4, .int 0), (0, .ref x0), (1, .int x1), (2, .int x2), (3, .int x3)]) hx hb dX8_round_93 hl (by decide) rfl (fun ls hl => ?_)
                refine lv_goto (tgt := 125) hx hb dX8_round_95 (by decide) ?_
                exact tBX8_round_125 C hK   _ _ _ _ _ _ _ hG hS (lv_sub hl [1, 2, 0] rfl) hf
            · rw [if_pos c13] at hf
              refine lv_aload_n hx hb dX8_round_63 rfl (lv_at hl 1 rfl) ?_
              refine lv_iconst (v := 2) hx hb dX8_round_64 (by decide +kernel) ?_
              refine lv_iload_n hx hb dX8_round_65 rfl (lv_at hl 3 rfl) ?_
              refine lv_imul hx hb dX8_round_66 ?_
              refine lv_iconst (v := 1) hx hb dX8_round_67 (by decide +kernel) ?_
              refine lv_iadd hx hb dX8_round_68 ?_
              refine lv_bipush (v := 32) hx hb dX8_round_69 (by decide +kernel) ?_
              obtain ⟨o21, ho21, hf⟩ := g_bind hf
              obtain ⟨r22, hr22, hf⟩ := g_bind hf
              refine g_callV hx hb hml hl.1 hts hown hK hG hS (As := [.int ((2 * x2) + 1), .int 32]) (rest := []) (tX8_copy l D hr22) vX8_copy mlX8_51 ho21 rfl rfl rfl rfl ⟨Nat.le_of_ble_eq_true rfl, Nat.le_of_ble_eq_true rfl⟩ rfl rfl (Nat.le_of_ble_eq_true rfl) ⟨Nat.le_of_ble_eq_true rfl, Nat.le_of_ble_eq_true rfl⟩ dX8_round_71 (fun H locs hG hS => ?_)
              refine lv_aload_n hx hb dX8_round_74 rfl (lv_at hl 1 rfl) ?_
              refine lv_bipush (v := 33) hx hb dX8_round_75 (by decide +kernel) ?_
              refine lv_iconst (v := 1) hx hb dX8_round_77 (by decide +kernel) ?_
              obtain ⟨o23, ho23, hf⟩ := g_bind hf
              obtain ⟨r24, hr24, hf⟩ := g_bind hf
              refine g_callV hx hb hml hl.1 hts hown hK hG hS (As := [.int 33, .int 1]) (rest := []) (tX8_small l D hr24) vX8_small mlX8_26 ho23 rfl rfl rfl rfl ⟨Nat.le_of_ble_eq_true rfl, Nat.le_of_ble_eq_true rfl⟩ rfl rfl (Nat.le_of_ble_eq_true rfl) ⟨Nat.le_of_ble_eq_true rfl, Nat.le_of_ble_eq_true rfl⟩ dX8_round_78 (fun H locs hG hS => ?_)
              refine lv_iconst (v := 0) hx hb dX8_round_81 (by decide +kernel) ?_
              refine lv_istore (lv' := [(4, .int 0), (0, .ref x0), (1, .int x1), (2, .int x2), (3, .int x3)]) hx hb dX8_round_82 hl (by decide) rfl (fun ls hl => ?_)
              refine lv_goto (tgt := 125) hx hb dX8_round_84 (by decide) ?_
              exact tBX8_round_125 C hK   _ _ _ _ _ _ _ hG hS (lv_sub hl [1, 2, 0] rfl) hf
          · rw [if_pos c12] at hf
            refine lv_aload_n hx hb dX8_round_48 rfl (lv_at hl 1 rfl) ?_
            refine lv_bipush (v := 33) hx hb dX8_round_49 (by decide +kernel) ?_
            refine lv_iconst (v := 1) hx hb dX8_round_51 (by decide +kernel) ?_
            obtain ⟨o25, ho25, hf⟩ := g_bind hf
            obtain ⟨r26, hr26, hf⟩ := g_bind hf
            refine g_callV hx hb hml hl.1 hts hown hK hG hS (As := [.int 33, .int 1]) (rest := []) (tX8_small l D hr26) vX8_small mlX8_26 ho25 rfl rfl rfl rfl ⟨Nat.le_of_ble_eq_true rfl, Nat.le_of_ble_eq_true rfl⟩ rfl rfl (Nat.le_of_ble_eq_true rfl) ⟨Nat.le_of_ble_eq_true rfl, Nat.le_of_ble_eq_true rfl⟩ dX8_round_52 (fun H locs hG hS => ?_)
            refine lv_goto (tgt := 125) hx hb dX8_round_55 (by decide) ?_
            exact tBX8_round_125 C hK   _ _ _ _ _ _ _ hG hS (lv_sub hl [1, 2, 0] rfl) hf
        · rw [if_neg c7] at hf
          exact tBX8_round_29 C hK   _  _ _ _ hG hS (lv_sub hl [] rfl) hf

def rmX8_character : Room := { frames := 0, cells := 0, slots := 0, locals := 0 }
noncomputable def fX8_character (σ : g_S) (x0 : Nat) (x1 : Int32) : Option (g_S) := (g_fr σ 8 x0 6).bind fun v1 => (g_fi σ 8 x0 7).bind fun v2 => (g_si σ 0 v1 v2 x1).bind fun σ3 => (g_fi σ3 8 x0 7).bind fun v4 => (g_p σ3 8 x0 7 (.int (v4 + 1))).bind fun σ5 => some σ5
set_option maxHeartbeats 4000000 in
set_option maxRecDepth 100000 in
theorem tX8_character (l : Launch) (D : g_D) {σ : g_S} {x0 : Nat} {x1 : Int32} {out : g_S} (hf : fX8_character σ x0 x1 = some out) : Met l yX8_character (Cond.code yX8_character cX8_character 2 none :: lw_g) rmX8_character (g_P D σ [.ref x0, .int x1]) (g_Q D out (none)) 0 0 (g_A D) := by
  refine Met.ofW (cc := cX8_character) (maxL := 2) (ret := none) (by decide +kernel) rfl ?_
  intro p e s m args below meth c s₁ B hml hv
  obtain ⟨rfl, hG, hK⟩ := hv
  have hts : ∀ w ∈ lw_g, w.before _ s = true := fun w h => atoms_spec (ws := (Cond.code yX8_character cX8_character 2 none :: lw_g)) B.pre w (List.mem_cons_of_mem _ h)
  have C : g_C RX8 cX8_character 2 none True p s m _ meth c := ⟨B.exec, B.bytes, hml, findClass_of_methodNamed B.named, hts, B.returns, B.notSynchronized, trivial⟩
  obtain ⟨hx, hb, hml, hown, hts, hr, hlocks, hin⟩ := id C
  have hS : va_S (g_A D) s.heap s.heap [] := va_S.rf
  have hl := lv_entry ([.ref x0, .int x1]) (n := 2) (Nat.le_of_ble_eq_true rfl)
  rw [lg_entry_eq]
  generalize (lg_sl ([.ref x0, .int x1]) ++ List.replicate (2 - (lg_sl ([.ref x0, .int x1])).length) Slot.unset).toArray = ls at hl ⊢
  have hl : lv_has ls 2 [(0, .ref x0), (1, .int x1)] := hl
  unfold fX8_character at hf
  refine lv_aload_n hx hb dX8_character_0 rfl (lv_at hl 0 rfl) ?_
  obtain ⟨v1, hv1, hf⟩ := g_bind hf
  refine g_getr hx hb hts hown hK hG hv1 rfl iX8 (by decide) flX8_23 dX8_character_1 ?_
  refine lv_aload_n hx hb dX8_character_4 rfl (lv_at hl 0 rfl) ?_
  obtain ⟨v2, hv2, hf⟩ := g_bind hf
  refine g_geti hx hb hts hown hK hG hv2 rfl iX8 (by decide) flX8_158 dX8_character_5 ?_
  refine lv_iload_n hx hb dX8_character_8 rfl (lv_at hl 1 rfl) ?_
  obtain ⟨σ3, hσ3, hf⟩ := g_bind hf
  refine g_iast hx hb hK hG hS hσ3 rfl dX8_character_9 (fun H locs hG hS => ?_)
  refine lv_aload_n hx hb dX8_character_10 rfl (lv_at hl 0 rfl) ?_
  refine lv_dup hx hb dX8_character_11 rfl ?_
  obtain ⟨v4, hv4, hf⟩ := g_bind hf
  refine g_geti hx hb hts hown hK hG hv4 rfl iX8 (by decide) flX8_158 dX8_character_12 ?_
  refine lv_iconst (v := 1) hx hb dX8_character_15 (by decide +kernel) ?_
  refine lv_iadd hx hb dX8_character_16 ?_
  obtain ⟨σ5, hσ5, hf⟩ := g_bind hf
  refine g_put hx hb hts hown hK hG hS hσ5 rfl iX8 tyX8 tyX8_ok nmX8 (by decide) flX8_158 rfl rfl rfl dX8_character_17 (fun H locs hG hS => ?_)
  cases hf
  exact g_vret hx hb hr hlocks hG hS dX8_character_20

def rmX8_writes : Room := { frames := 2, cells := 0, slots := 0, locals := 50 }
noncomputable def LX8_writes_57  : Nat → g_S → Nat → Int32 → Int32 → Option (g_S)
  | 0, _, _, _, _ => none
  | n + 1, σ, x0, x3, x4 => (g_fi σ 8 x0 7).bind fun v12 => if ((v12 - x3) / 2) ≤ x4 then (some σ) else ((g_fr σ 8 x0 6).bind fun v14 => (g_li σ 0 v14 (x3 + x4)).bind fun v15 => (g_fr σ 8 x0 6).bind fun v16 => (g_fr σ 8 x0 6).bind fun v17 => (g_fi σ 8 x0 7).bind fun v18 => (g_li σ 0 v17 ((v18 - 1) - x4)).bind fun v19 => (g_si σ 0 v16 (x3 + x4) v19).bind fun σ20 => (g_fr σ20 8 x0 6).bind fun v21 => (g_fi σ20 8 x0 7).bind fun v22 => (g_si σ20 0 v21 ((v22 - 1) - x4) v15).bind fun σ23 => g_let (x4 + 1) fun v24 => (LX8_writes_57  n) σ23 x0 x3 v24)
noncomputable def BX8_writes_42 (k12 : g_S → Nat → Int32 → Int32 → Option (g_S)) (σ : g_S) (x0 : Nat) (x2 : Int32) (x3 : Int32) (y0 : Nat) (y1 : Int32) : Option (g_S) := (g_o σ 8 y0).bind fun o7 => (fX8_character σ y0 y1).bind fun r8 => (g_o r8 8 x0).bind fun o9 => (fX8_isZero r8 x0 37).bind fun r10 => if r10.1 = 0 then (k12 r10.2 x0 x2 x3) else (LX8_writes_57 g_fuel r10.2 x0 x3 0)
noncomputable def LX8_writes_12  : Nat → g_S → Nat → Int32 → Int32 → Option (g_S)
  | 0, _, _, _, _ => none
  | n + 1, σ, x0, x2, x3 => (g_o σ 8 x0).bind fun o4 => (fX8_divide σ x0 37 x2).bind fun r5 => if 10 ≤ r5.1 then (BX8_writes_42 (LX8_writes_12  n) r5.2 x0 x2 x3 x0 (87 + r5.1)) else (BX8_writes_42 (LX8_writes_12  n) r5.2 x0 x2 x3 x0 (48 + r5.1))
noncomputable def fX8_writes (σ : g_S) (x0 : Nat) (x1 : Int32) (x2 : Int32) : Option (g_S) := (g_o σ 8 x0).bind fun o1 => (fX8_copy σ x0 x1 37).bind fun r2 => (g_fi r2 8 x0 7).bind fun v3 => LX8_writes_12 g_fuel r2 x0 x2 v3
set_option maxHeartbeats 4000000 in
set_option maxRecDepth 100000 in
theorem tLX8_writes_57 {p : Program} {l : Launch} {e : Env} {s : State} {m : MethodId} {args : Array Value} {below : List Frame} {meth : Method} {c : Code} {D : g_D} {out : g_S} (C : g_C RX8 cX8_writes 6 none True p s m args meth c) (hK : g_K D s)  : ∀ (n : Nat) (σ : g_S) (x0 : Nat) (x3 : Int32) (x4 : Int32) (H : Heap) (locs : List Loc) (ls : Array Slot), g_H D σ H → va_S (g_A D) s.heap H locs → lv_has ls 6 [(0, .ref x0), (3, .int x3), (4, .int x4)] → LX8_writes_57  n σ x0 x3 x4 = some out → W p l e rmX8_writes s m args below meth c H locs 0 0 (MQ below (g_Q D out (none)) args s 0 0 (g_A D)) (F0 m 57 ls [])  := by
  obtain ⟨hx, hb, hml, hown, hts, hr, hlocks, hin⟩ := id C
  intro n
  induction n with
  | zero => intro σ x0 x3 x4 H locs ls hG hS hl hf; cases hf
  | succ n ih =>
    intro σ x0 x3 x4 H locs ls hG hS hl hf
    have hf : ((g_fi σ 8 x0 7).bind fun v12 => if ((v12 - x3) / 2) ≤ x4 then (some σ) else ((g_fr σ 8 x0 6).bind fun v14 => (g_li σ 0 v14 (x3 + x4)).bind fun v15 => (g_fr σ 8 x0 6).bind fun v16 => (g_fr σ 8 x0 6).bind fun v17 => (g_fi σ 8 x0 7).bind fun v18 => (g_li σ 0 v17 ((v18 - 1) - x4)).bind fun v19 => (g_si σ 0 v16 (x3 + x4) v19).bind fun σ20 => (g_fr σ20 8 x0 6).bind fun v21 => (g_fi σ20 8 x0 7).bind fun v22 => (g_si σ20 0 v21 ((v22 - 1) - x4) v15).bind fun σ23 => g_let (x4 + 1) fun v24 => (LX8_writes_57  n) σ23 x0 x3 v24)) = some out := hf
    have hk57 := ih
    refine lv_iload hx hb dX8_writes_57 (lv_at hl 2 rfl) ?_
    refine lv_aload_n hx hb dX8_writes_59 rfl (lv_at hl 0 rfl) ?_
    obtain ⟨v12, hv12, hf⟩ := g_bind hf
    refine g_geti hx hb hts hown hK hG hv12 rfl iX8 (by decide) flX8_158 dX8_writes_60 ?_
    refine lv_iload_n hx hb dX8_writes_63 rfl (lv_at hl 1 rfl) ?_
    refine lv_isub hx hb dX8_writes_64 ?_
    refine lv_iconst (v := 2) hx hb dX8_writes_65 (by decide +kernel) ?_
    refine lv_idiv hx hb dX8_writes_66 (by decide) ?_
    refine lv_icmp_ge (tgt := 126) hx hb dX8_writes_67 (by decide) (fun c13 => ?_) (fun c13 => ?_)
    · rw [if_pos c13] at hf
      cases hf
      exact g_vret hx hb hr hlocks hG hS dX8_writes_126
    · rw [if_neg c13] at hf
      refine lv_aload_n hx hb dX8_writes_70 rfl (lv_at hl 0 rfl) ?_
      obtain ⟨v14, hv14, hf⟩ := g_bind hf
      refine g_getr hx hb hts hown hK hG hv14 rfl iX8 (by decide) flX8_23 dX8_writes_71 ?_
      refine lv_iload_n hx hb dX8_writes_74 rfl (lv_at hl 1 rfl) ?_
      refine lv_iload hx hb dX8_writes_75 (lv_at hl 2 rfl) ?_
      refine lv_iadd hx hb dX8_writes_77 ?_
      obtain ⟨v15, hv15, hf⟩ := g_bind hf
      refine g_iald hx hb hK hG hv15 rfl dX8_writes_78 ?_
      refine lv_istore (lv' := [(5, .int v15), (0, .ref x0), (3, .int x3), (4, .int x4)]) hx hb dX8_writes_79 hl (by decide) rfl (fun ls hl => ?_)
      refine lv_aload_n hx hb dX8_writes_81 rfl (lv_at hl 1 rfl) ?_
      obtain ⟨v16, hv16, hf⟩ := g_bind hf
      refine g_getr hx hb hts hown hK hG hv16 rfl iX8 (by decide) flX8_23 dX8_writes_82 ?_
      refine lv_iload_n hx hb dX8_writes_85 rfl (lv_at hl 2 rfl) ?_
      refine lv_iload hx hb dX8_writes_86 (lv_at hl 3 rfl) ?_
      refine lv_iadd hx hb dX8_writes_88 ?_
      refine lv_aload_n hx hb dX8_writes_89 rfl (lv_at hl 1 rfl) ?_
      obtain ⟨v17, hv17, hf⟩ := g_bind hf
      refine g_getr hx hb hts hown hK hG hv17 rfl iX8 (by decide) flX8_23 dX8_writes_90 ?_
      refine lv_aload_n hx hb dX8_writes_93 rfl (lv_at hl 1 rfl) ?_
      obtain ⟨v18, hv18, hf⟩ := g_bind hf
      refine g_geti hx hb hts hown hK hG hv18 rfl iX8 (by decide) flX8_158 dX8_writes_94 ?_
      refine lv_iconst (v := 1) hx hb dX8_writes_97 (by decide +kernel) ?_
      refine lv_isub hx hb dX8_writes_98 ?_
      refine lv_iload hx hb dX8_writes_99 (lv_at hl 3 rfl) ?_
      refine lv_isub hx hb dX8_writes_101 ?_
      obtain ⟨v19, hv19, hf⟩ := g_bind hf
      refine g_iald hx hb hK hG hv19 rfl dX8_writes_102 ?_
      obtain ⟨σ20, hσ20, hf⟩ := g_bind hf
      refine g_iast hx hb hK hG hS hσ20 rfl dX8_writes_103 (fun H locs hG hS => ?_)
      refine lv_aload_n hx hb dX8_writes_104 rfl (lv_at hl 1 rfl) ?_
      obtain ⟨v21, hv21, hf⟩ := g_bind hf
      refine g_getr hx hb hts hown hK hG hv21 rfl iX8 (by decide) flX8_23 dX8_writes_105 ?_
      refine lv_aload_n hx hb dX8_writes_108 rfl (lv_at hl 1 rfl) ?_
      obtain ⟨v22, hv22, hf⟩ := g_bind hf
      refine g_geti hx hb hts hown hK hG hv22 rfl iX8 (by decide) flX8_158 dX8_writes_109 ?_
      refine lv_iconst (v := 1) hx hb dX8_writes_112 (by decide +kernel) ?_
      refine lv_isub hx hb dX8_writes_113 ?_
      refine lv_iload hx hb dX8_writes_114 (lv_at hl 3 rfl) ?_
      refine lv_isub hx hb dX8_writes_116 ?_
      refine lv_iload hx hb dX8_writes_117 (lv_at hl 0 rfl) ?_
      obtain ⟨σ23, hσ23, hf⟩ := g_bind hf
      refine g_iast hx hb hK hG hS hσ23 rfl dX8_writes_119 (fun H locs hG hS => ?_)
      obtain ⟨v24, ev24, hf⟩ := g_let_spec hf
      refine lv_iinc (v := v24) (lv' := [(4, .int v24), (5, .int v15), (0, .ref x0), (3, .int x3)]) hx hb dX8_writes_120 hl (k := 3) rfl (by rw [← ev24]; rfl) (by decide) rfl (fun ls hl => ?_)
      refine lv_goto (tgt := 57) hx hb dX8_writes_123 (by decide) ?_
      exact hk57 _ _ _ _ _ _ _ hG hS (lv_sub hl [2, 3, 0] rfl) hf

set_option maxHeartbeats 4000000 in
set_option maxRecDepth 100000 in
theorem tBX8_writes_42 {p : Program} {l : Launch} {e : Env} {s : State} {m : MethodId} {args : Array Value} {below : List Frame} {meth : Method} {c : Code} {D : g_D} {out : g_S} (C : g_C RX8 cX8_writes 6 none True p s m args meth c) (hK : g_K D s) (k12 : g_S → Nat → Int32 → Int32 → Option (g_S)) (hk12 : ∀ (σ : g_S) (x0 : Nat) (x2 : Int32) (x3 : Int32) (H : Heap) (locs : List Loc) (ls : Array Slot), g_H D σ H → va_S (g_A D) s.heap H locs → lv_has ls 6 [(0, .ref x0), (2, .int x2), (3, .int x3)] → k12 σ x0 x2 x3 = some out → W p l e rmX8_writes s m args below meth c H locs 0 0 (MQ below (g_Q D out (none)) args s 0 0 (g_A D)) (F0 m 12 ls [])) : ∀ (σ : g_S) (x0 : Nat) (x2 : Int32) (x3 : Int32) (y0 : Nat) (y1 : Int32) (H : Heap) (locs : List Loc) (ls : Array Slot), g_H D σ H → va_S (g_A D) s.heap H locs → lv_has ls 6 [(0, .ref x0), (2, .int x2), (3, .int x3)] → BX8_writes_42 k12 σ x0 x2 x3 y0 y1 = some out → W p l e rmX8_writes s m args below meth c H locs 0 0 (MQ below (g_Q D out (none)) args s 0 0 (g_A D)) (F0 m 42 ls [.int y1, .ref y0]) := by
  obtain ⟨hx, hb, hml, hown, hts, hr, hlocks, hin⟩ := id C
  intro σ x0 x2 x3 y0 y1 H locs ls hG hS hl hf
  unfold BX8_writes_42 at hf
  obtain ⟨o7, ho7, hf⟩ := g_bind hf
  obtain ⟨r8, hr8, hf⟩ := g_bind hf
  refine g_callV hx hb hml hl.1 hts hown hK hG hS (As := [.int y1]) (rest := []) (tX8_character l D hr8) vX8_character mlX8_161 ho7 rfl rfl rfl rfl ⟨Nat.le_of_ble_eq_true rfl, Nat.le_of_ble_eq_true rfl⟩ rfl rfl (Nat.le_of_ble_eq_true rfl) ⟨Nat.le_of_ble_eq_true rfl, Nat.le_of_ble_eq_true rfl⟩ dX8_writes_42 (fun H locs hG hS => ?_)
  refine lv_aload_n hx hb dX8_writes_45 rfl (lv_at hl 0 rfl) ?_
  refine lv_bipush (v := 37) hx hb dX8_writes_46 (by decide +kernel) ?_
  obtain ⟨o9, ho9, hf⟩ := g_bind hf
  obtain ⟨r10, hr10, hf⟩ := g_bind hf
  refine g_callV hx hb hml hl.1 hts hown hK hG hS (As := [.int 37]) (rest := []) (tX8_isZero l D hr10) vX8_isZero mlX8_73 ho9 rfl rfl rfl rfl ⟨Nat.le_of_ble_eq_true rfl, Nat.le_of_ble_eq_true rfl⟩ rfl rfl (Nat.le_of_ble_eq_true rfl) ⟨Nat.le_of_ble_eq_true rfl, Nat.le_of_ble_eq_true rfl⟩ dX8_writes_48 (fun H locs hG hS => ?_)
  refine lv_if_eq (tgt := 12) hx hb dX8_writes_51 (by decide) (fun c11 => ?_) (fun c11 => ?_)
  · rw [if_pos c11] at hf
    exact hk12 _ _ _ _ _ _ _ hG hS (lv_sub hl [0, 1, 2] rfl) hf
  · rw [if_neg c11] at hf
    refine lv_iconst (v := 0) hx hb dX8_writes_54 (by decide +kernel) ?_
    refine lv_istore (lv' := [(4, .int 0), (0, .ref x0), (2, .int x2), (3, .int x3)]) hx hb dX8_writes_55 hl (by decide) rfl (fun ls hl => ?_)
    exact tLX8_writes_57 C hK  g_fuel _ _ _ _ _ _ _ hG hS (lv_sub hl [1, 3, 0] rfl) hf

set_option maxHeartbeats 4000000 in
set_option maxRecDepth 100000 in
theorem tLX8_writes_12 {p : Program} {l : Launch} {e : Env} {s : State} {m : MethodId} {args : Array Value} {below : List Frame} {meth : Method} {c : Code} {D : g_D} {out : g_S} (C : g_C RX8 cX8_writes 6 none True p s m args meth c) (hK : g_K D s)  : ∀ (n : Nat) (σ : g_S) (x0 : Nat) (x2 : Int32) (x3 : Int32) (H : Heap) (locs : List Loc) (ls : Array Slot), g_H D σ H → va_S (g_A D) s.heap H locs → lv_has ls 6 [(0, .ref x0), (2, .int x2), (3, .int x3)] → LX8_writes_12  n σ x0 x2 x3 = some out → W p l e rmX8_writes s m args below meth c H locs 0 0 (MQ below (g_Q D out (none)) args s 0 0 (g_A D)) (F0 m 12 ls [])  := by
  obtain ⟨hx, hb, hml, hown, hts, hr, hlocks, hin⟩ := id C
  intro n
  induction n with
  | zero => intro σ x0 x2 x3 H locs ls hG hS hl hf; cases hf
  | succ n ih =>
    intro σ x0 x2 x3 H locs ls hG hS hl hf
    have hf : ((g_o σ 8 x0).bind fun o4 => (fX8_divide σ x0 37 x2).bind fun r5 => if 10 ≤ r5.1 then (BX8_writes_42 (LX8_writes_12  n) r5.2 x0 x2 x3 x0 (87 + r5.1)) else (BX8_writes_42 (LX8_writes_12  n) r5.2 x0 x2 x3 x0 (48 + r5.1))) = some out := hf
    have hk12 := ih
    refine lv_aload_n hx hb dX8_writes_12 rfl (lv_at hl 0 rfl) ?_
    refine lv_bipush (v := 37) hx hb dX8_writes_13 (by decide +kernel) ?_
    refine lv_iload_n hx hb dX8_writes_15 rfl (lv_at hl 1 rfl) ?_
    obtain ⟨o4, ho4, hf⟩ := g_bind hf
    obtain ⟨r5, hr5, hf⟩ := g_bind hf
    refine g_callV hx hb hml hl.1 hts hown hK hG hS (As := [.int 37, .int x2]) (rest := []) (tX8_divide l D hr5) vX8_divide mlX8_54 ho4 rfl rfl rfl rfl ⟨Nat.le_of_ble_eq_true rfl, Nat.le_of_ble_eq_true rfl⟩ rfl rfl (Nat.le_of_ble_eq_true rfl) ⟨Nat.le_of_ble_eq_true rfl, Nat.le_of_ble_eq_true rfl⟩ dX8_writes_16 (fun H locs hG hS => ?_)
    refine lv_istore (lv' := [(4, .int r5.1), (0, .ref x0), (2, .int x2), (3, .int x3)]) hx hb dX8_writes_19 hl (by decide) rfl (fun ls hl => ?_)
    refine lv_aload_n hx hb dX8_writes_21 rfl (lv_at hl 1 rfl) ?_
    refine lv_iload hx hb dX8_writes_22 (lv_at hl 0 rfl) ?_
    refine lv_bipush (v := 10) hx hb dX8_writes_24 (by decide +kernel) ?_
    refine lv_icmp_ge (tgt := 37) hx hb dX8_writes_26 (by decide) (fun c6 => ?_) (fun c6 => ?_)
    · rw [if_pos c6] at hf
      refine lv_bipush (v := 87) hx hb dX8_writes_37 (by decide +kernel) ?_
      refine lv_iload hx hb dX8_writes_39 (lv_at hl 0 rfl) ?_
      refine lv_iadd hx hb dX8_writes_41 ?_
      exact tBX8_writes_42 C hK (LX8_writes_12  n) hk12  _ _ _ _ _ _ _ _ _ hG hS (lv_sub hl [1, 2, 3] rfl) hf
    · rw [if_neg c6] at hf
      refine lv_bipush (v := 48) hx hb dX8_writes_29 (by decide +kernel) ?_
      refine lv_iload hx hb dX8_writes_31 (lv_at hl 0 rfl) ?_
      refine lv_iadd hx hb dX8_writes_33 ?_
      refine lv_goto (tgt := 42) hx hb dX8_writes_34 (by decide) ?_
      exact tBX8_writes_42 C hK (LX8_writes_12  n) hk12  _ _ _ _ _ _ _ _ _ hG hS (lv_sub hl [1, 2, 3] rfl) hf

set_option maxHeartbeats 4000000 in
set_option maxRecDepth 100000 in
theorem tX8_writes (l : Launch) (D : g_D) {σ : g_S} {x0 : Nat} {x1 : Int32} {x2 : Int32} {out : g_S} (hf : fX8_writes σ x0 x1 x2 = some out) : Met l yX8_writes (Cond.code yX8_writes cX8_writes 6 none :: lw_g) rmX8_writes (g_P D σ [.ref x0, .int x1, .int x2]) (g_Q D out (none)) 0 0 (g_A D) := by
  refine Met.ofW (cc := cX8_writes) (maxL := 6) (ret := none) (by decide +kernel) rfl ?_
  intro p e s m args below meth c s₁ B hml hv
  obtain ⟨rfl, hG, hK⟩ := hv
  have hts : ∀ w ∈ lw_g, w.before _ s = true := fun w h => atoms_spec (ws := (Cond.code yX8_writes cX8_writes 6 none :: lw_g)) B.pre w (List.mem_cons_of_mem _ h)
  have C : g_C RX8 cX8_writes 6 none True p s m _ meth c := ⟨B.exec, B.bytes, hml, findClass_of_methodNamed B.named, hts, B.returns, B.notSynchronized, trivial⟩
  obtain ⟨hx, hb, hml, hown, hts, hr, hlocks, hin⟩ := id C
  have hS : va_S (g_A D) s.heap s.heap [] := va_S.rf
  have hl := lv_entry ([.ref x0, .int x1, .int x2]) (n := 6) (Nat.le_of_ble_eq_true rfl)
  rw [lg_entry_eq]
  generalize (lg_sl ([.ref x0, .int x1, .int x2]) ++ List.replicate (6 - (lg_sl ([.ref x0, .int x1, .int x2])).length) Slot.unset).toArray = ls at hl ⊢
  have hl : lv_has ls 6 [(0, .ref x0), (1, .int x1), (2, .int x2)] := hl
  unfold fX8_writes at hf
  refine lv_aload_n hx hb dX8_writes_0 rfl (lv_at hl 0 rfl) ?_
  refine lv_iload_n hx hb dX8_writes_1 rfl (lv_at hl 1 rfl) ?_
  refine lv_bipush (v := 37) hx hb dX8_writes_2 (by decide +kernel) ?_
  obtain ⟨o1, ho1, hf⟩ := g_bind hf
  obtain ⟨r2, hr2, hf⟩ := g_bind hf
  refine g_callV hx hb hml hl.1 hts hown hK hG hS (As := [.int x1, .int 37]) (rest := []) (tX8_copy l D hr2) vX8_copy mlX8_51 ho1 rfl rfl rfl rfl ⟨Nat.le_of_ble_eq_true rfl, Nat.le_of_ble_eq_true rfl⟩ rfl rfl (Nat.le_of_ble_eq_true rfl) ⟨Nat.le_of_ble_eq_true rfl, Nat.le_of_ble_eq_true rfl⟩ dX8_writes_4 (fun H locs hG hS => ?_)
  refine lv_aload_n hx hb dX8_writes_7 rfl (lv_at hl 0 rfl) ?_
  obtain ⟨v3, hv3, hf⟩ := g_bind hf
  refine g_geti hx hb hts hown hK hG hv3 rfl iX8 (by decide) flX8_158 dX8_writes_8 ?_
  refine lv_istore_n (lv' := [(3, .int v3), (0, .ref x0), (1, .int x1), (2, .int x2)]) hx hb dX8_writes_11 rfl hl (by decide) rfl (fun ls hl => ?_)
  exact tLX8_writes_12 C hK  g_fuel _ _ _ _ _ _ _ hG hS (lv_sub hl [1, 3, 0] rfl) hf

def rmX8_write : Room := { frames := 3, cells := 0, slots := 0, locals := 75 }
noncomputable def BX8_write_23  (σ : g_S)  : Option (Int32 × g_S) := some ((-1), σ)
noncomputable def BX8_write_77  (σ : g_S) (x0 : Nat) : Option (Int32 × g_S) := (g_fi σ 8 x0 7).bind fun v15 => some (v15, σ)
noncomputable def BX8_write_45  (σ : g_S) (x0 : Nat) (x1 : Int32) (x2 : Int32) : Option (Int32 × g_S) := (g_o σ 8 x0).bind fun o10 => (fX8_writes σ x0 (2 * x1) x2).bind fun r11 => (g_o r11 8 x0).bind fun o12 => (fX8_isWhole r11 x0 x1).bind fun r13 => if r13.1 = 0 then ((g_o r13.2 8 x0).bind fun o16 => (fX8_character r13.2 x0 47).bind fun r17 => (g_o r17 8 x0).bind fun o18 => (fX8_writes r17 x0 ((2 * x1) + 1) x2).bind fun r19 => BX8_write_77 r19 x0) else (BX8_write_77 r13.2 x0)
noncomputable def fX8_write (σ : g_S) (x0 : Nat) (x1 : Int32) (x2 : Int32) : Option (Int32 × g_S) := (g_p σ 8 x0 0 (.int 0)).bind fun σ1 => (fX8_isPlace σ1 x1).bind fun r2 => if r2.1 = 0 then (BX8_write_23 r2.2) else (if x2 < 2 then (BX8_write_23 r2.2) else (if x2 ≤ 36 then ((g_p r2.2 8 x0 7 (.int 0)).bind fun σ6 => (g_fr σ6 8 x0 3).bind fun v7 => (g_li σ6 5 v7 x1).bind fun v8 => if v8 = 0 then (BX8_write_45 σ6 x0 x1 x2) else ((g_o σ6 8 x0).bind fun o20 => (fX8_character σ6 x0 45).bind fun r21 => BX8_write_45 r21 x0 x1 x2)) else (BX8_write_23 r2.2)))
set_option maxHeartbeats 4000000 in
set_option maxRecDepth 100000 in
theorem tBX8_write_23 {p : Program} {l : Launch} {e : Env} {s : State} {m : MethodId} {args : Array Value} {below : List Frame} {meth : Method} {c : Code} {D : g_D} {out : Int32 × g_S} (C : g_C RX8 cX8_write 3 (some .int) True p s m args meth c) (hK : g_K D s)  : ∀ (σ : g_S)  (H : Heap) (locs : List Loc) (ls : Array Slot), g_H D σ H → va_S (g_A D) s.heap H locs → lv_has ls 3 [] → BX8_write_23  σ  = some out → W p l e rmX8_write s m args below meth c H locs 0 0 (MQ below (g_Q D out.2 (some (.int out.1))) args s 0 0 (g_A D)) (F0 m 23 ls []) := by
  obtain ⟨hx, hb, hml, hown, hts, hr, hlocks, hin⟩ := id C
  intro σ  H locs ls hG hS hl hf
  unfold BX8_write_23 at hf
  refine lv_iconst (v := (-1)) hx hb dX8_write_23 (by decide +kernel) ?_
  cases hf
  exact g_iret hx hb hr hlocks hG hS dX8_write_24

set_option maxHeartbeats 4000000 in
set_option maxRecDepth 100000 in
theorem tBX8_write_77 {p : Program} {l : Launch} {e : Env} {s : State} {m : MethodId} {args : Array Value} {below : List Frame} {meth : Method} {c : Code} {D : g_D} {out : Int32 × g_S} (C : g_C RX8 cX8_write 3 (some .int) True p s m args meth c) (hK : g_K D s)  : ∀ (σ : g_S) (x0 : Nat) (H : Heap) (locs : List Loc) (ls : Array Slot), g_H D σ H → va_S (g_A D) s.heap H locs → lv_has ls 3 [(0, .ref x0)] → BX8_write_77  σ x0 = some out → W p l e rmX8_write s m args below meth c H locs 0 0 (MQ below (g_Q D out.2 (some (.int out.1))) args s 0 0 (g_A D)) (F0 m 77 ls []) := by
  obtain ⟨hx, hb, hml, hown, hts, hr, hlocks, hin⟩ := id C
  intro σ x0 H locs ls hG hS hl hf
  unfold BX8_write_77 at hf
  refine lv_aload_n hx hb dX8_write_77 rfl (lv_at hl 0 rfl) ?_
  obtain ⟨v15, hv15, hf⟩ := g_bind hf
  refine g_geti hx hb hts hown hK hG hv15 rfl iX8 (by decide) flX8_158 dX8_write_78 ?_
  cases hf
  exact g_iret hx hb hr hlocks hG hS dX8_write_81

set_option maxHeartbeats 4000000 in
set_option maxRecDepth 100000 in
theorem tBX8_write_45 {p : Program} {l : Launch} {e : Env} {s : State} {m : MethodId} {args : Array Value} {below : List Frame} {meth : Method} {c : Code} {D : g_D} {out : Int32 × g_S} (C : g_C RX8 cX8_write 3 (some .int) True p s m args meth c) (hK : g_K D s)  : ∀ (σ : g_S) (x0 : Nat) (x1 : Int32) (x2 : Int32) (H : Heap) (locs : List Loc) (ls : Array Slot), g_H D σ H → va_S (g_A D) s.heap H locs → lv_has ls 3 [(0, .ref x0), (1, .int x1), (2, .int x2)] → BX8_write_45  σ x0 x1 x2 = some out → W p l e rmX8_write s m args below meth c H locs 0 0 (MQ below (g_Q D out.2 (some (.int out.1))) args s 0 0 (g_A D)) (F0 m 45 ls []) := by
  obtain ⟨hx, hb, hml, hown, hts, hr, hlocks, hin⟩ := id C
  intro σ x0 x1 x2 H locs ls hG hS hl hf
  unfold BX8_write_45 at hf
  refine lv_aload_n hx hb dX8_write_45 rfl (lv_at hl 0 rfl) ?_
  refine lv_iconst (v := 2) hx hb dX8_write_46 (by decide +kernel) ?_
  refine lv_iload_n hx hb dX8_write_47 rfl (lv_at hl 1 rfl) ?_
  refine lv_imul hx hb dX8_write_48 ?_
  refine lv_iload_n hx hb dX8_write_49 rfl (lv_at hl 2 rfl) ?_
  obtain ⟨o10, ho10, hf⟩ := g_bind hf
  obtain ⟨r11, hr11, hf⟩ := g_bind hf
  refine g_callV hx hb hml hl.1 hts hown hK hG hS (As := [.int (2 * x1), .int x2]) (rest := []) (tX8_writes l D hr11) vX8_writes mlX8_164 ho10 rfl rfl rfl rfl ⟨Nat.le_of_ble_eq_true rfl, Nat.le_of_ble_eq_true rfl⟩ rfl rfl (Nat.le_of_ble_eq_true rfl) ⟨Nat.le_of_ble_eq_true rfl, Nat.le_of_ble_eq_true rfl⟩ dX8_write_50 (fun H locs hG hS => ?_)
  refine lv_aload_n hx hb dX8_write_53 rfl (lv_at hl 0 rfl) ?_
  refine lv_iload_n hx hb dX8_write_54 rfl (lv_at hl 1 rfl) ?_
  obtain ⟨o12, ho12, hf⟩ := g_bind hf
  obtain ⟨r13, hr13, hf⟩ := g_bind hf
  refine g_callV hx hb hml hl.1 hts hown hK hG hS (As := [.int x1]) (rest := []) (tX8_isWhole l D hr13) vX8_isWhole mlX8_127 ho12 rfl rfl rfl rfl ⟨Nat.le_of_ble_eq_true rfl, Nat.le_of_ble_eq_true rfl⟩ rfl rfl (Nat.le_of_ble_eq_true rfl) ⟨Nat.le_of_ble_eq_true rfl, Nat.le_of_ble_eq_true rfl⟩ dX8_write_55 (fun H locs hG hS => ?_)
  refine lv_if_ne (tgt := 77) hx hb dX8_write_58 (by decide) (fun c14 => ?_) (fun c14 => ?_)
  · rw [if_neg c14] at hf
    exact tBX8_write_77 C hK   _ _ _ _ _ hG hS (lv_sub hl [0] rfl) hf
  · rw [if_pos c14] at hf
    refine lv_aload_n hx hb dX8_write_61 rfl (lv_at hl 0 rfl) ?_
    refine lv_bipush (v := 47) hx hb dX8_write_62 (by decide +kernel) ?_
    obtain ⟨o16, ho16, hf⟩ := g_bind hf
    obtain ⟨r17, hr17, hf⟩ := g_bind hf
    refine g_callV hx hb hml hl.1 hts hown hK hG hS (As := [.int 47]) (rest := []) (tX8_character l D hr17) vX8_character mlX8_161 ho16 rfl rfl rfl rfl ⟨Nat.le_of_ble_eq_true rfl, Nat.le_of_ble_eq_true rfl⟩ rfl rfl (Nat.le_of_ble_eq_true rfl) ⟨Nat.le_of_ble_eq_true rfl, Nat.le_of_ble_eq_true rfl⟩ dX8_write_64 (fun H locs hG hS => ?_)
    refine lv_aload_n hx hb dX8_write_67 rfl (lv_at hl 0 rfl) ?_
    refine lv_iconst (v := 2) hx hb dX8_write_68 (by decide +kernel) ?_
    refine lv_iload_n hx hb dX8_write_69 rfl (lv_at hl 1 rfl) ?_
    refine lv_imul hx hb dX8_write_70 ?_
    refine lv_iconst (v := 1) hx hb dX8_write_71 (by decide +kernel) ?_
    refine lv_iadd hx hb dX8_write_72 ?_
    refine lv_iload_n hx hb dX8_write_73 rfl (lv_at hl 2 rfl) ?_
    obtain ⟨o18, ho18, hf⟩ := g_bind hf
    obtain ⟨r19, hr19, hf⟩ := g_bind hf
    refine g_callV hx hb hml hl.1 hts hown hK hG hS (As := [.int ((2 * x1) + 1), .int x2]) (rest := []) (tX8_writes l D hr19) vX8_writes mlX8_164 ho18 rfl rfl rfl rfl ⟨Nat.le_of_ble_eq_true rfl, Nat.le_of_ble_eq_true rfl⟩ rfl rfl (Nat.le_of_ble_eq_true rfl) ⟨Nat.le_of_ble_eq_true rfl, Nat.le_of_ble_eq_true rfl⟩ dX8_write_74 (fun H locs hG hS => ?_)
    exact tBX8_write_77 C hK   _ _ _ _ _ hG hS (lv_sub hl [0] rfl) hf

set_option maxHeartbeats 4000000 in
set_option maxRecDepth 100000 in
theorem tX8_write (l : Launch) (D : g_D) {σ : g_S} {x0 : Nat} {x1 : Int32} {x2 : Int32} {out : Int32 × g_S} (hf : fX8_write σ x0 x1 x2 = some out) : Met l yX8_write (Cond.code yX8_write cX8_write 3 (some .int) :: lw_g) rmX8_write (g_P D σ [.ref x0, .int x1, .int x2]) (g_Q D out.2 (some (.int out.1))) 0 0 (g_A D) := by
  refine Met.ofW (cc := cX8_write) (maxL := 3) (ret := (some .int)) (by decide +kernel) rfl ?_
  intro p e s m args below meth c s₁ B hml hv
  obtain ⟨rfl, hG, hK⟩ := hv
  have hts : ∀ w ∈ lw_g, w.before _ s = true := fun w h => atoms_spec (ws := (Cond.code yX8_write cX8_write 3 (some .int) :: lw_g)) B.pre w (List.mem_cons_of_mem _ h)
  have C : g_C RX8 cX8_write 3 (some .int) True p s m _ meth c := ⟨B.exec, B.bytes, hml, findClass_of_methodNamed B.named, hts, B.returns, B.notSynchronized, trivial⟩
  obtain ⟨hx, hb, hml, hown, hts, hr, hlocks, hin⟩ := id C
  have hS : va_S (g_A D) s.heap s.heap [] := va_S.rf
  have hl := lv_entry ([.ref x0, .int x1, .int x2]) (n := 3) (Nat.le_of_ble_eq_true rfl)
  rw [lg_entry_eq]
  generalize (lg_sl ([.ref x0, .int x1, .int x2]) ++ List.replicate (3 - (lg_sl ([.ref x0, .int x1, .int x2])).length) Slot.unset).toArray = ls at hl ⊢
  have hl : lv_has ls 3 [(0, .ref x0), (1, .int x1), (2, .int x2)] := hl
  unfold fX8_write at hf
  refine lv_aload_n hx hb dX8_write_0 rfl (lv_at hl 0 rfl) ?_
  refine lv_iconst (v := 0) hx hb dX8_write_1 (by decide +kernel) ?_
  obtain ⟨σ1, hσ1, hf⟩ := g_bind hf
  refine g_put hx hb hts hown hK hG hS hσ1 rfl iX8 tyX8 tyX8_ok nmX8 (by decide) flX8_30 rfl rfl rfl dX8_write_2 (fun H locs hG hS => ?_)
  refine lv_iload_n hx hb dX8_write_5 rfl (lv_at hl 1 rfl) ?_
  obtain ⟨r2, hr2, hf⟩ := g_bind hf
  refine g_callS hx hb hml hl.1 hts hown hK hG hS (As := [.int x1]) (rest := []) (tX8_isPlace l D hr2) vX8_isPlace mlX8_98 rfl rfl ⟨Nat.le_of_ble_eq_true rfl, Nat.le_of_ble_eq_true rfl⟩ rfl rfl (Nat.le_of_ble_eq_true rfl) ⟨Nat.le_of_ble_eq_true rfl, Nat.le_of_ble_eq_true rfl⟩ dX8_write_6 (fun H locs hG hS => ?_)
  refine lv_if_eq (tgt := 23) hx hb dX8_write_9 (by decide) (fun c3 => ?_) (fun c3 => ?_)
  · rw [if_pos c3] at hf
    exact tBX8_write_23 C hK   _  _ _ _ hG hS (lv_sub hl [] rfl) hf
  · rw [if_neg c3] at hf
    refine lv_iload_n hx hb dX8_write_12 rfl (lv_at hl 2 rfl) ?_
    refine lv_iconst (v := 2) hx hb dX8_write_13 (by decide +kernel) ?_
    refine lv_icmp_lt (tgt := 23) hx hb dX8_write_14 (by decide) (fun c4 => ?_) (fun c4 => ?_)
    · rw [if_pos c4] at hf
      exact tBX8_write_23 C hK   _  _ _ _ hG hS (lv_sub hl [] rfl) hf
    · rw [if_neg c4] at hf
      refine lv_iload_n hx hb dX8_write_17 rfl (lv_at hl 2 rfl) ?_
      refine lv_bipush (v := 36) hx hb dX8_write_18 (by decide +kernel) ?_
      refine lv_icmp_le (tgt := 25) hx hb dX8_write_20 (by decide) (fun c5 => ?_) (fun c5 => ?_)
      · rw [if_pos c5] at hf
        refine lv_aload_n hx hb dX8_write_25 rfl (lv_at hl 0 rfl) ?_
        refine lv_iconst (v := 0) hx hb dX8_write_26 (by decide +kernel) ?_
        obtain ⟨σ6, hσ6, hf⟩ := g_bind hf
        refine g_put hx hb hts hown hK hG hS hσ6 rfl iX8 tyX8 tyX8_ok nmX8 (by decide) flX8_158 rfl rfl rfl dX8_write_27 (fun H locs hG hS => ?_)
        refine lv_aload_n hx hb dX8_write_30 rfl (lv_at hl 0 rfl) ?_
        obtain ⟨v7, hv7, hf⟩ := g_bind hf
        refine g_getr hx hb hts hown hK hG hv7 rfl iX8 (by decide) flX8_16 dX8_write_31 ?_
        refine lv_iload_n hx hb dX8_write_34 rfl (lv_at hl 1 rfl) ?_
        obtain ⟨v8, hv8, hf⟩ := g_bind hf
        refine g_zald hx hb hK hG hv8 rfl dX8_write_35 ?_
        refine lv_if_eq (tgt := 45) hx hb dX8_write_36 (by decide) (fun c9 => ?_) (fun c9 => ?_)
        · rw [if_pos c9] at hf
          exact tBX8_write_45 C hK   _ _ _ _ _ _ _ hG hS (lv_sub hl [0, 1, 2] rfl) hf
        · rw [if_neg c9] at hf
          refine lv_aload_n hx hb dX8_write_39 rfl (lv_at hl 0 rfl) ?_
          refine lv_bipush (v := 45) hx hb dX8_write_40 (by decide +kernel) ?_
          obtain ⟨o20, ho20, hf⟩ := g_bind hf
          obtain ⟨r21, hr21, hf⟩ := g_bind hf
          refine g_callV hx hb hml hl.1 hts hown hK hG hS (As := [.int 45]) (rest := []) (tX8_character l D hr21) vX8_character mlX8_161 ho20 rfl rfl rfl rfl ⟨Nat.le_of_ble_eq_true rfl, Nat.le_of_ble_eq_true rfl⟩ rfl rfl (Nat.le_of_ble_eq_true rfl) ⟨Nat.le_of_ble_eq_true rfl, Nat.le_of_ble_eq_true rfl⟩ dX8_write_42 (fun H locs hG hS => ?_)
          exact tBX8_write_45 C hK   _ _ _ _ _ _ _ hG hS (lv_sub hl [0, 1, 2] rfl) hf
      · rw [if_neg c5] at hf
        exact tBX8_write_23 C hK   _  _ _ _ hG hS (lv_sub hl [] rfl) hf

def rmX8_textAt : Room := { frames := 0, cells := 0, slots := 0, locals := 0 }
noncomputable def BX8_textAt_38  (σ : g_S) (y0 : Int32) : Option (Int32 × g_S) := some (y0, σ)
noncomputable def BX8_textAt_18  (σ : g_S) (x0 : Nat) (x1 : Int32) (y0 : Nat) (y1 : Int32) : Option (Int32 × g_S) := (g_p σ 8 y0 0 (.int y1)).bind fun σ2 => (g_fi σ2 8 x0 0).bind fun v3 => if v3 = 0 then ((g_fr σ2 8 x0 6).bind fun v5 => (g_li σ2 0 v5 x1).bind fun v6 => BX8_textAt_38 σ2 v6) else (BX8_textAt_38 σ2 0)
noncomputable def BX8_textAt_13  (σ : g_S) (x0 : Nat) (x1 : Int32) (y0 : Nat) : Option (Int32 × g_S) := BX8_textAt_18 σ x0 x1 y0 1
noncomputable def fX8_textAt (σ : g_S) (x0 : Nat) (x1 : Int32) : Option (Int32 × g_S) := if x1 < 0 then (BX8_textAt_13 σ x0 x1 x0) else ((g_fi σ 8 x0 7).bind fun v7 => if x1 < v7 then (BX8_textAt_18 σ x0 x1 x0 0) else (BX8_textAt_13 σ x0 x1 x0))
set_option maxHeartbeats 4000000 in
set_option maxRecDepth 100000 in
theorem tBX8_textAt_38 {p : Program} {l : Launch} {e : Env} {s : State} {m : MethodId} {args : Array Value} {below : List Frame} {meth : Method} {c : Code} {D : g_D} {out : Int32 × g_S} (C : g_C RX8 cX8_textAt 2 (some .int) True p s m args meth c) (hK : g_K D s)  : ∀ (σ : g_S) (y0 : Int32) (H : Heap) (locs : List Loc) (ls : Array Slot), g_H D σ H → va_S (g_A D) s.heap H locs → lv_has ls 2 [] → BX8_textAt_38  σ y0 = some out → W p l e rmX8_textAt s m args below meth c H locs 0 0 (MQ below (g_Q D out.2 (some (.int out.1))) args s 0 0 (g_A D)) (F0 m 38 ls [.int y0]) := by
  obtain ⟨hx, hb, hml, hown, hts, hr, hlocks, hin⟩ := id C
  intro σ y0 H locs ls hG hS hl hf
  unfold BX8_textAt_38 at hf
  cases hf
  exact g_iret hx hb hr hlocks hG hS dX8_textAt_38

set_option maxHeartbeats 4000000 in
set_option maxRecDepth 100000 in
theorem tBX8_textAt_18 {p : Program} {l : Launch} {e : Env} {s : State} {m : MethodId} {args : Array Value} {below : List Frame} {meth : Method} {c : Code} {D : g_D} {out : Int32 × g_S} (C : g_C RX8 cX8_textAt 2 (some .int) True p s m args meth c) (hK : g_K D s)  : ∀ (σ : g_S) (x0 : Nat) (x1 : Int32) (y0 : Nat) (y1 : Int32) (H : Heap) (locs : List Loc) (ls : Array Slot), g_H D σ H → va_S (g_A D) s.heap H locs → lv_has ls 2 [(0, .ref x0), (1, .int x1)] → BX8_textAt_18  σ x0 x1 y0 y1 = some out → W p l e rmX8_textAt s m args below meth c H locs 0 0 (MQ below (g_Q D out.2 (some (.int out.1))) args s 0 0 (g_A D)) (F0 m 18 ls [.int y1, .ref y0]) := by
  obtain ⟨hx, hb, hml, hown, hts, hr, hlocks, hin⟩ := id C
  intro σ x0 x1 y0 y1 H locs ls hG hS hl hf
  unfold BX8_textAt_18 at hf
  obtain ⟨σ2, hσ2, hf⟩ := g_bind hf
  refine g_put hx hb hts hown hK hG hS hσ2 rfl iX8 tyX8 tyX8_ok nmX8 (by decide) flX8_30 rfl rfl rfl dX8_textAt_18 (fun H locs hG hS => ?_)
  refine lv_aload_n hx hb dX8_textAt_21 rfl (lv_at hl 0 rfl) ?_
  obtain ⟨v3, hv3, hf⟩ := g_bind hf
  refine g_geti hx hb hts hown hK hG hv3 rfl iX8 (by decide) flX8_30 dX8_textAt_22 ?_
  refine lv_if_ne (tgt := 37) hx hb dX8_textAt_25 (by decide) (fun c4 => ?_) (fun c4 => ?_)
  · rw [if_neg c4] at hf
    refine lv_iconst (v := 0) hx hb dX8_textAt_37 (by decide +kernel) ?_
    exact tBX8_textAt_38 C hK   _ _ _ _ _ hG hS (lv_sub hl [] rfl) hf
  · rw [if_pos c4] at hf
    refine lv_aload_n hx hb dX8_textAt_28 rfl (lv_at hl 0 rfl) ?_
    obtain ⟨v5, hv5, hf⟩ := g_bind hf
    refine g_getr hx hb hts hown hK hG hv5 rfl iX8 (by decide) flX8_23 dX8_textAt_29 ?_
    refine lv_iload_n hx hb dX8_textAt_32 rfl (lv_at hl 1 rfl) ?_
    obtain ⟨v6, hv6, hf⟩ := g_bind hf
    refine g_iald hx hb hK hG hv6 rfl dX8_textAt_33 ?_
    refine lv_goto (tgt := 38) hx hb dX8_textAt_34 (by decide) ?_
    exact tBX8_textAt_38 C hK   _ _ _ _ _ hG hS (lv_sub hl [] rfl) hf

set_option maxHeartbeats 4000000 in
set_option maxRecDepth 100000 in
theorem tBX8_textAt_13 {p : Program} {l : Launch} {e : Env} {s : State} {m : MethodId} {args : Array Value} {below : List Frame} {meth : Method} {c : Code} {D : g_D} {out : Int32 × g_S} (C : g_C RX8 cX8_textAt 2 (some .int) True p s m args meth c) (hK : g_K D s)  : ∀ (σ : g_S) (x0 : Nat) (x1 : Int32) (y0 : Nat) (H : Heap) (locs : List Loc) (ls : Array Slot), g_H D σ H → va_S (g_A D) s.heap H locs → lv_has ls 2 [(0, .ref x0), (1, .int x1)] → BX8_textAt_13  σ x0 x1 y0 = some out → W p l e rmX8_textAt s m args below meth c H locs 0 0 (MQ below (g_Q D out.2 (some (.int out.1))) args s 0 0 (g_A D)) (F0 m 13 ls [.ref y0]) := by
  obtain ⟨hx, hb, hml, hown, hts, hr, hlocks, hin⟩ := id C
  intro σ x0 x1 y0 H locs ls hG hS hl hf
  unfold BX8_textAt_13 at hf
  refine lv_iconst (v := 1) hx hb dX8_textAt_13 (by decide +kernel) ?_
  refine lv_goto (tgt := 18) hx hb dX8_textAt_14 (by decide) ?_
  exact tBX8_textAt_18 C hK   _ _ _ _ _ _ _ _ hG hS (lv_sub hl [0, 1] rfl) hf

set_option maxHeartbeats 4000000 in
set_option maxRecDepth 100000 in
theorem tX8_textAt (l : Launch) (D : g_D) {σ : g_S} {x0 : Nat} {x1 : Int32} {out : Int32 × g_S} (hf : fX8_textAt σ x0 x1 = some out) : Met l yX8_textAt (Cond.code yX8_textAt cX8_textAt 2 (some .int) :: lw_g) rmX8_textAt (g_P D σ [.ref x0, .int x1]) (g_Q D out.2 (some (.int out.1))) 0 0 (g_A D) := by
  refine Met.ofW (cc := cX8_textAt) (maxL := 2) (ret := (some .int)) (by decide +kernel) rfl ?_
  intro p e s m args below meth c s₁ B hml hv
  obtain ⟨rfl, hG, hK⟩ := hv
  have hts : ∀ w ∈ lw_g, w.before _ s = true := fun w h => atoms_spec (ws := (Cond.code yX8_textAt cX8_textAt 2 (some .int) :: lw_g)) B.pre w (List.mem_cons_of_mem _ h)
  have C : g_C RX8 cX8_textAt 2 (some .int) True p s m _ meth c := ⟨B.exec, B.bytes, hml, findClass_of_methodNamed B.named, hts, B.returns, B.notSynchronized, trivial⟩
  obtain ⟨hx, hb, hml, hown, hts, hr, hlocks, hin⟩ := id C
  have hS : va_S (g_A D) s.heap s.heap [] := va_S.rf
  have hl := lv_entry ([.ref x0, .int x1]) (n := 2) (Nat.le_of_ble_eq_true rfl)
  rw [lg_entry_eq]
  generalize (lg_sl ([.ref x0, .int x1]) ++ List.replicate (2 - (lg_sl ([.ref x0, .int x1])).length) Slot.unset).toArray = ls at hl ⊢
  have hl : lv_has ls 2 [(0, .ref x0), (1, .int x1)] := hl
  unfold fX8_textAt at hf
  refine lv_aload_n hx hb dX8_textAt_0 rfl (lv_at hl 0 rfl) ?_
  refine lv_iload_n hx hb dX8_textAt_1 rfl (lv_at hl 1 rfl) ?_
  refine lv_if_lt (tgt := 13) hx hb dX8_textAt_2 (by decide) (fun c1 => ?_) (fun c1 => ?_)
  · rw [if_pos c1] at hf
    exact tBX8_textAt_13 C hK   _ _ _ _ _ _ _ hG hS (lv_sub hl [0, 1] rfl) hf
  · rw [if_neg c1] at hf
    refine lv_iload_n hx hb dX8_textAt_5 rfl (lv_at hl 1 rfl) ?_
    refine lv_aload_n hx hb dX8_textAt_6 rfl (lv_at hl 0 rfl) ?_
    obtain ⟨v7, hv7, hf⟩ := g_bind hf
    refine g_geti hx hb hts hown hK hG hv7 rfl iX8 (by decide) flX8_158 dX8_textAt_7 ?_
    refine lv_icmp_lt (tgt := 17) hx hb dX8_textAt_10 (by decide) (fun c8 => ?_) (fun c8 => ?_)
    · rw [if_pos c8] at hf
      refine lv_iconst (v := 0) hx hb dX8_textAt_17 (by decide +kernel) ?_
      exact tBX8_textAt_18 C hK   _ _ _ _ _ _ _ _ hG hS (lv_sub hl [0, 1] rfl) hf
    · rw [if_neg c8] at hf
      exact tBX8_textAt_13 C hK   _ _ _ _ _ _ _ hG hS (lv_sub hl [0, 1] rfl) hf

def rmX8_bits : Room := { frames := 2, cells := 0, slots := 0, locals := 46 }
noncomputable def BX8_bits_23  (σ : g_S) (y0 : Int32) : Option (Int32 × g_S) := some (y0, σ)
noncomputable def fX8_bits (σ : g_S) (x0 : Nat) (x1 : Int32) : Option (Int32 × g_S) := (g_p σ 8 x0 0 (.int 0)).bind fun σ1 => (fX8_isPlace σ1 x1).bind fun r2 => if r2.1 = 0 then (BX8_bits_23 r2.2 (-1)) else ((g_o r2.2 8 x0).bind fun o4 => (fX8_bitsOf r2.2 x0 (2 * x1)).bind fun r5 => BX8_bits_23 r5.2 r5.1)
set_option maxHeartbeats 4000000 in
set_option maxRecDepth 100000 in
theorem tBX8_bits_23 {p : Program} {l : Launch} {e : Env} {s : State} {m : MethodId} {args : Array Value} {below : List Frame} {meth : Method} {c : Code} {D : g_D} {out : Int32 × g_S} (C : g_C RX8 cX8_bits 2 (some .int) True p s m args meth c) (hK : g_K D s)  : ∀ (σ : g_S) (y0 : Int32) (H : Heap) (locs : List Loc) (ls : Array Slot), g_H D σ H → va_S (g_A D) s.heap H locs → lv_has ls 2 [] → BX8_bits_23  σ y0 = some out → W p l e rmX8_bits s m args below meth c H locs 0 0 (MQ below (g_Q D out.2 (some (.int out.1))) args s 0 0 (g_A D)) (F0 m 23 ls [.int y0]) := by
  obtain ⟨hx, hb, hml, hown, hts, hr, hlocks, hin⟩ := id C
  intro σ y0 H locs ls hG hS hl hf
  unfold BX8_bits_23 at hf
  cases hf
  exact g_iret hx hb hr hlocks hG hS dX8_bits_23

set_option maxHeartbeats 4000000 in
set_option maxRecDepth 100000 in
theorem tX8_bits (l : Launch) (D : g_D) {σ : g_S} {x0 : Nat} {x1 : Int32} {out : Int32 × g_S} (hf : fX8_bits σ x0 x1 = some out) : Met l yX8_bits (Cond.code yX8_bits cX8_bits 2 (some .int) :: lw_g) rmX8_bits (g_P D σ [.ref x0, .int x1]) (g_Q D out.2 (some (.int out.1))) 0 0 (g_A D) := by
  refine Met.ofW (cc := cX8_bits) (maxL := 2) (ret := (some .int)) (by decide +kernel) rfl ?_
  intro p e s m args below meth c s₁ B hml hv
  obtain ⟨rfl, hG, hK⟩ := hv
  have hts : ∀ w ∈ lw_g, w.before _ s = true := fun w h => atoms_spec (ws := (Cond.code yX8_bits cX8_bits 2 (some .int) :: lw_g)) B.pre w (List.mem_cons_of_mem _ h)
  have C : g_C RX8 cX8_bits 2 (some .int) True p s m _ meth c := ⟨B.exec, B.bytes, hml, findClass_of_methodNamed B.named, hts, B.returns, B.notSynchronized, trivial⟩
  obtain ⟨hx, hb, hml, hown, hts, hr, hlocks, hin⟩ := id C
  have hS : va_S (g_A D) s.heap s.heap [] := va_S.rf
  have hl := lv_entry ([.ref x0, .int x1]) (n := 2) (Nat.le_of_ble_eq_true rfl)
  rw [lg_entry_eq]
  generalize (lg_sl ([.ref x0, .int x1]) ++ List.replicate (2 - (lg_sl ([.ref x0, .int x1])).length) Slot.unset).toArray = ls at hl ⊢
  have hl : lv_has ls 2 [(0, .ref x0), (1, .int x1)] := hl
  unfold fX8_bits at hf
  refine lv_aload_n hx hb dX8_bits_0 rfl (lv_at hl 0 rfl) ?_
  refine lv_iconst (v := 0) hx hb dX8_bits_1 (by decide +kernel) ?_
  obtain ⟨σ1, hσ1, hf⟩ := g_bind hf
  refine g_put hx hb hts hown hK hG hS hσ1 rfl iX8 tyX8 tyX8_ok nmX8 (by decide) flX8_30 rfl rfl rfl dX8_bits_2 (fun H locs hG hS => ?_)
  refine lv_iload_n hx hb dX8_bits_5 rfl (lv_at hl 1 rfl) ?_
  obtain ⟨r2, hr2, hf⟩ := g_bind hf
  refine g_callS hx hb hml hl.1 hts hown hK hG hS (As := [.int x1]) (rest := []) (tX8_isPlace l D hr2) vX8_isPlace mlX8_98 rfl rfl ⟨Nat.le_of_ble_eq_true rfl, Nat.le_of_ble_eq_true rfl⟩ rfl rfl (Nat.le_of_ble_eq_true rfl) ⟨Nat.le_of_ble_eq_true rfl, Nat.le_of_ble_eq_true rfl⟩ dX8_bits_6 (fun H locs hG hS => ?_)
  refine lv_if_eq (tgt := 22) hx hb dX8_bits_9 (by decide) (fun c3 => ?_) (fun c3 => ?_)
  · rw [if_pos c3] at hf
    refine lv_iconst (v := (-1)) hx hb dX8_bits_22 (by decide +kernel) ?_
    exact tBX8_bits_23 C hK   _ _ _ _ _ hG hS (lv_sub hl [] rfl) hf
  · rw [if_neg c3] at hf
    refine lv_aload_n hx hb dX8_bits_12 rfl (lv_at hl 0 rfl) ?_
    refine lv_iconst (v := 2) hx hb dX8_bits_13 (by decide +kernel) ?_
    refine lv_iload_n hx hb dX8_bits_14 rfl (lv_at hl 1 rfl) ?_
    refine lv_imul hx hb dX8_bits_15 ?_
    obtain ⟨o4, ho4, hf⟩ := g_bind hf
    obtain ⟨r5, hr5, hf⟩ := g_bind hf
    refine g_callV hx hb hml hl.1 hts hown hK hG hS (As := [.int (2 * x1)]) (rest := []) (tX8_bitsOf l D hr5) vX8_bitsOf mlX8_121 ho4 rfl rfl rfl rfl ⟨Nat.le_of_ble_eq_true rfl, Nat.le_of_ble_eq_true rfl⟩ rfl rfl (Nat.le_of_ble_eq_true rfl) ⟨Nat.le_of_ble_eq_true rfl, Nat.le_of_ble_eq_true rfl⟩ dX8_bits_16 (fun H locs hG hS => ?_)
    refine lv_goto (tgt := 23) hx hb dX8_bits_19 (by decide) ?_
    exact tBX8_bits_23 C hK   _ _ _ _ _ hG hS (lv_sub hl [] rfl) hf

def rmX8_isInteger : Room := { frames := 2, cells := 0, slots := 0, locals := 42 }
noncomputable def BX8_isInteger_25  (σ : g_S) (y0 : Int32) : Option (Int32 × g_S) := g_if (y0 = 0 ∨ y0 = 1) <| some (y0, σ)
noncomputable def BX8_isInteger_24  (σ : g_S)  : Option (Int32 × g_S) := BX8_isInteger_25 σ 0
noncomputable def fX8_isInteger (σ : g_S) (x0 : Nat) (x1 : Int32) : Option (Int32 × g_S) := (g_p σ 8 x0 0 (.int 0)).bind fun σ1 => (fX8_isPlace σ1 x1).bind fun r2 => if r2.1 = 0 then (BX8_isInteger_24 r2.2) else ((g_o r2.2 8 x0).bind fun o5 => (fX8_isWhole r2.2 x0 x1).bind fun r6 => if r6.1 = 0 then (BX8_isInteger_24 r6.2) else (BX8_isInteger_25 r6.2 1))
set_option maxHeartbeats 4000000 in
set_option maxRecDepth 100000 in
theorem tBX8_isInteger_25 {p : Program} {l : Launch} {e : Env} {s : State} {m : MethodId} {args : Array Value} {below : List Frame} {meth : Method} {c : Code} {D : g_D} {out : Int32 × g_S} (C : g_C RX8 cX8_isInteger 2 (some .boolean) True p s m args meth c) (hK : g_K D s)  : ∀ (σ : g_S) (y0 : Int32) (H : Heap) (locs : List Loc) (ls : Array Slot), g_H D σ H → va_S (g_A D) s.heap H locs → lv_has ls 2 [] → BX8_isInteger_25  σ y0 = some out → W p l e rmX8_isInteger s m args below meth c H locs 0 0 (MQ below (g_Q D out.2 (some (.int out.1))) args s 0 0 (g_A D)) (F0 m 25 ls [.int y0]) := by
  obtain ⟨hx, hb, hml, hown, hts, hr, hlocks, hin⟩ := id C
  intro σ y0 H locs ls hG hS hl hf
  unfold BX8_isInteger_25 at hf
  obtain ⟨z4, hf⟩ := g_if_spec hf
  cases hf
  exact g_zret hx hb hr hlocks z4 hG hS dX8_isInteger_25

set_option maxHeartbeats 4000000 in
set_option maxRecDepth 100000 in
theorem tBX8_isInteger_24 {p : Program} {l : Launch} {e : Env} {s : State} {m : MethodId} {args : Array Value} {below : List Frame} {meth : Method} {c : Code} {D : g_D} {out : Int32 × g_S} (C : g_C RX8 cX8_isInteger 2 (some .boolean) True p s m args meth c) (hK : g_K D s)  : ∀ (σ : g_S)  (H : Heap) (locs : List Loc) (ls : Array Slot), g_H D σ H → va_S (g_A D) s.heap H locs → lv_has ls 2 [] → BX8_isInteger_24  σ  = some out → W p l e rmX8_isInteger s m args below meth c H locs 0 0 (MQ below (g_Q D out.2 (some (.int out.1))) args s 0 0 (g_A D)) (F0 m 24 ls []) := by
  obtain ⟨hx, hb, hml, hown, hts, hr, hlocks, hin⟩ := id C
  intro σ  H locs ls hG hS hl hf
  unfold BX8_isInteger_24 at hf
  refine lv_iconst (v := 0) hx hb dX8_isInteger_24 (by decide +kernel) ?_
  exact tBX8_isInteger_25 C hK   _ _ _ _ _ hG hS (lv_sub hl [] rfl) hf

set_option maxHeartbeats 4000000 in
set_option maxRecDepth 100000 in
theorem tX8_isInteger (l : Launch) (D : g_D) {σ : g_S} {x0 : Nat} {x1 : Int32} {out : Int32 × g_S} (hf : fX8_isInteger σ x0 x1 = some out) : Met l yX8_isInteger (Cond.code yX8_isInteger cX8_isInteger 2 (some .boolean) :: lw_g) rmX8_isInteger (g_P D σ [.ref x0, .int x1]) (g_Q D out.2 (some (.int out.1))) 0 0 (g_A D) := by
  refine Met.ofW (cc := cX8_isInteger) (maxL := 2) (ret := (some .boolean)) (by decide +kernel) rfl ?_
  intro p e s m args below meth c s₁ B hml hv
  obtain ⟨rfl, hG, hK⟩ := hv
  have hts : ∀ w ∈ lw_g, w.before _ s = true := fun w h => atoms_spec (ws := (Cond.code yX8_isInteger cX8_isInteger 2 (some .boolean) :: lw_g)) B.pre w (List.mem_cons_of_mem _ h)
  have C : g_C RX8 cX8_isInteger 2 (some .boolean) True p s m _ meth c := ⟨B.exec, B.bytes, hml, findClass_of_methodNamed B.named, hts, B.returns, B.notSynchronized, trivial⟩
  obtain ⟨hx, hb, hml, hown, hts, hr, hlocks, hin⟩ := id C
  have hS : va_S (g_A D) s.heap s.heap [] := va_S.rf
  have hl := lv_entry ([.ref x0, .int x1]) (n := 2) (Nat.le_of_ble_eq_true rfl)
  rw [lg_entry_eq]
  generalize (lg_sl ([.ref x0, .int x1]) ++ List.replicate (2 - (lg_sl ([.ref x0, .int x1])).length) Slot.unset).toArray = ls at hl ⊢
  have hl : lv_has ls 2 [(0, .ref x0), (1, .int x1)] := hl
  unfold fX8_isInteger at hf
  refine lv_aload_n hx hb dX8_isInteger_0 rfl (lv_at hl 0 rfl) ?_
  refine lv_iconst (v := 0) hx hb dX8_isInteger_1 (by decide +kernel) ?_
  obtain ⟨σ1, hσ1, hf⟩ := g_bind hf
  refine g_put hx hb hts hown hK hG hS hσ1 rfl iX8 tyX8 tyX8_ok nmX8 (by decide) flX8_30 rfl rfl rfl dX8_isInteger_2 (fun H locs hG hS => ?_)
  refine lv_iload_n hx hb dX8_isInteger_5 rfl (lv_at hl 1 rfl) ?_
  obtain ⟨r2, hr2, hf⟩ := g_bind hf
  refine g_callS hx hb hml hl.1 hts hown hK hG hS (As := [.int x1]) (rest := []) (tX8_isPlace l D hr2) vX8_isPlace mlX8_98 rfl rfl ⟨Nat.le_of_ble_eq_true rfl, Nat.le_of_ble_eq_true rfl⟩ rfl rfl (Nat.le_of_ble_eq_true rfl) ⟨Nat.le_of_ble_eq_true rfl, Nat.le_of_ble_eq_true rfl⟩ dX8_isInteger_6 (fun H locs hG hS => ?_)
  refine lv_if_eq (tgt := 24) hx hb dX8_isInteger_9 (by decide) (fun c3 => ?_) (fun c3 => ?_)
  · rw [if_pos c3] at hf
    exact tBX8_isInteger_24 C hK   _  _ _ _ hG hS (lv_sub hl [] rfl) hf
  · rw [if_neg c3] at hf
    refine lv_aload_n hx hb dX8_isInteger_12 rfl (lv_at hl 0 rfl) ?_
    refine lv_iload_n hx hb dX8_isInteger_13 rfl (lv_at hl 1 rfl) ?_
    obtain ⟨o5, ho5, hf⟩ := g_bind hf
    obtain ⟨r6, hr6, hf⟩ := g_bind hf
    refine g_callV hx hb hml hl.1 hts hown hK hG hS (As := [.int x1]) (rest := []) (tX8_isWhole l D hr6) vX8_isWhole mlX8_127 ho5 rfl rfl rfl rfl ⟨Nat.le_of_ble_eq_true rfl, Nat.le_of_ble_eq_true rfl⟩ rfl rfl (Nat.le_of_ble_eq_true rfl) ⟨Nat.le_of_ble_eq_true rfl, Nat.le_of_ble_eq_true rfl⟩ dX8_isInteger_14 (fun H locs hG hS => ?_)
    refine lv_if_eq (tgt := 24) hx hb dX8_isInteger_17 (by decide) (fun c7 => ?_) (fun c7 => ?_)
    · rw [if_pos c7] at hf
      exact tBX8_isInteger_24 C hK   _  _ _ _ hG hS (lv_sub hl [] rfl) hf
    · rw [if_neg c7] at hf
      refine lv_iconst (v := 1) hx hb dX8_isInteger_20 (by decide +kernel) ?_
      refine lv_goto (tgt := 25) hx hb dX8_isInteger_21 (by decide) ?_
      exact tBX8_isInteger_25 C hK   _ _ _ _ _ hG hS (lv_sub hl [] rfl) hf

