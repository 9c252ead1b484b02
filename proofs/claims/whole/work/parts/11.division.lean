def rmX1_init : Room := { frames := 2, cells := 6, slots := 414, locals := 42 }
noncomputable def fX1_init (σ : g_S) (x0 : Nat) : Option (g_S) := g_let σ.2 fun a2 => g_let (g_mk σ (.inr (3, [.null, .int 0]))) fun σ1 => (fX3_init σ1 a2 136).bind fun r3 => (g_p r3 1 x0 0 (.ref a2)).bind fun σ4 => g_let σ4.2 fun a6 => g_let (g_mk σ4 (.inr (3, [.null, .int 0]))) fun σ5 => (fX3_init σ5 a6 136).bind fun r7 => (g_p r7 1 x0 1 (.ref a6)).bind fun σ8 => g_let σ8.2 fun a10 => g_let (g_mk σ8 (.inr (3, [.null, .int 0]))) fun σ9 => (fX3_init σ9 a10 136).bind fun r11 => (g_p r11 1 x0 2 (.ref a10)).bind fun σ12 => some σ12
set_option maxHeartbeats 4000000 in
set_option maxRecDepth 100000 in
theorem tX1_init (l : Launch) (D : g_D) {σ : g_S} {x0 : Nat} {out : g_S} (hf : fX1_init σ x0 = some out) : Met l yX1_init (Cond.code yX1_init cX1_init 1 none :: lw_g) rmX1_init (g_P D σ [.ref x0]) (g_Q D out (none)) 6 414 (g_A D) := by
  refine Met.ofW (cc := cX1_init) (maxL := 1) (ret := none) (by decide +kernel) rfl ?_
  intro p e s m args below meth c s₁ B hml hv
  obtain ⟨rfl, hG, hK⟩ := hv
  have hts : ∀ w ∈ lw_g, w.before _ s = true := fun w h => atoms_spec (ws := (Cond.code yX1_init cX1_init 1 none :: lw_g)) B.pre w (List.mem_cons_of_mem _ h)
  have C : g_C RX1 cX1_init 1 none (meth.name = "<init>") p s m _ meth c := ⟨B.exec, B.bytes, hml, findClass_of_methodNamed B.named, hts, B.returns, B.notSynchronized, (name_of_methodNamed B.named B.method).1⟩
  obtain ⟨hx, hb, hml, hown, hts, hr, hlocks, hin⟩ := id C
  have hS : va_S (g_A D) s.heap s.heap [] := va_S.rf
  have hl := lv_entry ([.ref x0]) (n := 1) (Nat.le_of_ble_eq_true rfl)
  rw [lg_entry_eq]
  generalize (lg_sl ([.ref x0]) ++ List.replicate (1 - (lg_sl ([.ref x0])).length) Slot.unset).toArray = ls at hl ⊢
  have hl : lv_has ls 1 [(0, .ref x0)] := hl
  unfold fX1_init at hf
  refine lv_aload_n hx hb dX1_init_0 rfl (lv_at hl 0 rfl) ?_
  refine W.objInit hx hb hown (hts _ oi_lX1) (hts _ oi_i) (hts _ oi_c) rfl (by rw [hml]; exact hl.1) rfl dX1_init_1 (Nat.le_of_ble_eq_true rfl) (Nat.le_of_ble_eq_true rfl) ?_
  refine W.eq (g2 := F0 m 4 ls []) rfl ?_
  refine lv_aload_n hx hb dX1_init_4 rfl (lv_at hl 0 rfl) ?_
  obtain ⟨a2, ea2, hf⟩ := g_let_spec hf
  obtain ⟨σ1, eσ1, hf⟩ := g_let_spec hf
  refine g_new (fs := [.null, .int 0]) hx hb hts hown hK hG hS (ci := 3) rfl iX3 tyX3 tyX3_ok clX1_9 inX3 itX3 (fun j hj => by rcases (show j = 0 ∨ j = 1 by omega) with rfl | rfl <;> rfl) (Nat.le_of_ble_eq_true rfl) (Nat.le_of_ble_eq_true rfl) dX1_init_5 (fun H hG hS => ?_)
  rw [eσ1] at hG
  rw [ea2]
  refine W.cs (cells' := 1) (slots' := 2) rfl rfl ?_
  refine lv_dup hx hb dX1_init_8 rfl ?_
  refine lv_sipush (v := 136) hx hb dX1_init_9 (by decide +kernel) ?_
  obtain ⟨r3, hr3, hf⟩ := g_bind hf
  refine g_callI hx hb hml hl.1 hts hown hK hG hS (As := [.int 136]) (rest := [.ref a2, .ref x0]) (tX3_init l D hr3) vX3_init mlX1_11 rfl rfl ⟨Nat.le_of_ble_eq_true rfl, Nat.le_of_ble_eq_true rfl⟩ rfl rfl (Nat.le_of_ble_eq_true rfl) ⟨Nat.le_of_ble_eq_true rfl, Nat.le_of_ble_eq_true rfl⟩ dX1_init_12 (fun H locs hG hS => ?_)
  refine W.cs (cells' := 2) (slots' := 138) rfl rfl ?_
  obtain ⟨σ4, hσ4, hf⟩ := g_bind hf
  refine g_putF hx hb hts hown hin hK hG hS hσ4 rfl iX1 tyX1 tyX1_ok nmX1 (by decide) flX1_14 rfl rfl rfl rfl dX1_init_15 (fun H locs hG hS => ?_)
  refine lv_aload_n hx hb dX1_init_18 rfl (lv_at hl 0 rfl) ?_
  obtain ⟨a6, ea6, hf⟩ := g_let_spec hf
  obtain ⟨σ5, eσ5, hf⟩ := g_let_spec hf
  refine g_new (fs := [.null, .int 0]) hx hb hts hown hK hG hS (ci := 3) rfl iX3 tyX3 tyX3_ok clX1_9 inX3 itX3 (fun j hj => by rcases (show j = 0 ∨ j = 1 by omega) with rfl | rfl <;> rfl) (Nat.le_of_ble_eq_true rfl) (Nat.le_of_ble_eq_true rfl) dX1_init_19 (fun H hG hS => ?_)
  rw [eσ5] at hG
  rw [ea6]
  refine W.cs (cells' := 3) (slots' := 140) rfl rfl ?_
  refine lv_dup hx hb dX1_init_22 rfl ?_
  refine lv_sipush (v := 136) hx hb dX1_init_23 (by decide +kernel) ?_
  obtain ⟨r7, hr7, hf⟩ := g_bind hf
  refine g_callI hx hb hml hl.1 hts hown hK hG hS (As := [.int 136]) (rest := [.ref a6, .ref x0]) (tX3_init l D hr7) vX3_init mlX1_11 rfl rfl ⟨Nat.le_of_ble_eq_true rfl, Nat.le_of_ble_eq_true rfl⟩ rfl rfl (Nat.le_of_ble_eq_true rfl) ⟨Nat.le_of_ble_eq_true rfl, Nat.le_of_ble_eq_true rfl⟩ dX1_init_26 (fun H locs hG hS => ?_)
  refine W.cs (cells' := 4) (slots' := 276) rfl rfl ?_
  obtain ⟨σ8, hσ8, hf⟩ := g_bind hf
  refine g_putF hx hb hts hown hin hK hG hS hσ8 rfl iX1 tyX1 tyX1_ok nmX1 (by decide) flX1_20 rfl rfl rfl rfl dX1_init_29 (fun H locs hG hS => ?_)
  refine lv_aload_n hx hb dX1_init_32 rfl (lv_at hl 0 rfl) ?_
  obtain ⟨a10, ea10, hf⟩ := g_let_spec hf
  obtain ⟨σ9, eσ9, hf⟩ := g_let_spec hf
  refine g_new (fs := [.null, .int 0]) hx hb hts hown hK hG hS (ci := 3) rfl iX3 tyX3 tyX3_ok clX1_9 inX3 itX3 (fun j hj => by rcases (show j = 0 ∨ j = 1 by omega) with rfl | rfl <;> rfl) (Nat.le_of_ble_eq_true rfl) (Nat.le_of_ble_eq_true rfl) dX1_init_33 (fun H hG hS => ?_)
  rw [eσ9] at hG
  rw [ea10]
  refine W.cs (cells' := 5) (slots' := 278) rfl rfl ?_
  refine lv_dup hx hb dX1_init_36 rfl ?_
  refine lv_sipush (v := 136) hx hb dX1_init_37 (by decide +kernel) ?_
  obtain ⟨r11, hr11, hf⟩ := g_bind hf
  refine g_callI hx hb hml hl.1 hts hown hK hG hS (As := [.int 136]) (rest := [.ref a10, .ref x0]) (tX3_init l D hr11) vX3_init mlX1_11 rfl rfl ⟨Nat.le_of_ble_eq_true rfl, Nat.le_of_ble_eq_true rfl⟩ rfl rfl (Nat.le_of_ble_eq_true rfl) ⟨Nat.le_of_ble_eq_true rfl, Nat.le_of_ble_eq_true rfl⟩ dX1_init_40 (fun H locs hG hS => ?_)
  refine W.cs (cells' := 6) (slots' := 414) rfl rfl ?_
  obtain ⟨σ12, hσ12, hf⟩ := g_bind hf
  refine g_putF hx hb hts hown hin hK hG hS hσ12 rfl iX1 tyX1 tyX1_ok nmX1 (by decide) flX1_23 rfl rfl rfl rfl dX1_init_43 (fun H locs hG hS => ?_)
  cases hf
  exact g_vret hx hb hr hlocks hG hS dX1_init_46

def rmX1_giveBack : Room := { frames := 0, cells := 0, slots := 0, locals := 0 }
noncomputable def LX1_giveBack_4  : Nat → g_S → Nat → Int32 → Int32 → Int32 → Option (g_S)
  | 0, _, _, _, _, _ => none
  | n + 1, σ, x0, x1, x2, x3 => (g_fr σ 1 x0 2).bind fun v1 => (g_fi σ 3 v1 1).bind fun v2 => if v2 ≤ x3 then (some σ) else ((g_fr σ 1 x0 1).bind fun v4 => (g_fr σ 3 v4 0).bind fun v5 => (g_li σ 0 v5 (x1 + x3)).bind fun v6 => (g_fr σ 1 x0 2).bind fun v7 => (g_fr σ 3 v7 0).bind fun v8 => (g_li σ 0 v8 x3).bind fun v9 => g_let ((v6 + v9) + x2) fun v10 => (g_fr σ 1 x0 1).bind fun v11 => (g_fr σ 3 v11 0).bind fun v12 => (g_si σ 0 v12 (x1 + x3) (v10 &&& 2147483647)).bind fun σ13 => g_let (g_iushr v10 31) fun v14 => g_let (x3 + 1) fun v15 => (LX1_giveBack_4  n) σ13 x0 x1 v14 v15)
noncomputable def fX1_giveBack (σ : g_S) (x0 : Nat) (x1 : Int32) : Option (g_S) := LX1_giveBack_4 g_fuel σ x0 x1 0 0
set_option maxHeartbeats 4000000 in
set_option maxRecDepth 100000 in
theorem tLX1_giveBack_4 {p : Program} {l : Launch} {e : Env} {s : State} {m : MethodId} {args : Array Value} {below : List Frame} {meth : Method} {c : Code} {D : g_D} {out : g_S} (C : g_C RX1 cX1_giveBack 5 none True p s m args meth c) (hK : g_K D s)  : ∀ (n : Nat) (σ : g_S) (x0 : Nat) (x1 : Int32) (x2 : Int32) (x3 : Int32) (H : Heap) (locs : List Loc) (ls : Array Slot), g_H D σ H → va_S (g_A D) s.heap H locs → lv_has ls 5 [(0, .ref x0), (1, .int x1), (2, .int x2), (3, .int x3)] → LX1_giveBack_4  n σ x0 x1 x2 x3 = some out → W p l e rmX1_giveBack s m args below meth c H locs 0 0 (MQ below (g_Q D out (none)) args s 0 0 (g_A D)) (F0 m 4 ls [])  := by
  obtain ⟨hx, hb, hml, hown, hts, hr, hlocks, hin⟩ := id C
  intro n
  induction n with
  | zero => intro σ x0 x1 x2 x3 H locs ls hG hS hl hf; cases hf
  | succ n ih =>
    intro σ x0 x1 x2 x3 H locs ls hG hS hl hf
    have hf : ((g_fr σ 1 x0 2).bind fun v1 => (g_fi σ 3 v1 1).bind fun v2 => if v2 ≤ x3 then (some σ) else ((g_fr σ 1 x0 1).bind fun v4 => (g_fr σ 3 v4 0).bind fun v5 => (g_li σ 0 v5 (x1 + x3)).bind fun v6 => (g_fr σ 1 x0 2).bind fun v7 => (g_fr σ 3 v7 0).bind fun v8 => (g_li σ 0 v8 x3).bind fun v9 => g_let ((v6 + v9) + x2) fun v10 => (g_fr σ 1 x0 1).bind fun v11 => (g_fr σ 3 v11 0).bind fun v12 => (g_si σ 0 v12 (x1 + x3) (v10 &&& 2147483647)).bind fun σ13 => g_let (g_iushr v10 31) fun v14 => g_let (x3 + 1) fun v15 => (LX1_giveBack_4  n) σ13 x0 x1 v14 v15)) = some out := hf
    have hk4 := ih
    refine lv_iload_n hx hb dX1_giveBack_4 rfl (lv_at hl 3 rfl) ?_
    refine lv_aload_n hx hb dX1_giveBack_5 rfl (lv_at hl 0 rfl) ?_
    obtain ⟨v1, hv1, hf⟩ := g_bind hf
    refine g_getr hx hb hts hown hK hG hv1 rfl iX1 (by decide) flX1_23 dX1_giveBack_6 ?_
    obtain ⟨v2, hv2, hf⟩ := g_bind hf
    refine g_geti hx hb hts hown hK hG hv2 rfl iX3 (by decide) flX1_34 dX1_giveBack_9 ?_
    refine lv_icmp_ge (tgt := 68) hx hb dX1_giveBack_12 (by decide) (fun c3 => ?_) (fun c3 => ?_)
    · rw [if_pos c3] at hf
      cases hf
      exact g_vret hx hb hr hlocks hG hS dX1_giveBack_68
    · rw [if_neg c3] at hf
      refine lv_aload_n hx hb dX1_giveBack_15 rfl (lv_at hl 0 rfl) ?_
      obtain ⟨v4, hv4, hf⟩ := g_bind hf
      refine g_getr hx hb hts hown hK hG hv4 rfl iX1 (by decide) flX1_20 dX1_giveBack_16 ?_
      obtain ⟨v5, hv5, hf⟩ := g_bind hf
      refine g_getr hx hb hts hown hK hG hv5 rfl iX3 (by decide) flX1_42 dX1_giveBack_19 ?_
      refine lv_iload_n hx hb dX1_giveBack_22 rfl (lv_at hl 1 rfl) ?_
      refine lv_iload_n hx hb dX1_giveBack_23 rfl (lv_at hl 3 rfl) ?_
      refine lv_iadd hx hb dX1_giveBack_24 ?_
      obtain ⟨v6, hv6, hf⟩ := g_bind hf
      refine g_iald hx hb hK hG hv6 rfl dX1_giveBack_25 ?_
      refine lv_aload_n hx hb dX1_giveBack_26 rfl (lv_at hl 0 rfl) ?_
      obtain ⟨v7, hv7, hf⟩ := g_bind hf
      refine g_getr hx hb hts hown hK hG hv7 rfl iX1 (by decide) flX1_23 dX1_giveBack_27 ?_
      obtain ⟨v8, hv8, hf⟩ := g_bind hf
      refine g_getr hx hb hts hown hK hG hv8 rfl iX3 (by decide) flX1_42 dX1_giveBack_30 ?_
      refine lv_iload_n hx hb dX1_giveBack_33 rfl (lv_at hl 3 rfl) ?_
      obtain ⟨v9, hv9, hf⟩ := g_bind hf
      refine g_iald hx hb hK hG hv9 rfl dX1_giveBack_34 ?_
      refine lv_iadd hx hb dX1_giveBack_35 ?_
      refine lv_iload_n hx hb dX1_giveBack_36 rfl (lv_at hl 2 rfl) ?_
      refine lv_iadd hx hb dX1_giveBack_37 ?_
      obtain ⟨v10, ev10, hf⟩ := g_let_spec hf
      refine g_topi ev10 ?_
      refine lv_istore (lv' := [(4, .int v10), (0, .ref x0), (1, .int x1), (2, .int x2), (3, .int x3)]) hx hb dX1_giveBack_38 hl (by decide) rfl (fun ls hl => ?_)
      refine lv_aload_n hx hb dX1_giveBack_40 rfl (lv_at hl 1 rfl) ?_
      obtain ⟨v11, hv11, hf⟩ := g_bind hf
      refine g_getr hx hb hts hown hK hG hv11 rfl iX1 (by decide) flX1_20 dX1_giveBack_41 ?_
      obtain ⟨v12, hv12, hf⟩ := g_bind hf
      refine g_getr hx hb hts hown hK hG hv12 rfl iX3 (by decide) flX1_42 dX1_giveBack_44 ?_
      refine lv_iload_n hx hb dX1_giveBack_47 rfl (lv_at hl 2 rfl) ?_
      refine lv_iload_n hx hb dX1_giveBack_48 rfl (lv_at hl 4 rfl) ?_
      refine lv_iadd hx hb dX1_giveBack_49 ?_
      refine lv_iload hx hb dX1_giveBack_50 (lv_at hl 0 rfl) ?_
      refine lv_ldc (v := 2147483647) hx hb hown (hts _ coX1_80) dX1_giveBack_52 ?_
      refine lv_iand hx hb dX1_giveBack_54 ?_
      obtain ⟨σ13, hσ13, hf⟩ := g_bind hf
      refine g_iast hx hb hK hG hS hσ13 rfl dX1_giveBack_55 (fun H locs hG hS => ?_)
      refine lv_iload hx hb dX1_giveBack_56 (lv_at hl 0 rfl) ?_
      refine lv_bipush (v := 31) hx hb dX1_giveBack_58 (by decide +kernel) ?_
      refine lv_iushr (v := g_iushr v10 31) hx hb dX1_giveBack_60 rfl ?_
      obtain ⟨v14, ev14, hf⟩ := g_let_spec hf
      refine g_topi ev14 ?_
      refine lv_istore_n (lv' := [(2, .int v14), (4, .int v10), (0, .ref x0), (1, .int x1), (3, .int x3)]) hx hb dX1_giveBack_61 rfl hl (by decide) rfl (fun ls hl => ?_)
      obtain ⟨v15, ev15, hf⟩ := g_let_spec hf
      refine lv_iinc (v := v15) (lv' := [(3, .int v15), (2, .int v14), (4, .int v10), (0, .ref x0), (1, .int x1)]) hx hb dX1_giveBack_62 hl (k := 4) rfl (by rw [← ev15]; rfl) (by decide) rfl (fun ls hl => ?_)
      refine lv_goto (tgt := 4) hx hb dX1_giveBack_65 (by decide) ?_
      exact hk4 _ _ _ _ _ _ _ _ hG hS (lv_sub hl [3, 4, 1, 0] rfl) hf

set_option maxHeartbeats 4000000 in
set_option maxRecDepth 100000 in
theorem tX1_giveBack (l : Launch) (D : g_D) {σ : g_S} {x0 : Nat} {x1 : Int32} {out : g_S} (hf : fX1_giveBack σ x0 x1 = some out) : Met l yX1_giveBack (Cond.code yX1_giveBack cX1_giveBack 5 none :: lw_g) rmX1_giveBack (g_P D σ [.ref x0, .int x1]) (g_Q D out (none)) 0 0 (g_A D) := by
  refine Met.ofW (cc := cX1_giveBack) (maxL := 5) (ret := none) (by decide +kernel) rfl ?_
  intro p e s m args below meth c s₁ B hml hv
  obtain ⟨rfl, hG, hK⟩ := hv
  have hts : ∀ w ∈ lw_g, w.before _ s = true := fun w h => atoms_spec (ws := (Cond.code yX1_giveBack cX1_giveBack 5 none :: lw_g)) B.pre w (List.mem_cons_of_mem _ h)
  have C : g_C RX1 cX1_giveBack 5 none True p s m _ meth c := ⟨B.exec, B.bytes, hml, findClass_of_methodNamed B.named, hts, B.returns, B.notSynchronized, trivial⟩
  obtain ⟨hx, hb, hml, hown, hts, hr, hlocks, hin⟩ := id C
  have hS : va_S (g_A D) s.heap s.heap [] := va_S.rf
  have hl := lv_entry ([.ref x0, .int x1]) (n := 5) (Nat.le_of_ble_eq_true rfl)
  rw [lg_entry_eq]
  generalize (lg_sl ([.ref x0, .int x1]) ++ List.replicate (5 - (lg_sl ([.ref x0, .int x1])).length) Slot.unset).toArray = ls at hl ⊢
  have hl : lv_has ls 5 [(0, .ref x0), (1, .int x1)] := hl
  unfold fX1_giveBack at hf
  refine lv_iconst (v := 0) hx hb dX1_giveBack_0 (by decide +kernel) ?_
  refine lv_istore_n (lv' := [(2, .int 0), (0, .ref x0), (1, .int x1)]) hx hb dX1_giveBack_1 rfl hl (by decide) rfl (fun ls hl => ?_)
  refine lv_iconst (v := 0) hx hb dX1_giveBack_2 (by decide +kernel) ?_
  refine lv_istore_n (lv' := [(3, .int 0), (2, .int 0), (0, .ref x0), (1, .int x1)]) hx hb dX1_giveBack_3 rfl hl (by decide) rfl (fun ls hl => ?_)
  exact tLX1_giveBack_4 C hK  g_fuel _ _ _ _ _ _ _ _ hG hS (lv_sub hl [2, 3, 1, 0] rfl) hf

def rmX1_guess : Room := { frames := 0, cells := 0, slots := 0, locals := 0 }
noncomputable def BX1_guess_179  (σ : g_S) (x7 : Int64) : Option (Int32 × g_S) := some (x7.toInt32, σ)
noncomputable def BX1_guess_161 (k117 : g_S → Int64 → Int64 → Int64 → Int64 → Int64 → Int32 → Option (Int32 × g_S)) (σ : g_S) (x3 : Int64) (x7 : Int64) (x9 : Int64) (x11 : Int64) (x13 : Int64) (x15 : Int32) : Option (Int32 × g_S) := g_let (x7 - 1) fun v34 => g_let (x9 + x3) fun v35 => g_let (x15 + 1) fun v36 => k117 σ x3 v34 v35 x11 x13 v36
noncomputable def LX1_guess_117  : Nat → g_S → Int64 → Int64 → Int64 → Int64 → Int64 → Int32 → Option (Int32 × g_S)
  | 0, _, _, _, _, _, _, _ => none
  | n + 1, σ, x3, x7, x9, x11, x13, x15 => if 2 ≤ x15 then (BX1_guess_179 σ x7) else (if 0 < (lg_cmp x9 2147483647) then (BX1_guess_179 σ x7) else (if 0 < (lg_cmp x7 2147483647) then (BX1_guess_161 (LX1_guess_117  n) σ x3 x7 x9 x11 x13 x15) else (if 0 < (lg_cmp (x7 * x11) ((g_lshl x9 31) ||| x13)) then (BX1_guess_161 (LX1_guess_117  n) σ x3 x7 x9 x11 x13 x15) else (BX1_guess_179 σ x7))))
noncomputable def fX1_guess (σ : g_S) (x0 : Nat) (x1 : Int32) : Option (Int32 × g_S) := (g_fr σ 1 x0 2).bind fun v1 => (g_fi σ 3 v1 1).bind fun v2 => g_let (x1 + v2) fun v3 => (g_fr σ 1 x0 2).bind fun v4 => (g_fr σ 3 v4 0).bind fun v5 => (g_fr σ 1 x0 2).bind fun v6 => (g_fi σ 3 v6 1).bind fun v7 => (g_li σ 0 v5 (v7 - 1)).bind fun v8 => g_let v8.toInt64 fun v9 => if lg_cmp v9 0 = 0 then (some (0, σ)) else ((g_fr σ 1 x0 1).bind fun v11 => (g_fr σ 3 v11 0).bind fun v12 => (g_li σ 0 v12 v3).bind fun v13 => (g_fr σ 1 x0 1).bind fun v14 => (g_fr σ 3 v14 0).bind fun v15 => (g_li σ 0 v15 (v3 - 1)).bind fun v16 => g_let ((g_lshl v13.toInt64 31) ||| v16.toInt64) fun v17 => g_if (¬ v9 = 0) <| g_let (v17 / v9) fun v19 => g_let (v17 - (v19 * v9)) fun v20 => (g_fr σ 1 x0 2).bind fun v21 => (g_fr σ 3 v21 0).bind fun v22 => (g_fr σ 1 x0 2).bind fun v23 => (g_fi σ 3 v23 1).bind fun v24 => (g_li σ 0 v22 (v24 - 2)).bind fun v25 => g_let v25.toInt64 fun v26 => (g_fr σ 1 x0 1).bind fun v27 => (g_fr σ 3 v27 0).bind fun v28 => (g_li σ 0 v28 (v3 - 2)).bind fun v29 => g_let v29.toInt64 fun v30 => LX1_guess_117 g_fuel σ v9 v19 v20 v26 v30 0)
set_option maxHeartbeats 4000000 in
set_option maxRecDepth 100000 in
theorem tBX1_guess_179 {p : Program} {l : Launch} {e : Env} {s : State} {m : MethodId} {args : Array Value} {below : List Frame} {meth : Method} {c : Code} {D : g_D} {out : Int32 × g_S} (C : g_C RX1 cX1_guess 16 (some .int) True p s m args meth c) (hK : g_K D s)  : ∀ (σ : g_S) (x7 : Int64) (H : Heap) (locs : List Loc) (ls : Array Slot), g_H D σ H → va_S (g_A D) s.heap H locs → lv_has ls 16 [(7, .long x7)] → BX1_guess_179  σ x7 = some out → W p l e rmX1_guess s m args below meth c H locs 0 0 (MQ below (g_Q D out.2 (some (.int out.1))) args s 0 0 (g_A D)) (F0 m 179 ls []) := by
  obtain ⟨hx, hb, hml, hown, hts, hr, hlocks, hin⟩ := id C
  intro σ x7 H locs ls hG hS hl hf
  unfold BX1_guess_179 at hf
  refine lv_lload hx hb dX1_guess_179 (lv_at hl 0 rfl) ?_
  refine lv_l2i (v := x7.toInt32) hx hb dX1_guess_181 rfl ?_
  cases hf
  exact g_iret hx hb hr hlocks hG hS dX1_guess_182

set_option maxHeartbeats 4000000 in
set_option maxRecDepth 100000 in
theorem tBX1_guess_161 {p : Program} {l : Launch} {e : Env} {s : State} {m : MethodId} {args : Array Value} {below : List Frame} {meth : Method} {c : Code} {D : g_D} {out : Int32 × g_S} (C : g_C RX1 cX1_guess 16 (some .int) True p s m args meth c) (hK : g_K D s) (k117 : g_S → Int64 → Int64 → Int64 → Int64 → Int64 → Int32 → Option (Int32 × g_S)) (hk117 : ∀ (σ : g_S) (x3 : Int64) (x7 : Int64) (x9 : Int64) (x11 : Int64) (x13 : Int64) (x15 : Int32) (H : Heap) (locs : List Loc) (ls : Array Slot), g_H D σ H → va_S (g_A D) s.heap H locs → lv_has ls 16 [(3, .long x3), (7, .long x7), (9, .long x9), (11, .long x11), (13, .long x13), (15, .int x15)] → k117 σ x3 x7 x9 x11 x13 x15 = some out → W p l e rmX1_guess s m args below meth c H locs 0 0 (MQ below (g_Q D out.2 (some (.int out.1))) args s 0 0 (g_A D)) (F0 m 117 ls [])) : ∀ (σ : g_S) (x3 : Int64) (x7 : Int64) (x9 : Int64) (x11 : Int64) (x13 : Int64) (x15 : Int32) (H : Heap) (locs : List Loc) (ls : Array Slot), g_H D σ H → va_S (g_A D) s.heap H locs → lv_has ls 16 [(3, .long x3), (7, .long x7), (9, .long x9), (11, .long x11), (13, .long x13), (15, .int x15)] → BX1_guess_161 k117 σ x3 x7 x9 x11 x13 x15 = some out → W p l e rmX1_guess s m args below meth c H locs 0 0 (MQ below (g_Q D out.2 (some (.int out.1))) args s 0 0 (g_A D)) (F0 m 161 ls []) := by
  obtain ⟨hx, hb, hml, hown, hts, hr, hlocks, hin⟩ := id C
  intro σ x3 x7 x9 x11 x13 x15 H locs ls hG hS hl hf
  unfold BX1_guess_161 at hf
  refine lv_lload hx hb dX1_guess_161 (lv_at hl 1 rfl) ?_
  refine lv_lconst (v := 1) hx hb dX1_guess_163 (by decide +kernel) ?_
  refine lv_lsub hx hb dX1_guess_164 ?_
  obtain ⟨v34, ev34, hf⟩ := g_let_spec hf
  refine g_topl ev34 ?_
  refine lv_lstore (lv' := [(7, .long v34), (3, .long x3), (9, .long x9), (11, .long x11), (13, .long x13), (15, .int x15)]) hx hb dX1_guess_165 hl (by decide) rfl (fun ls hl => ?_)
  refine lv_lload hx hb dX1_guess_167 (lv_at hl 2 rfl) ?_
  refine lv_lload_n hx hb dX1_guess_169 rfl (lv_at hl 1 rfl) ?_
  refine lv_ladd hx hb dX1_guess_170 ?_
  obtain ⟨v35, ev35, hf⟩ := g_let_spec hf
  refine g_topl ev35 ?_
  refine lv_lstore (lv' := [(9, .long v35), (7, .long v34), (3, .long x3), (11, .long x11), (13, .long x13), (15, .int x15)]) hx hb dX1_guess_171 hl (by decide) rfl (fun ls hl => ?_)
  obtain ⟨v36, ev36, hf⟩ := g_let_spec hf
  refine lv_iinc (v := v36) (lv' := [(15, .int v36), (9, .long v35), (7, .long v34), (3, .long x3), (11, .long x11), (13, .long x13)]) hx hb dX1_guess_173 hl (k := 5) rfl (by rw [← ev36]; rfl) (by decide) rfl (fun ls hl => ?_)
  refine lv_goto (tgt := 117) hx hb dX1_guess_176 (by decide) ?_
  exact hk117 _ _ _ _ _ _ _ _ _ _ hG hS (lv_sub hl [3, 2, 1, 4, 5, 0] rfl) hf

set_option maxHeartbeats 4000000 in
set_option maxRecDepth 100000 in
theorem tLX1_guess_117 {p : Program} {l : Launch} {e : Env} {s : State} {m : MethodId} {args : Array Value} {below : List Frame} {meth : Method} {c : Code} {D : g_D} {out : Int32 × g_S} (C : g_C RX1 cX1_guess 16 (some .int) True p s m args meth c) (hK : g_K D s)  : ∀ (n : Nat) (σ : g_S) (x3 : Int64) (x7 : Int64) (x9 : Int64) (x11 : Int64) (x13 : Int64) (x15 : Int32) (H : Heap) (locs : List Loc) (ls : Array Slot), g_H D σ H → va_S (g_A D) s.heap H locs → lv_has ls 16 [(3, .long x3), (7, .long x7), (9, .long x9), (11, .long x11), (13, .long x13), (15, .int x15)] → LX1_guess_117  n σ x3 x7 x9 x11 x13 x15 = some out → W p l e rmX1_guess s m args below meth c H locs 0 0 (MQ below (g_Q D out.2 (some (.int out.1))) args s 0 0 (g_A D)) (F0 m 117 ls [])  := by
  obtain ⟨hx, hb, hml, hown, hts, hr, hlocks, hin⟩ := id C
  intro n
  induction n with
  | zero => intro σ x3 x7 x9 x11 x13 x15 H locs ls hG hS hl hf; cases hf
  | succ n ih =>
    intro σ x3 x7 x9 x11 x13 x15 H locs ls hG hS hl hf
    have hf : (if 2 ≤ x15 then (BX1_guess_179 σ x7) else (if 0 < (lg_cmp x9 2147483647) then (BX1_guess_179 σ x7) else (if 0 < (lg_cmp x7 2147483647) then (BX1_guess_161 (LX1_guess_117  n) σ x3 x7 x9 x11 x13 x15) else (if 0 < (lg_cmp (x7 * x11) ((g_lshl x9 31) ||| x13)) then (BX1_guess_161 (LX1_guess_117  n) σ x3 x7 x9 x11 x13 x15) else (BX1_guess_179 σ x7))))) = some out := hf
    have hk117 := ih
    refine lv_iload hx hb dX1_guess_117 (lv_at hl 5 rfl) ?_
    refine lv_iconst (v := 2) hx hb dX1_guess_119 (by decide +kernel) ?_
    refine lv_icmp_ge (tgt := 179) hx hb dX1_guess_120 (by decide) (fun c31 => ?_) (fun c31 => ?_)
    · rw [if_pos c31] at hf
      exact tBX1_guess_179 C hK   _ _ _ _ _ hG hS (lv_sub hl [1] rfl) hf
    · rw [if_neg c31] at hf
      refine lv_lload hx hb dX1_guess_123 (lv_at hl 2 rfl) ?_
      refine lv_ldc2 (v := 2147483647) hx hb hown (hts _ coX1_78) dX1_guess_125 ?_
      refine W.lcmp hx hb dX1_guess_128 ?_
      refine lv_if_gt (tgt := 179) hx hb dX1_guess_129 (by decide) (fun c32 => ?_) (fun c32 => ?_)
      · rw [if_pos c32] at hf
        exact tBX1_guess_179 C hK   _ _ _ _ _ hG hS (lv_sub hl [1] rfl) hf
      · rw [if_neg c32] at hf
        refine lv_lload hx hb dX1_guess_132 (lv_at hl 1 rfl) ?_
        refine lv_ldc2 (v := 2147483647) hx hb hown (hts _ coX1_78) dX1_guess_134 ?_
        refine W.lcmp hx hb dX1_guess_137 ?_
        refine lv_if_gt (tgt := 161) hx hb dX1_guess_138 (by decide) (fun c33 => ?_) (fun c33 => ?_)
        · rw [if_pos c33] at hf
          exact tBX1_guess_161 C hK (LX1_guess_117  n) hk117  _ _ _ _ _ _ _ _ _ _ hG hS (lv_sub hl [0, 1, 2, 3, 4, 5] rfl) hf
        · rw [if_neg c33] at hf
          refine lv_lload hx hb dX1_guess_141 (lv_at hl 1 rfl) ?_
          refine lv_lload hx hb dX1_guess_143 (lv_at hl 3 rfl) ?_
          refine lv_lmul hx hb dX1_guess_145 ?_
          refine lv_lload hx hb dX1_guess_146 (lv_at hl 2 rfl) ?_
          refine lv_bipush (v := 31) hx hb dX1_guess_148 (by decide +kernel) ?_
          refine lv_lshl (v := g_lshl x9 31) hx hb dX1_guess_150 rfl ?_
          refine lv_lload hx hb dX1_guess_151 (lv_at hl 4 rfl) ?_
          refine lv_lor hx hb dX1_guess_153 ?_
          refine W.lcmp hx hb dX1_guess_154 ?_
          refine lv_if_gt (tgt := 161) hx hb dX1_guess_155 (by decide) (fun c37 => ?_) (fun c37 => ?_)
          · rw [if_pos c37] at hf
            exact tBX1_guess_161 C hK (LX1_guess_117  n) hk117  _ _ _ _ _ _ _ _ _ _ hG hS (lv_sub hl [0, 1, 2, 3, 4, 5] rfl) hf
          · rw [if_neg c37] at hf
            refine lv_goto (tgt := 179) hx hb dX1_guess_158 (by decide) ?_
            exact tBX1_guess_179 C hK   _ _ _ _ _ hG hS (lv_sub hl [1] rfl) hf

set_option maxHeartbeats 4000000 in
set_option maxRecDepth 100000 in
theorem tX1_guess (l : Launch) (D : g_D) {σ : g_S} {x0 : Nat} {x1 : Int32} {out : Int32 × g_S} (hf : fX1_guess σ x0 x1 = some out) : Met l yX1_guess (Cond.code yX1_guess cX1_guess 16 (some .int) :: lw_g) rmX1_guess (g_P D σ [.ref x0, .int x1]) (g_Q D out.2 (some (.int out.1))) 0 0 (g_A D) := by
  refine Met.ofW (cc := cX1_guess) (maxL := 16) (ret := (some .int)) (by decide +kernel) rfl ?_
  intro p e s m args below meth c s₁ B hml hv
  obtain ⟨rfl, hG, hK⟩ := hv
  have hts : ∀ w ∈ lw_g, w.before _ s = true := fun w h => atoms_spec (ws := (Cond.code yX1_guess cX1_guess 16 (some .int) :: lw_g)) B.pre w (List.mem_cons_of_mem _ h)
  have C : g_C RX1 cX1_guess 16 (some .int) True p s m _ meth c := ⟨B.exec, B.bytes, hml, findClass_of_methodNamed B.named, hts, B.returns, B.notSynchronized, trivial⟩
  obtain ⟨hx, hb, hml, hown, hts, hr, hlocks, hin⟩ := id C
  have hS : va_S (g_A D) s.heap s.heap [] := va_S.rf
  have hl := lv_entry ([.ref x0, .int x1]) (n := 16) (Nat.le_of_ble_eq_true rfl)
  rw [lg_entry_eq]
  generalize (lg_sl ([.ref x0, .int x1]) ++ List.replicate (16 - (lg_sl ([.ref x0, .int x1])).length) Slot.unset).toArray = ls at hl ⊢
  have hl : lv_has ls 16 [(0, .ref x0), (1, .int x1)] := hl
  unfold fX1_guess at hf
  refine lv_iload_n hx hb dX1_guess_0 rfl (lv_at hl 1 rfl) ?_
  refine lv_aload_n hx hb dX1_guess_1 rfl (lv_at hl 0 rfl) ?_
  obtain ⟨v1, hv1, hf⟩ := g_bind hf
  refine g_getr hx hb hts hown hK hG hv1 rfl iX1 (by decide) flX1_23 dX1_guess_2 ?_
  obtain ⟨v2, hv2, hf⟩ := g_bind hf
  refine g_geti hx hb hts hown hK hG hv2 rfl iX3 (by decide) flX1_34 dX1_guess_5 ?_
  refine lv_iadd hx hb dX1_guess_8 ?_
  obtain ⟨v3, ev3, hf⟩ := g_let_spec hf
  refine g_topi ev3 ?_
  refine lv_istore_n (lv' := [(2, .int v3), (0, .ref x0), (1, .int x1)]) hx hb dX1_guess_9 rfl hl (by decide) rfl (fun ls hl => ?_)
  refine lv_aload_n hx hb dX1_guess_10 rfl (lv_at hl 1 rfl) ?_
  obtain ⟨v4, hv4, hf⟩ := g_bind hf
  refine g_getr hx hb hts hown hK hG hv4 rfl iX1 (by decide) flX1_23 dX1_guess_11 ?_
  obtain ⟨v5, hv5, hf⟩ := g_bind hf
  refine g_getr hx hb hts hown hK hG hv5 rfl iX3 (by decide) flX1_42 dX1_guess_14 ?_
  refine lv_aload_n hx hb dX1_guess_17 rfl (lv_at hl 1 rfl) ?_
  obtain ⟨v6, hv6, hf⟩ := g_bind hf
  refine g_getr hx hb hts hown hK hG hv6 rfl iX1 (by decide) flX1_23 dX1_guess_18 ?_
  obtain ⟨v7, hv7, hf⟩ := g_bind hf
  refine g_geti hx hb hts hown hK hG hv7 rfl iX3 (by decide) flX1_34 dX1_guess_21 ?_
  refine lv_iconst (v := 1) hx hb dX1_guess_24 (by decide +kernel) ?_
  refine lv_isub hx hb dX1_guess_25 ?_
  obtain ⟨v8, hv8, hf⟩ := g_bind hf
  refine g_iald hx hb hK hG hv8 rfl dX1_guess_26 ?_
  refine lv_i2l (v := v8.toInt64) hx hb dX1_guess_27 rfl ?_
  obtain ⟨v9, ev9, hf⟩ := g_let_spec hf
  refine g_topl ev9 ?_
  refine lv_lstore_n (lv' := [(3, .long v9), (2, .int v3), (0, .ref x0), (1, .int x1)]) hx hb dX1_guess_28 rfl hl (by decide) rfl (fun ls hl => ?_)
  refine lv_lload_n hx hb dX1_guess_29 rfl (lv_at hl 0 rfl) ?_
  refine lv_lconst (v := 0) hx hb dX1_guess_30 (by decide +kernel) ?_
  refine W.lcmp hx hb dX1_guess_31 ?_
  refine lv_if_ne (tgt := 37) hx hb dX1_guess_32 (by decide) (fun c10 => ?_) (fun c10 => ?_)
  · rw [if_neg c10] at hf
    refine lv_aload_n hx hb dX1_guess_37 rfl (lv_at hl 2 rfl) ?_
    obtain ⟨v11, hv11, hf⟩ := g_bind hf
    refine g_getr hx hb hts hown hK hG hv11 rfl iX1 (by decide) flX1_20 dX1_guess_38 ?_
    obtain ⟨v12, hv12, hf⟩ := g_bind hf
    refine g_getr hx hb hts hown hK hG hv12 rfl iX3 (by decide) flX1_42 dX1_guess_41 ?_
    refine lv_iload_n hx hb dX1_guess_44 rfl (lv_at hl 1 rfl) ?_
    obtain ⟨v13, hv13, hf⟩ := g_bind hf
    refine g_iald hx hb hK hG hv13 rfl dX1_guess_45 ?_
    refine lv_i2l (v := v13.toInt64) hx hb dX1_guess_46 rfl ?_
    refine lv_bipush (v := 31) hx hb dX1_guess_47 (by decide +kernel) ?_
    refine lv_lshl (v := g_lshl v13.toInt64 31) hx hb dX1_guess_49 rfl ?_
    refine lv_aload_n hx hb dX1_guess_50 rfl (lv_at hl 2 rfl) ?_
    obtain ⟨v14, hv14, hf⟩ := g_bind hf
    refine g_getr hx hb hts hown hK hG hv14 rfl iX1 (by decide) flX1_20 dX1_guess_51 ?_
    obtain ⟨v15, hv15, hf⟩ := g_bind hf
    refine g_getr hx hb hts hown hK hG hv15 rfl iX3 (by decide) flX1_42 dX1_guess_54 ?_
    refine lv_iload_n hx hb dX1_guess_57 rfl (lv_at hl 1 rfl) ?_
    refine lv_iconst (v := 1) hx hb dX1_guess_58 (by decide +kernel) ?_
    refine lv_isub hx hb dX1_guess_59 ?_
    obtain ⟨v16, hv16, hf⟩ := g_bind hf
    refine g_iald hx hb hK hG hv16 rfl dX1_guess_60 ?_
    refine lv_i2l (v := v16.toInt64) hx hb dX1_guess_61 rfl ?_
    refine lv_lor hx hb dX1_guess_62 ?_
    obtain ⟨v17, ev17, hf⟩ := g_let_spec hf
    refine g_topl ev17 ?_
    refine lv_lstore (lv' := [(5, .long v17), (3, .long v9), (2, .int v3), (0, .ref x0), (1, .int x1)]) hx hb dX1_guess_63 hl (by decide) rfl (fun ls hl => ?_)
    refine lv_lload hx hb dX1_guess_65 (lv_at hl 0 rfl) ?_
    refine lv_lload_n hx hb dX1_guess_67 rfl (lv_at hl 1 rfl) ?_
    obtain ⟨h18, hf⟩ := g_if_spec hf
    refine lv_ldiv hx hb dX1_guess_68 h18 ?_
    obtain ⟨v19, ev19, hf⟩ := g_let_spec hf
    refine g_topl ev19 ?_
    refine lv_lstore (lv' := [(7, .long v19), (5, .long v17), (3, .long v9), (2, .int v3), (0, .ref x0), (1, .int x1)]) hx hb dX1_guess_69 hl (by decide) rfl (fun ls hl => ?_)
    refine lv_lload hx hb dX1_guess_71 (lv_at hl 1 rfl) ?_
    refine lv_lload hx hb dX1_guess_73 (lv_at hl 0 rfl) ?_
    refine lv_lload_n hx hb dX1_guess_75 rfl (lv_at hl 2 rfl) ?_
    refine lv_lmul hx hb dX1_guess_76 ?_
    refine lv_lsub hx hb dX1_guess_77 ?_
    obtain ⟨v20, ev20, hf⟩ := g_let_spec hf
    refine g_topl ev20 ?_
    refine lv_lstore (lv' := [(9, .long v20), (7, .long v19), (5, .long v17), (3, .long v9), (2, .int v3), (0, .ref x0), (1, .int x1)]) hx hb dX1_guess_78 hl (by decide) rfl (fun ls hl => ?_)
    refine lv_aload_n hx hb dX1_guess_80 rfl (lv_at hl 5 rfl) ?_
    obtain ⟨v21, hv21, hf⟩ := g_bind hf
    refine g_getr hx hb hts hown hK hG hv21 rfl iX1 (by decide) flX1_23 dX1_guess_81 ?_
    obtain ⟨v22, hv22, hf⟩ := g_bind hf
    refine g_getr hx hb hts hown hK hG hv22 rfl iX3 (by decide) flX1_42 dX1_guess_84 ?_
    refine lv_aload_n hx hb dX1_guess_87 rfl (lv_at hl 5 rfl) ?_
    obtain ⟨v23, hv23, hf⟩ := g_bind hf
    refine g_getr hx hb hts hown hK hG hv23 rfl iX1 (by decide) flX1_23 dX1_guess_88 ?_
    obtain ⟨v24, hv24, hf⟩ := g_bind hf
    refine g_geti hx hb hts hown hK hG hv24 rfl iX3 (by decide) flX1_34 dX1_guess_91 ?_
    refine lv_iconst (v := 2) hx hb dX1_guess_94 (by decide +kernel) ?_
    refine lv_isub hx hb dX1_guess_95 ?_
    obtain ⟨v25, hv25, hf⟩ := g_bind hf
    refine g_iald hx hb hK hG hv25 rfl dX1_guess_96 ?_
    refine lv_i2l (v := v25.toInt64) hx hb dX1_guess_97 rfl ?_
    obtain ⟨v26, ev26, hf⟩ := g_let_spec hf
    refine g_topl ev26 ?_
    refine lv_lstore (lv' := [(11, .long v26), (9, .long v20), (7, .long v19), (5, .long v17), (3, .long v9), (2, .int v3), (0, .ref x0), (1, .int x1)]) hx hb dX1_guess_98 hl (by decide) rfl (fun ls hl => ?_)
    refine lv_aload_n hx hb dX1_guess_100 rfl (lv_at hl 6 rfl) ?_
    obtain ⟨v27, hv27, hf⟩ := g_bind hf
    refine g_getr hx hb hts hown hK hG hv27 rfl iX1 (by decide) flX1_20 dX1_guess_101 ?_
    obtain ⟨v28, hv28, hf⟩ := g_bind hf
    refine g_getr hx hb hts hown hK hG hv28 rfl iX3 (by decide) flX1_42 dX1_guess_104 ?_
    refine lv_iload_n hx hb dX1_guess_107 rfl (lv_at hl 5 rfl) ?_
    refine lv_iconst (v := 2) hx hb dX1_guess_108 (by decide +kernel) ?_
    refine lv_isub hx hb dX1_guess_109 ?_
    obtain ⟨v29, hv29, hf⟩ := g_bind hf
    refine g_iald hx hb hK hG hv29 rfl dX1_guess_110 ?_
    refine lv_i2l (v := v29.toInt64) hx hb dX1_guess_111 rfl ?_
    obtain ⟨v30, ev30, hf⟩ := g_let_spec hf
    refine g_topl ev30 ?_
    refine lv_lstore (lv' := [(13, .long v30), (11, .long v26), (9, .long v20), (7, .long v19), (5, .long v17), (3, .long v9), (2, .int v3), (0, .ref x0), (1, .int x1)]) hx hb dX1_guess_112 hl (by decide) rfl (fun ls hl => ?_)
    refine lv_iconst (v := 0) hx hb dX1_guess_114 (by decide +kernel) ?_
    refine lv_istore (lv' := [(15, .int 0), (13, .long v30), (11, .long v26), (9, .long v20), (7, .long v19), (5, .long v17), (3, .long v9), (2, .int v3), (0, .ref x0), (1, .int x1)]) hx hb dX1_guess_115 hl (by decide) rfl (fun ls hl => ?_)
    exact tLX1_guess_117 C hK  g_fuel _ _ _ _ _ _ _ _ _ _ hG hS (lv_sub hl [6, 4, 3, 2, 1, 0] rfl) hf
  · rw [if_pos c10] at hf
    refine lv_iconst (v := 0) hx hb dX1_guess_35 (by decide +kernel) ?_
    cases hf
    exact g_iret hx hb hr hlocks hG hS dX1_guess_36

def rmX1_takeAway : Room := { frames := 0, cells := 0, slots := 0, locals := 0 }
noncomputable def BX1_takeAway_118  (σ : g_S) (y0 : Int32) : Option (Int32 × g_S) := g_if (y0 = 0 ∨ y0 = 1) <| some (y0, σ)
noncomputable def LX1_takeAway_5  : Nat → g_S → Nat → Int32 → Int32 → Int64 → Int32 → Option (Int32 × g_S)
  | 0, _, _, _, _, _, _ => none
  | n + 1, σ, x0, x1, x2, x3, x5 => (g_fr σ 1 x0 2).bind fun v1 => (g_fi σ 3 v1 1).bind fun v2 => if v2 ≤ x5 then ((g_fr σ 1 x0 1).bind fun v4 => (g_fr σ 3 v4 0).bind fun v5 => (g_fr σ 1 x0 2).bind fun v6 => (g_fi σ 3 v6 1).bind fun v7 => (g_li σ 0 v5 (x2 + v7)).bind fun v8 => if 0 ≤ (lg_cmp v8.toInt64 x3) then (BX1_takeAway_118 σ 0) else (BX1_takeAway_118 σ 1)) else ((g_fr σ 1 x0 2).bind fun v11 => (g_fr σ 3 v11 0).bind fun v12 => (g_li σ 0 v12 x5).bind fun v13 => g_let (x3 + (x1.toInt64 * v13.toInt64)) fun v14 => (g_fr σ 1 x0 1).bind fun v15 => (g_fr σ 3 v15 0).bind fun v16 => (g_li σ 0 v16 (x2 + x5)).bind fun v17 => g_let (v17 - ((v14 &&& 2147483647).toInt32)) fun v18 => (g_fr σ 1 x0 1).bind fun v19 => (g_fr σ 3 v19 0).bind fun v20 => (g_si σ 0 v20 (x2 + x5) (v18 &&& 2147483647)).bind fun σ21 => g_let ((g_lushr v14 31) + ((g_iushr v18 31).toInt64)) fun v22 => g_let (x5 + 1) fun v23 => (LX1_takeAway_5  n) σ21 x0 x1 x2 v22 v23)
noncomputable def fX1_takeAway (σ : g_S) (x0 : Nat) (x1 : Int32) (x2 : Int32) : Option (Int32 × g_S) := LX1_takeAway_5 g_fuel σ x0 x1 x2 0 0
set_option maxHeartbeats 4000000 in
set_option maxRecDepth 100000 in
theorem tBX1_takeAway_118 {p : Program} {l : Launch} {e : Env} {s : State} {m : MethodId} {args : Array Value} {below : List Frame} {meth : Method} {c : Code} {D : g_D} {out : Int32 × g_S} (C : g_C RX1 cX1_takeAway 7 (some .boolean) True p s m args meth c) (hK : g_K D s)  : ∀ (σ : g_S) (y0 : Int32) (H : Heap) (locs : List Loc) (ls : Array Slot), g_H D σ H → va_S (g_A D) s.heap H locs → lv_has ls 7 [] → BX1_takeAway_118  σ y0 = some out → W p l e rmX1_takeAway s m args below meth c H locs 0 0 (MQ below (g_Q D out.2 (some (.int out.1))) args s 0 0 (g_A D)) (F0 m 118 ls [.int y0]) := by
  obtain ⟨hx, hb, hml, hown, hts, hr, hlocks, hin⟩ := id C
  intro σ y0 H locs ls hG hS hl hf
  unfold BX1_takeAway_118 at hf
  obtain ⟨z10, hf⟩ := g_if_spec hf
  cases hf
  exact g_zret hx hb hr hlocks z10 hG hS dX1_takeAway_118

set_option maxHeartbeats 4000000 in
set_option maxRecDepth 100000 in
theorem tLX1_takeAway_5 {p : Program} {l : Launch} {e : Env} {s : State} {m : MethodId} {args : Array Value} {below : List Frame} {meth : Method} {c : Code} {D : g_D} {out : Int32 × g_S} (C : g_C RX1 cX1_takeAway 7 (some .boolean) True p s m args meth c) (hK : g_K D s)  : ∀ (n : Nat) (σ : g_S) (x0 : Nat) (x1 : Int32) (x2 : Int32) (x3 : Int64) (x5 : Int32) (H : Heap) (locs : List Loc) (ls : Array Slot), g_H D σ H → va_S (g_A D) s.heap H locs → lv_has ls 7 [(0, .ref x0), (1, .int x1), (2, .int x2), (3, .long x3), (5, .int x5)] → LX1_takeAway_5  n σ x0 x1 x2 x3 x5 = some out → W p l e rmX1_takeAway s m args below meth c H locs 0 0 (MQ below (g_Q D out.2 (some (.int out.1))) args s 0 0 (g_A D)) (F0 m 5 ls [])  := by
  obtain ⟨hx, hb, hml, hown, hts, hr, hlocks, hin⟩ := id C
  intro n
  induction n with
  | zero => intro σ x0 x1 x2 x3 x5 H locs ls hG hS hl hf; cases hf
  | succ n ih =>
    intro σ x0 x1 x2 x3 x5 H locs ls hG hS hl hf
    have hf : ((g_fr σ 1 x0 2).bind fun v1 => (g_fi σ 3 v1 1).bind fun v2 => if v2 ≤ x5 then ((g_fr σ 1 x0 1).bind fun v4 => (g_fr σ 3 v4 0).bind fun v5 => (g_fr σ 1 x0 2).bind fun v6 => (g_fi σ 3 v6 1).bind fun v7 => (g_li σ 0 v5 (x2 + v7)).bind fun v8 => if 0 ≤ (lg_cmp v8.toInt64 x3) then (BX1_takeAway_118 σ 0) else (BX1_takeAway_118 σ 1)) else ((g_fr σ 1 x0 2).bind fun v11 => (g_fr σ 3 v11 0).bind fun v12 => (g_li σ 0 v12 x5).bind fun v13 => g_let (x3 + (x1.toInt64 * v13.toInt64)) fun v14 => (g_fr σ 1 x0 1).bind fun v15 => (g_fr σ 3 v15 0).bind fun v16 => (g_li σ 0 v16 (x2 + x5)).bind fun v17 => g_let (v17 - ((v14 &&& 2147483647).toInt32)) fun v18 => (g_fr σ 1 x0 1).bind fun v19 => (g_fr σ 3 v19 0).bind fun v20 => (g_si σ 0 v20 (x2 + x5) (v18 &&& 2147483647)).bind fun σ21 => g_let ((g_lushr v14 31) + ((g_iushr v18 31).toInt64)) fun v22 => g_let (x5 + 1) fun v23 => (LX1_takeAway_5  n) σ21 x0 x1 x2 v22 v23)) = some out := hf
    have hk5 := ih
    refine lv_iload hx hb dX1_takeAway_5 (lv_at hl 4 rfl) ?_
    refine lv_aload_n hx hb dX1_takeAway_7 rfl (lv_at hl 0 rfl) ?_
    obtain ⟨v1, hv1, hf⟩ := g_bind hf
    refine g_getr hx hb hts hown hK hG hv1 rfl iX1 (by decide) flX1_23 dX1_takeAway_8 ?_
    obtain ⟨v2, hv2, hf⟩ := g_bind hf
    refine g_geti hx hb hts hown hK hG hv2 rfl iX3 (by decide) flX1_34 dX1_takeAway_11 ?_
    refine lv_icmp_ge (tgt := 90) hx hb dX1_takeAway_14 (by decide) (fun c3 => ?_) (fun c3 => ?_)
    · rw [if_pos c3] at hf
      refine lv_aload_n hx hb dX1_takeAway_90 rfl (lv_at hl 0 rfl) ?_
      obtain ⟨v4, hv4, hf⟩ := g_bind hf
      refine g_getr hx hb hts hown hK hG hv4 rfl iX1 (by decide) flX1_20 dX1_takeAway_91 ?_
      obtain ⟨v5, hv5, hf⟩ := g_bind hf
      refine g_getr hx hb hts hown hK hG hv5 rfl iX3 (by decide) flX1_42 dX1_takeAway_94 ?_
      refine lv_iload_n hx hb dX1_takeAway_97 rfl (lv_at hl 2 rfl) ?_
      refine lv_aload_n hx hb dX1_takeAway_98 rfl (lv_at hl 0 rfl) ?_
      obtain ⟨v6, hv6, hf⟩ := g_bind hf
      refine g_getr hx hb hts hown hK hG hv6 rfl iX1 (by decide) flX1_23 dX1_takeAway_99 ?_
      obtain ⟨v7, hv7, hf⟩ := g_bind hf
      refine g_geti hx hb hts hown hK hG hv7 rfl iX3 (by decide) flX1_34 dX1_takeAway_102 ?_
      refine lv_iadd hx hb dX1_takeAway_105 ?_
      obtain ⟨v8, hv8, hf⟩ := g_bind hf
      refine g_iald hx hb hK hG hv8 rfl dX1_takeAway_106 ?_
      refine lv_i2l (v := v8.toInt64) hx hb dX1_takeAway_107 rfl ?_
      refine lv_lload_n hx hb dX1_takeAway_108 rfl (lv_at hl 3 rfl) ?_
      refine W.lcmp hx hb dX1_takeAway_109 ?_
      refine lv_if_ge (tgt := 117) hx hb dX1_takeAway_110 (by decide) (fun c9 => ?_) (fun c9 => ?_)
      · rw [if_pos c9] at hf
        refine lv_iconst (v := 0) hx hb dX1_takeAway_117 (by decide +kernel) ?_
        exact tBX1_takeAway_118 C hK   _ _ _ _ _ hG hS (lv_sub hl [] rfl) hf
      · rw [if_neg c9] at hf
        refine lv_iconst (v := 1) hx hb dX1_takeAway_113 (by decide +kernel) ?_
        refine lv_goto (tgt := 118) hx hb dX1_takeAway_114 (by decide) ?_
        exact tBX1_takeAway_118 C hK   _ _ _ _ _ hG hS (lv_sub hl [] rfl) hf
    · rw [if_neg c3] at hf
      refine lv_lload_n hx hb dX1_takeAway_17 rfl (lv_at hl 3 rfl) ?_
      refine lv_iload_n hx hb dX1_takeAway_18 rfl (lv_at hl 1 rfl) ?_
      refine lv_i2l (v := x1.toInt64) hx hb dX1_takeAway_19 rfl ?_
      refine lv_aload_n hx hb dX1_takeAway_20 rfl (lv_at hl 0 rfl) ?_
      obtain ⟨v11, hv11, hf⟩ := g_bind hf
      refine g_getr hx hb hts hown hK hG hv11 rfl iX1 (by decide) flX1_23 dX1_takeAway_21 ?_
      obtain ⟨v12, hv12, hf⟩ := g_bind hf
      refine g_getr hx hb hts hown hK hG hv12 rfl iX3 (by decide) flX1_42 dX1_takeAway_24 ?_
      refine lv_iload hx hb dX1_takeAway_27 (lv_at hl 4 rfl) ?_
      obtain ⟨v13, hv13, hf⟩ := g_bind hf
      refine g_iald hx hb hK hG hv13 rfl dX1_takeAway_29 ?_
      refine lv_i2l (v := v13.toInt64) hx hb dX1_takeAway_30 rfl ?_
      refine lv_lmul hx hb dX1_takeAway_31 ?_
      refine lv_ladd hx hb dX1_takeAway_32 ?_
      obtain ⟨v14, ev14, hf⟩ := g_let_spec hf
      refine g_topl ev14 ?_
      refine lv_lstore_n (lv' := [(3, .long v14), (0, .ref x0), (1, .int x1), (2, .int x2), (5, .int x5)]) hx hb dX1_takeAway_33 rfl hl (by decide) rfl (fun ls hl => ?_)
      refine lv_aload_n hx hb dX1_takeAway_34 rfl (lv_at hl 1 rfl) ?_
      obtain ⟨v15, hv15, hf⟩ := g_bind hf
      refine g_getr hx hb hts hown hK hG hv15 rfl iX1 (by decide) flX1_20 dX1_takeAway_35 ?_
      obtain ⟨v16, hv16, hf⟩ := g_bind hf
      refine g_getr hx hb hts hown hK hG hv16 rfl iX3 (by decide) flX1_42 dX1_takeAway_38 ?_
      refine lv_iload_n hx hb dX1_takeAway_41 rfl (lv_at hl 3 rfl) ?_
      refine lv_iload hx hb dX1_takeAway_42 (lv_at hl 4 rfl) ?_
      refine lv_iadd hx hb dX1_takeAway_44 ?_
      obtain ⟨v17, hv17, hf⟩ := g_bind hf
      refine g_iald hx hb hK hG hv17 rfl dX1_takeAway_45 ?_
      refine lv_lload_n hx hb dX1_takeAway_46 rfl (lv_at hl 0 rfl) ?_
      refine lv_ldc2 (v := 2147483647) hx hb hown (hts _ coX1_78) dX1_takeAway_47 ?_
      refine lv_land hx hb dX1_takeAway_50 ?_
      refine lv_l2i (v := (v14 &&& 2147483647).toInt32) hx hb dX1_takeAway_51 rfl ?_
      refine lv_isub hx hb dX1_takeAway_52 ?_
      obtain ⟨v18, ev18, hf⟩ := g_let_spec hf
      refine g_topi ev18 ?_
      refine lv_istore (lv' := [(6, .int v18), (3, .long v14), (0, .ref x0), (1, .int x1), (2, .int x2), (5, .int x5)]) hx hb dX1_takeAway_53 hl (by decide) rfl (fun ls hl => ?_)
      refine lv_aload_n hx hb dX1_takeAway_55 rfl (lv_at hl 2 rfl) ?_
      obtain ⟨v19, hv19, hf⟩ := g_bind hf
      refine g_getr hx hb hts hown hK hG hv19 rfl iX1 (by decide) flX1_20 dX1_takeAway_56 ?_
      obtain ⟨v20, hv20, hf⟩ := g_bind hf
      refine g_getr hx hb hts hown hK hG hv20 rfl iX3 (by decide) flX1_42 dX1_takeAway_59 ?_
      refine lv_iload_n hx hb dX1_takeAway_62 rfl (lv_at hl 4 rfl) ?_
      refine lv_iload hx hb dX1_takeAway_63 (lv_at hl 5 rfl) ?_
      refine lv_iadd hx hb dX1_takeAway_65 ?_
      refine lv_iload hx hb dX1_takeAway_66 (lv_at hl 0 rfl) ?_
      refine lv_ldc (v := 2147483647) hx hb hown (hts _ coX1_80) dX1_takeAway_68 ?_
      refine lv_iand hx hb dX1_takeAway_70 ?_
      obtain ⟨σ21, hσ21, hf⟩ := g_bind hf
      refine g_iast hx hb hK hG hS hσ21 rfl dX1_takeAway_71 (fun H locs hG hS => ?_)
      refine lv_lload_n hx hb dX1_takeAway_72 rfl (lv_at hl 1 rfl) ?_
      refine lv_bipush (v := 31) hx hb dX1_takeAway_73 (by decide +kernel) ?_
      refine lv_lushr (v := g_lushr v14 31) hx hb dX1_takeAway_75 rfl ?_
      refine lv_iload hx hb dX1_takeAway_76 (lv_at hl 0 rfl) ?_
      refine lv_bipush (v := 31) hx hb dX1_takeAway_78 (by decide +kernel) ?_
      refine lv_iushr (v := g_iushr v18 31) hx hb dX1_takeAway_80 rfl ?_
      refine lv_i2l (v := (g_iushr v18 31).toInt64) hx hb dX1_takeAway_81 rfl ?_
      refine lv_ladd hx hb dX1_takeAway_82 ?_
      obtain ⟨v22, ev22, hf⟩ := g_let_spec hf
      refine g_topl ev22 ?_
      refine lv_lstore_n (lv' := [(3, .long v22), (6, .int v18), (0, .ref x0), (1, .int x1), (2, .int x2), (5, .int x5)]) hx hb dX1_takeAway_83 rfl hl (by decide) rfl (fun ls hl => ?_)
      obtain ⟨v23, ev23, hf⟩ := g_let_spec hf
      refine lv_iinc (v := v23) (lv' := [(5, .int v23), (3, .long v22), (6, .int v18), (0, .ref x0), (1, .int x1), (2, .int x2)]) hx hb dX1_takeAway_84 hl (k := 5) rfl (by rw [← ev23]; rfl) (by decide) rfl (fun ls hl => ?_)
      refine lv_goto (tgt := 5) hx hb dX1_takeAway_87 (by decide) ?_
      exact hk5 _ _ _ _ _ _ _ _ _ hG hS (lv_sub hl [3, 4, 5, 1, 0] rfl) hf

set_option maxHeartbeats 4000000 in
set_option maxRecDepth 100000 in
theorem tX1_takeAway (l : Launch) (D : g_D) {σ : g_S} {x0 : Nat} {x1 : Int32} {x2 : Int32} {out : Int32 × g_S} (hf : fX1_takeAway σ x0 x1 x2 = some out) : Met l yX1_takeAway (Cond.code yX1_takeAway cX1_takeAway 7 (some .boolean) :: lw_g) rmX1_takeAway (g_P D σ [.ref x0, .int x1, .int x2]) (g_Q D out.2 (some (.int out.1))) 0 0 (g_A D) := by
  refine Met.ofW (cc := cX1_takeAway) (maxL := 7) (ret := (some .boolean)) (by decide +kernel) rfl ?_
  intro p e s m args below meth c s₁ B hml hv
  obtain ⟨rfl, hG, hK⟩ := hv
  have hts : ∀ w ∈ lw_g, w.before _ s = true := fun w h => atoms_spec (ws := (Cond.code yX1_takeAway cX1_takeAway 7 (some .boolean) :: lw_g)) B.pre w (List.mem_cons_of_mem _ h)
  have C : g_C RX1 cX1_takeAway 7 (some .boolean) True p s m _ meth c := ⟨B.exec, B.bytes, hml, findClass_of_methodNamed B.named, hts, B.returns, B.notSynchronized, trivial⟩
  obtain ⟨hx, hb, hml, hown, hts, hr, hlocks, hin⟩ := id C
  have hS : va_S (g_A D) s.heap s.heap [] := va_S.rf
  have hl := lv_entry ([.ref x0, .int x1, .int x2]) (n := 7) (Nat.le_of_ble_eq_true rfl)
  rw [lg_entry_eq]
  generalize (lg_sl ([.ref x0, .int x1, .int x2]) ++ List.replicate (7 - (lg_sl ([.ref x0, .int x1, .int x2])).length) Slot.unset).toArray = ls at hl ⊢
  have hl : lv_has ls 7 [(0, .ref x0), (1, .int x1), (2, .int x2)] := hl
  unfold fX1_takeAway at hf
  refine lv_lconst (v := 0) hx hb dX1_takeAway_0 (by decide +kernel) ?_
  refine lv_lstore_n (lv' := [(3, .long 0), (0, .ref x0), (1, .int x1), (2, .int x2)]) hx hb dX1_takeAway_1 rfl hl (by decide) rfl (fun ls hl => ?_)
  refine lv_iconst (v := 0) hx hb dX1_takeAway_2 (by decide +kernel) ?_
  refine lv_istore (lv' := [(5, .int 0), (3, .long 0), (0, .ref x0), (1, .int x1), (2, .int x2)]) hx hb dX1_takeAway_3 hl (by decide) rfl (fun ls hl => ?_)
  exact tLX1_takeAway_5 C hK  g_fuel _ _ _ _ _ _ _ _ _ hG hS (lv_sub hl [2, 3, 4, 1, 0] rfl) hf

def rmX1_divide : Room := { frames := 2, cells := 0, slots := 0, locals := 61 }
noncomputable def BX1_divide_15  (σ : g_S) (x0 : Nat) (x1 : Nat) : Option (g_S) := (g_fr σ 1 x0 0).bind fun v4 => (g_p σ 3 v4 1 (.int 0)).bind fun σ5 => (g_fr σ5 1 x0 1).bind fun v6 => (g_o σ5 3 v6).bind fun o7 => (fX3_become σ5 v6 x1).bind fun r8 => some r8
noncomputable def BX1_divide_149 (k116 : g_S → Nat → Nat → Int32 → Int32 → Int32 → Option (g_S)) (σ : g_S) (x0 : Nat) (x2 : Nat) (x3 : Int32) (x4 : Int32) (x5 : Int32) (x6 : Int32) : Option (g_S) := (g_fr σ 1 x0 0).bind fun v43 => (g_fr σ 3 v43 0).bind fun v44 => (g_si σ 0 v44 x5 x6).bind fun σ45 => g_let (x5 + (-1)) fun v46 => k116 σ45 x0 x2 x3 x4 v46
noncomputable def LX1_divide_116  : Nat → g_S → Nat → Nat → Int32 → Int32 → Int32 → Option (g_S)
  | 0, _, _, _, _, _, _ => none
  | n + 1, σ, x0, x2, x3, x4, x5 => if x5 < 0 then ((g_fr σ 1 x0 0).bind fun v28 => (g_o σ 3 v28).bind fun o29 => (fX3_trim σ v28 (x4 + 1)).bind fun r30 => (g_fr r30 1 x0 1).bind fun v31 => (g_fi r30 3 x2 1).bind fun v32 => (g_o r30 3 v31).bind fun o33 => (fX3_trim r30 v31 v32).bind fun r34 => (g_fr r34 1 x0 1).bind fun v35 => (g_o r34 3 v35).bind fun o36 => (fX3_moveDown r34 v35 x3).bind fun r37 => some r37) else ((g_o σ 1 x0).bind fun o38 => (fX1_guess σ x0 x5).bind fun r39 => (g_o r39.2 1 x0).bind fun o40 => (fX1_takeAway r39.2 x0 r39.1 x5).bind fun r41 => if r41.1 = 0 then (BX1_divide_149 (LX1_divide_116  n) r41.2 x0 x2 x3 x4 x5 r39.1) else ((g_o r41.2 1 x0).bind fun o47 => (fX1_giveBack r41.2 x0 x5).bind fun r48 => g_let (r39.1 + (-1)) fun v49 => BX1_divide_149 (LX1_divide_116  n) r48 x0 x2 x3 x4 x5 v49))
noncomputable def fX1_divide (σ : g_S) (x0 : Nat) (x1 : Nat) (x2 : Nat) : Option (g_S) := (g_o σ 3 x2).bind fun o1 => (fX3_isZero σ x2).bind fun r2 => if r2.1 = 0 then ((g_o r2.2 3 x1).bind fun o9 => (fX3_order r2.2 x1 x2).bind fun r10 => if 0 ≤ r10.1 then ((g_fi r10.2 3 x2 1).bind fun v12 => if v12 = 1 then ((g_fr r10.2 1 x0 0).bind fun v50 => (g_o r10.2 3 v50).bind fun o51 => (fX3_become r10.2 v50 x1).bind fun r52 => (g_fr r52 1 x0 1).bind fun v53 => (g_fr r52 1 x0 0).bind fun v54 => (g_fr r52 3 x2 0).bind fun v55 => (g_li r52 0 v55 0).bind fun v56 => (g_o r52 3 v54).bind fun o57 => (fX3_divideBy r52 v54 v56).bind fun r58 => (g_o r58.2 3 v53).bind fun o59 => (fX3_becomeUnsigned r58.2 v53 r58.1.toInt64).bind fun r60 => some r60) else ((g_fi r10.2 3 x2 1).bind fun v14 => (g_o r10.2 3 x2).bind fun o15 => (fX3_bitLength r10.2 x2).bind fun r16 => g_let ((v14 * 31) - r16.1) fun v17 => (g_fr r16.2 1 x0 2).bind fun v18 => (g_o r16.2 3 v18).bind fun o19 => (fX3_becomeMovedUp r16.2 v18 x2 v17).bind fun r20 => (g_fr r20 1 x0 1).bind fun v21 => (g_o r20 3 v21).bind fun o22 => (fX3_becomeMovedUp r20 v21 x1 v17).bind fun r23 => (g_fi r23 3 x1 1).bind fun v24 => (g_fi r23 3 x2 1).bind fun v25 => g_let (v24 - v25) fun v26 => LX1_divide_116 g_fuel r23 x0 x2 v17 v26 v26)) else (BX1_divide_15 r10.2 x0 x1)) else (BX1_divide_15 r2.2 x0 x1)
set_option maxHeartbeats 4000000 in
set_option maxRecDepth 100000 in
theorem tBX1_divide_15 {p : Program} {l : Launch} {e : Env} {s : State} {m : MethodId} {args : Array Value} {below : List Frame} {meth : Method} {c : Code} {D : g_D} {out : g_S} (C : g_C RX1 cX1_divide 7 none True p s m args meth c) (hK : g_K D s)  : ∀ (σ : g_S) (x0 : Nat) (x1 : Nat) (H : Heap) (locs : List Loc) (ls : Array Slot), g_H D σ H → va_S (g_A D) s.heap H locs → lv_has ls 7 [(0, .ref x0), (1, .ref x1)] → BX1_divide_15  σ x0 x1 = some out → W p l e rmX1_divide s m args below meth c H locs 0 0 (MQ below (g_Q D out (none)) args s 0 0 (g_A D)) (F0 m 15 ls []) := by
  obtain ⟨hx, hb, hml, hown, hts, hr, hlocks, hin⟩ := id C
  intro σ x0 x1 H locs ls hG hS hl hf
  unfold BX1_divide_15 at hf
  refine lv_aload_n hx hb dX1_divide_15 rfl (lv_at hl 0 rfl) ?_
  obtain ⟨v4, hv4, hf⟩ := g_bind hf
  refine g_getr hx hb hts hown hK hG hv4 rfl iX1 (by decide) flX1_14 dX1_divide_16 ?_
  refine lv_iconst (v := 0) hx hb dX1_divide_19 (by decide +kernel) ?_
  obtain ⟨σ5, hσ5, hf⟩ := g_bind hf
  refine g_put hx hb hts hown hK hG hS hσ5 rfl iX3 tyX3 tyX3_ok nmX3 (by decide) flX1_34 rfl rfl rfl dX1_divide_20 (fun H locs hG hS => ?_)
  refine lv_aload_n hx hb dX1_divide_23 rfl (lv_at hl 0 rfl) ?_
  obtain ⟨v6, hv6, hf⟩ := g_bind hf
  refine g_getr hx hb hts hown hK hG hv6 rfl iX1 (by decide) flX1_20 dX1_divide_24 ?_
  refine lv_aload_n hx hb dX1_divide_27 rfl (lv_at hl 1 rfl) ?_
  obtain ⟨o7, ho7, hf⟩ := g_bind hf
  obtain ⟨r8, hr8, hf⟩ := g_bind hf
  refine g_callV hx hb hml hl.1 hts hown hK hG hS (As := [.ref x1]) (rest := []) (tX3_become l D hr8) vX3_become mlX1_38 ho7 rfl rfl rfl rfl ⟨Nat.le_of_ble_eq_true rfl, Nat.le_of_ble_eq_true rfl⟩ rfl rfl (Nat.le_of_ble_eq_true rfl) ⟨Nat.le_of_ble_eq_true rfl, Nat.le_of_ble_eq_true rfl⟩ dX1_divide_28 (fun H locs hG hS => ?_)
  cases hf
  exact g_vret hx hb hr hlocks hG hS dX1_divide_31

set_option maxHeartbeats 4000000 in
set_option maxRecDepth 100000 in
theorem tBX1_divide_149 {p : Program} {l : Launch} {e : Env} {s : State} {m : MethodId} {args : Array Value} {below : List Frame} {meth : Method} {c : Code} {D : g_D} {out : g_S} (C : g_C RX1 cX1_divide 7 none True p s m args meth c) (hK : g_K D s) (k116 : g_S → Nat → Nat → Int32 → Int32 → Int32 → Option (g_S)) (hk116 : ∀ (σ : g_S) (x0 : Nat) (x2 : Nat) (x3 : Int32) (x4 : Int32) (x5 : Int32) (H : Heap) (locs : List Loc) (ls : Array Slot), g_H D σ H → va_S (g_A D) s.heap H locs → lv_has ls 7 [(0, .ref x0), (2, .ref x2), (3, .int x3), (4, .int x4), (5, .int x5)] → k116 σ x0 x2 x3 x4 x5 = some out → W p l e rmX1_divide s m args below meth c H locs 0 0 (MQ below (g_Q D out (none)) args s 0 0 (g_A D)) (F0 m 116 ls [])) : ∀ (σ : g_S) (x0 : Nat) (x2 : Nat) (x3 : Int32) (x4 : Int32) (x5 : Int32) (x6 : Int32) (H : Heap) (locs : List Loc) (ls : Array Slot), g_H D σ H → va_S (g_A D) s.heap H locs → lv_has ls 7 [(0, .ref x0), (2, .ref x2), (3, .int x3), (4, .int x4), (5, .int x5), (6, .int x6)] → BX1_divide_149 k116 σ x0 x2 x3 x4 x5 x6 = some out → W p l e rmX1_divide s m args below meth c H locs 0 0 (MQ below (g_Q D out (none)) args s 0 0 (g_A D)) (F0 m 149 ls []) := by
  obtain ⟨hx, hb, hml, hown, hts, hr, hlocks, hin⟩ := id C
  intro σ x0 x2 x3 x4 x5 x6 H locs ls hG hS hl hf
  unfold BX1_divide_149 at hf
  refine lv_aload_n hx hb dX1_divide_149 rfl (lv_at hl 0 rfl) ?_
  obtain ⟨v43, hv43, hf⟩ := g_bind hf
  refine g_getr hx hb hts hown hK hG hv43 rfl iX1 (by decide) flX1_14 dX1_divide_150 ?_
  obtain ⟨v44, hv44, hf⟩ := g_bind hf
  refine g_getr hx hb hts hown hK hG hv44 rfl iX3 (by decide) flX1_42 dX1_divide_153 ?_
  refine lv_iload hx hb dX1_divide_156 (lv_at hl 4 rfl) ?_
  refine lv_iload hx hb dX1_divide_158 (lv_at hl 5 rfl) ?_
  obtain ⟨σ45, hσ45, hf⟩ := g_bind hf
  refine g_iast hx hb hK hG hS hσ45 rfl dX1_divide_160 (fun H locs hG hS => ?_)
  obtain ⟨v46, ev46, hf⟩ := g_let_spec hf
  refine lv_iinc (v := v46) (lv' := [(5, .int v46), (0, .ref x0), (2, .ref x2), (3, .int x3), (4, .int x4), (6, .int x6)]) hx hb dX1_divide_161 hl (k := 4) rfl (by rw [← ev46]; rfl) (by decide) rfl (fun ls hl => ?_)
  refine lv_goto (tgt := 116) hx hb dX1_divide_164 (by decide) ?_
  exact hk116 _ _ _ _ _ _ _ _ _ hG hS (lv_sub hl [1, 2, 3, 4, 0] rfl) hf

set_option maxHeartbeats 4000000 in
set_option maxRecDepth 100000 in
theorem tLX1_divide_116 {p : Program} {l : Launch} {e : Env} {s : State} {m : MethodId} {args : Array Value} {below : List Frame} {meth : Method} {c : Code} {D : g_D} {out : g_S} (C : g_C RX1 cX1_divide 7 none True p s m args meth c) (hK : g_K D s)  : ∀ (n : Nat) (σ : g_S) (x0 : Nat) (x2 : Nat) (x3 : Int32) (x4 : Int32) (x5 : Int32) (H : Heap) (locs : List Loc) (ls : Array Slot), g_H D σ H → va_S (g_A D) s.heap H locs → lv_has ls 7 [(0, .ref x0), (2, .ref x2), (3, .int x3), (4, .int x4), (5, .int x5)] → LX1_divide_116  n σ x0 x2 x3 x4 x5 = some out → W p l e rmX1_divide s m args below meth c H locs 0 0 (MQ below (g_Q D out (none)) args s 0 0 (g_A D)) (F0 m 116 ls [])  := by
  obtain ⟨hx, hb, hml, hown, hts, hr, hlocks, hin⟩ := id C
  intro n
  induction n with
  | zero => intro σ x0 x2 x3 x4 x5 H locs ls hG hS hl hf; cases hf
  | succ n ih =>
    intro σ x0 x2 x3 x4 x5 H locs ls hG hS hl hf
    have hf : (if x5 < 0 then ((g_fr σ 1 x0 0).bind fun v28 => (g_o σ 3 v28).bind fun o29 => (fX3_trim σ v28 (x4 + 1)).bind fun r30 => (g_fr r30 1 x0 1).bind fun v31 => (g_fi r30 3 x2 1).bind fun v32 => (g_o r30 3 v31).bind fun o33 => (fX3_trim r30 v31 v32).bind fun r34 => (g_fr r34 1 x0 1).bind fun v35 => (g_o r34 3 v35).bind fun o36 => (fX3_moveDown r34 v35 x3).bind fun r37 => some r37) else ((g_o σ 1 x0).bind fun o38 => (fX1_guess σ x0 x5).bind fun r39 => (g_o r39.2 1 x0).bind fun o40 => (fX1_takeAway r39.2 x0 r39.1 x5).bind fun r41 => if r41.1 = 0 then (BX1_divide_149 (LX1_divide_116  n) r41.2 x0 x2 x3 x4 x5 r39.1) else ((g_o r41.2 1 x0).bind fun o47 => (fX1_giveBack r41.2 x0 x5).bind fun r48 => g_let (r39.1 + (-1)) fun v49 => BX1_divide_149 (LX1_divide_116  n) r48 x0 x2 x3 x4 x5 v49))) = some out := hf
    have hk116 := ih
    refine lv_iload hx hb dX1_divide_116 (lv_at hl 4 rfl) ?_
    refine lv_if_lt (tgt := 167) hx hb dX1_divide_118 (by decide) (fun c27 => ?_) (fun c27 => ?_)
    · rw [if_pos c27] at hf
      refine lv_aload_n hx hb dX1_divide_167 rfl (lv_at hl 0 rfl) ?_
      obtain ⟨v28, hv28, hf⟩ := g_bind hf
      refine g_getr hx hb hts hown hK hG hv28 rfl iX1 (by decide) flX1_14 dX1_divide_168 ?_
      refine lv_iload hx hb dX1_divide_171 (lv_at hl 3 rfl) ?_
      refine lv_iconst (v := 1) hx hb dX1_divide_173 (by decide +kernel) ?_
      refine lv_iadd hx hb dX1_divide_174 ?_
      obtain ⟨o29, ho29, hf⟩ := g_bind hf
      obtain ⟨r30, hr30, hf⟩ := g_bind hf
      refine g_callV hx hb hml hl.1 hts hown hK hG hS (As := [.int (x4 + 1)]) (rest := []) (tX3_trim l D hr30) vX3_trim mlX1_72 ho29 rfl rfl rfl rfl ⟨Nat.le_of_ble_eq_true rfl, Nat.le_of_ble_eq_true rfl⟩ rfl rfl (Nat.le_of_ble_eq_true rfl) ⟨Nat.le_of_ble_eq_true rfl, Nat.le_of_ble_eq_true rfl⟩ dX1_divide_175 (fun H locs hG hS => ?_)
      refine lv_aload_n hx hb dX1_divide_178 rfl (lv_at hl 0 rfl) ?_
      obtain ⟨v31, hv31, hf⟩ := g_bind hf
      refine g_getr hx hb hts hown hK hG hv31 rfl iX1 (by decide) flX1_20 dX1_divide_179 ?_
      refine lv_aload_n hx hb dX1_divide_182 rfl (lv_at hl 1 rfl) ?_
      obtain ⟨v32, hv32, hf⟩ := g_bind hf
      refine g_geti hx hb hts hown hK hG hv32 rfl iX3 (by decide) flX1_34 dX1_divide_183 ?_
      obtain ⟨o33, ho33, hf⟩ := g_bind hf
      obtain ⟨r34, hr34, hf⟩ := g_bind hf
      refine g_callV hx hb hml hl.1 hts hown hK hG hS (As := [.int v32]) (rest := []) (tX3_trim l D hr34) vX3_trim mlX1_72 ho33 rfl rfl rfl rfl ⟨Nat.le_of_ble_eq_true rfl, Nat.le_of_ble_eq_true rfl⟩ rfl rfl (Nat.le_of_ble_eq_true rfl) ⟨Nat.le_of_ble_eq_true rfl, Nat.le_of_ble_eq_true rfl⟩ dX1_divide_186 (fun H locs hG hS => ?_)
      refine lv_aload_n hx hb dX1_divide_189 rfl (lv_at hl 0 rfl) ?_
      obtain ⟨v35, hv35, hf⟩ := g_bind hf
      refine g_getr hx hb hts hown hK hG hv35 rfl iX1 (by decide) flX1_20 dX1_divide_190 ?_
      refine lv_iload_n hx hb dX1_divide_193 rfl (lv_at hl 2 rfl) ?_
      obtain ⟨o36, ho36, hf⟩ := g_bind hf
      obtain ⟨r37, hr37, hf⟩ := g_bind hf
      refine g_callV hx hb hml hl.1 hts hown hK hG hS (As := [.int x3]) (rest := []) (tX3_moveDown l D hr37) vX3_moveDown mlX1_75 ho36 rfl rfl rfl rfl ⟨Nat.le_of_ble_eq_true rfl, Nat.le_of_ble_eq_true rfl⟩ rfl rfl (Nat.le_of_ble_eq_true rfl) ⟨Nat.le_of_ble_eq_true rfl, Nat.le_of_ble_eq_true rfl⟩ dX1_divide_194 (fun H locs hG hS => ?_)
      cases hf
      exact g_vret hx hb hr hlocks hG hS dX1_divide_197
    · rw [if_neg c27] at hf
      refine lv_aload_n hx hb dX1_divide_121 rfl (lv_at hl 0 rfl) ?_
      refine lv_iload hx hb dX1_divide_122 (lv_at hl 4 rfl) ?_
      obtain ⟨o38, ho38, hf⟩ := g_bind hf
      obtain ⟨r39, hr39, hf⟩ := g_bind hf
      refine g_callV hx hb hml hl.1 hts hown hK hG hS (As := [.int x5]) (rest := []) (tX1_guess l D hr39) vX1_guess mlX1_62 ho38 rfl rfl rfl rfl ⟨Nat.le_of_ble_eq_true rfl, Nat.le_of_ble_eq_true rfl⟩ rfl rfl (Nat.le_of_ble_eq_true rfl) ⟨Nat.le_of_ble_eq_true rfl, Nat.le_of_ble_eq_true rfl⟩ dX1_divide_124 (fun H locs hG hS => ?_)
      refine lv_istore (lv' := [(6, .int r39.1), (0, .ref x0), (2, .ref x2), (3, .int x3), (4, .int x4), (5, .int x5)]) hx hb dX1_divide_127 hl (by decide) rfl (fun ls hl => ?_)
      refine lv_aload_n hx hb dX1_divide_129 rfl (lv_at hl 1 rfl) ?_
      refine lv_iload hx hb dX1_divide_130 (lv_at hl 0 rfl) ?_
      refine lv_iload hx hb dX1_divide_132 (lv_at hl 5 rfl) ?_
      obtain ⟨o40, ho40, hf⟩ := g_bind hf
      obtain ⟨r41, hr41, hf⟩ := g_bind hf
      refine g_callV hx hb hml hl.1 hts hown hK hG hS (As := [.int r39.1, .int x5]) (rest := []) (tX1_takeAway l D hr41) vX1_takeAway mlX1_65 ho40 rfl rfl rfl rfl ⟨Nat.le_of_ble_eq_true rfl, Nat.le_of_ble_eq_true rfl⟩ rfl rfl (Nat.le_of_ble_eq_true rfl) ⟨Nat.le_of_ble_eq_true rfl, Nat.le_of_ble_eq_true rfl⟩ dX1_divide_134 (fun H locs hG hS => ?_)
      refine lv_if_eq (tgt := 149) hx hb dX1_divide_137 (by decide) (fun c42 => ?_) (fun c42 => ?_)
      · rw [if_pos c42] at hf
        exact tBX1_divide_149 C hK (LX1_divide_116  n) hk116  _ _ _ _ _ _ _ _ _ _ hG hS (lv_sub hl [1, 2, 3, 4, 5, 0] rfl) hf
      · rw [if_neg c42] at hf
        refine lv_aload_n hx hb dX1_divide_140 rfl (lv_at hl 1 rfl) ?_
        refine lv_iload hx hb dX1_divide_141 (lv_at hl 5 rfl) ?_
        obtain ⟨o47, ho47, hf⟩ := g_bind hf
        obtain ⟨r48, hr48, hf⟩ := g_bind hf
        refine g_callV hx hb hml hl.1 hts hown hK hG hS (As := [.int x5]) (rest := []) (tX1_giveBack l D hr48) vX1_giveBack mlX1_69 ho47 rfl rfl rfl rfl ⟨Nat.le_of_ble_eq_true rfl, Nat.le_of_ble_eq_true rfl⟩ rfl rfl (Nat.le_of_ble_eq_true rfl) ⟨Nat.le_of_ble_eq_true rfl, Nat.le_of_ble_eq_true rfl⟩ dX1_divide_143 (fun H locs hG hS => ?_)
        obtain ⟨v49, ev49, hf⟩ := g_let_spec hf
        refine lv_iinc (v := v49) (lv' := [(6, .int v49), (0, .ref x0), (2, .ref x2), (3, .int x3), (4, .int x4), (5, .int x5)]) hx hb dX1_divide_146 hl (k := 0) rfl (by rw [← ev49]; rfl) (by decide) rfl (fun ls hl => ?_)
        exact tBX1_divide_149 C hK (LX1_divide_116  n) hk116  _ _ _ _ _ _ _ _ _ _ hG hS (lv_sub hl [1, 2, 3, 4, 5, 0] rfl) hf

set_option maxHeartbeats 4000000 in
set_option maxRecDepth 100000 in
theorem tX1_divide (l : Launch) (D : g_D) {σ : g_S} {x0 : Nat} {x1 : Nat} {x2 : Nat} {out : g_S} (hf : fX1_divide σ x0 x1 x2 = some out) : Met l yX1_divide (Cond.code yX1_divide cX1_divide 7 none :: lw_g) rmX1_divide (g_P D σ [.ref x0, .ref x1, .ref x2]) (g_Q D out (none)) 0 0 (g_A D) := by
  refine Met.ofW (cc := cX1_divide) (maxL := 7) (ret := none) (by decide +kernel) rfl ?_
  intro p e s m args below meth c s₁ B hml hv
  obtain ⟨rfl, hG, hK⟩ := hv
  have hts : ∀ w ∈ lw_g, w.before _ s = true := fun w h => atoms_spec (ws := (Cond.code yX1_divide cX1_divide 7 none :: lw_g)) B.pre w (List.mem_cons_of_mem _ h)
  have C : g_C RX1 cX1_divide 7 none True p s m _ meth c := ⟨B.exec, B.bytes, hml, findClass_of_methodNamed B.named, hts, B.returns, B.notSynchronized, trivial⟩
  obtain ⟨hx, hb, hml, hown, hts, hr, hlocks, hin⟩ := id C
  have hS : va_S (g_A D) s.heap s.heap [] := va_S.rf
  have hl := lv_entry ([.ref x0, .ref x1, .ref x2]) (n := 7) (Nat.le_of_ble_eq_true rfl)
  rw [lg_entry_eq]
  generalize (lg_sl ([.ref x0, .ref x1, .ref x2]) ++ List.replicate (7 - (lg_sl ([.ref x0, .ref x1, .ref x2])).length) Slot.unset).toArray = ls at hl ⊢
  have hl : lv_has ls 7 [(0, .ref x0), (1, .ref x1), (2, .ref x2)] := hl
  unfold fX1_divide at hf
  refine lv_aload_n hx hb dX1_divide_0 rfl (lv_at hl 2 rfl) ?_
  obtain ⟨o1, ho1, hf⟩ := g_bind hf
  obtain ⟨r2, hr2, hf⟩ := g_bind hf
  refine g_callV hx hb hml hl.1 hts hown hK hG hS (As := []) (rest := []) (tX3_isZero l D hr2) vX3_isZero mlX1_26 ho1 rfl rfl rfl rfl ⟨Nat.le_of_ble_eq_true rfl, Nat.le_of_ble_eq_true rfl⟩ rfl rfl (Nat.le_of_ble_eq_true rfl) ⟨Nat.le_of_ble_eq_true rfl, Nat.le_of_ble_eq_true rfl⟩ dX1_divide_1 (fun H locs hG hS => ?_)
  refine lv_if_ne (tgt := 15) hx hb dX1_divide_4 (by decide) (fun c3 => ?_) (fun c3 => ?_)
  · rw [if_neg c3] at hf
    exact tBX1_divide_15 C hK   _ _ _ _ _ _ hG hS (lv_sub hl [0, 1] rfl) hf
  · rw [if_pos c3] at hf
    refine lv_aload_n hx hb dX1_divide_7 rfl (lv_at hl 1 rfl) ?_
    refine lv_aload_n hx hb dX1_divide_8 rfl (lv_at hl 2 rfl) ?_
    obtain ⟨o9, ho9, hf⟩ := g_bind hf
    obtain ⟨r10, hr10, hf⟩ := g_bind hf
    refine g_callV hx hb hml hl.1 hts hown hK hG hS (As := [.ref x2]) (rest := []) (tX3_order l D hr10) vX3_order mlX1_30 ho9 rfl rfl rfl rfl ⟨Nat.le_of_ble_eq_true rfl, Nat.le_of_ble_eq_true rfl⟩ rfl rfl (Nat.le_of_ble_eq_true rfl) ⟨Nat.le_of_ble_eq_true rfl, Nat.le_of_ble_eq_true rfl⟩ dX1_divide_9 (fun H locs hG hS => ?_)
    refine lv_if_ge (tgt := 32) hx hb dX1_divide_12 (by decide) (fun c11 => ?_) (fun c11 => ?_)
    · rw [if_pos c11] at hf
      refine lv_aload_n hx hb dX1_divide_32 rfl (lv_at hl 2 rfl) ?_
      obtain ⟨v12, hv12, hf⟩ := g_bind hf
      refine g_geti hx hb hts hown hK hG hv12 rfl iX3 (by decide) flX1_34 dX1_divide_33 ?_
      refine lv_iconst (v := 1) hx hb dX1_divide_36 (by decide +kernel) ?_
      refine lv_icmp_ne (tgt := 70) hx hb dX1_divide_37 (by decide) (fun c13 => ?_) (fun c13 => ?_)
      · rw [if_neg c13] at hf
        refine lv_aload_n hx hb dX1_divide_70 rfl (lv_at hl 2 rfl) ?_
        obtain ⟨v14, hv14, hf⟩ := g_bind hf
        refine g_geti hx hb hts hown hK hG hv14 rfl iX3 (by decide) flX1_34 dX1_divide_71 ?_
        refine lv_bipush (v := 31) hx hb dX1_divide_74 (by decide +kernel) ?_
        refine lv_imul hx hb dX1_divide_76 ?_
        refine lv_aload_n hx hb dX1_divide_77 rfl (lv_at hl 2 rfl) ?_
        obtain ⟨o15, ho15, hf⟩ := g_bind hf
        obtain ⟨r16, hr16, hf⟩ := g_bind hf
        refine g_callV hx hb hml hl.1 hts hown hK hG hS (As := []) (rest := [.int (v14 * 31)]) (tX3_bitLength l D hr16) vX3_bitLength mlX1_54 ho15 rfl rfl rfl rfl ⟨Nat.le_of_ble_eq_true rfl, Nat.le_of_ble_eq_true rfl⟩ rfl rfl (Nat.le_of_ble_eq_true rfl) ⟨Nat.le_of_ble_eq_true rfl, Nat.le_of_ble_eq_true rfl⟩ dX1_divide_78 (fun H locs hG hS => ?_)
        refine lv_isub hx hb dX1_divide_81 ?_
        obtain ⟨v17, ev17, hf⟩ := g_let_spec hf
        refine g_topi ev17 ?_
        refine lv_istore_n (lv' := [(3, .int v17), (0, .ref x0), (1, .ref x1), (2, .ref x2)]) hx hb dX1_divide_82 rfl hl (by decide) rfl (fun ls hl => ?_)
        refine lv_aload_n hx hb dX1_divide_83 rfl (lv_at hl 1 rfl) ?_
        obtain ⟨v18, hv18, hf⟩ := g_bind hf
        refine g_getr hx hb hts hown hK hG hv18 rfl iX1 (by decide) flX1_23 dX1_divide_84 ?_
        refine lv_aload_n hx hb dX1_divide_87 rfl (lv_at hl 3 rfl) ?_
        refine lv_iload_n hx hb dX1_divide_88 rfl (lv_at hl 0 rfl) ?_
        obtain ⟨o19, ho19, hf⟩ := g_bind hf
        obtain ⟨r20, hr20, hf⟩ := g_bind hf
        refine g_callV hx hb hml hl.1 hts hown hK hG hS (As := [.ref x2, .int v17]) (rest := []) (tX3_becomeMovedUp l D hr20) vX3_becomeMovedUp mlX1_58 ho19 rfl rfl rfl rfl ⟨Nat.le_of_ble_eq_true rfl, Nat.le_of_ble_eq_true rfl⟩ rfl rfl (Nat.le_of_ble_eq_true rfl) ⟨Nat.le_of_ble_eq_true rfl, Nat.le_of_ble_eq_true rfl⟩ dX1_divide_89 (fun H locs hG hS => ?_)
        refine lv_aload_n hx hb dX1_divide_92 rfl (lv_at hl 1 rfl) ?_
        obtain ⟨v21, hv21, hf⟩ := g_bind hf
        refine g_getr hx hb hts hown hK hG hv21 rfl iX1 (by decide) flX1_20 dX1_divide_93 ?_
        refine lv_aload_n hx hb dX1_divide_96 rfl (lv_at hl 2 rfl) ?_
        refine lv_iload_n hx hb dX1_divide_97 rfl (lv_at hl 0 rfl) ?_
        obtain ⟨o22, ho22, hf⟩ := g_bind hf
        obtain ⟨r23, hr23, hf⟩ := g_bind hf
        refine g_callV hx hb hml hl.1 hts hown hK hG hS (As := [.ref x1, .int v17]) (rest := []) (tX3_becomeMovedUp l D hr23) vX3_becomeMovedUp mlX1_58 ho22 rfl rfl rfl rfl ⟨Nat.le_of_ble_eq_true rfl, Nat.le_of_ble_eq_true rfl⟩ rfl rfl (Nat.le_of_ble_eq_true rfl) ⟨Nat.le_of_ble_eq_true rfl, Nat.le_of_ble_eq_true rfl⟩ dX1_divide_98 (fun H locs hG hS => ?_)
        refine lv_aload_n hx hb dX1_divide_101 rfl (lv_at hl 2 rfl) ?_
        obtain ⟨v24, hv24, hf⟩ := g_bind hf
        refine g_geti hx hb hts hown hK hG hv24 rfl iX3 (by decide) flX1_34 dX1_divide_102 ?_
        refine lv_aload_n hx hb dX1_divide_105 rfl (lv_at hl 3 rfl) ?_
        obtain ⟨v25, hv25, hf⟩ := g_bind hf
        refine g_geti hx hb hts hown hK hG hv25 rfl iX3 (by decide) flX1_34 dX1_divide_106 ?_
        refine lv_isub hx hb dX1_divide_109 ?_
        obtain ⟨v26, ev26, hf⟩ := g_let_spec hf
        refine g_topi ev26 ?_
        refine lv_istore (lv' := [(4, .int v26), (3, .int v17), (0, .ref x0), (1, .ref x1), (2, .ref x2)]) hx hb dX1_divide_110 hl (by decide) rfl (fun ls hl => ?_)
        refine lv_iload hx hb dX1_divide_112 (lv_at hl 0 rfl) ?_
        refine lv_istore (lv' := [(5, .int v26), (4, .int v26), (3, .int v17), (0, .ref x0), (1, .ref x1), (2, .ref x2)]) hx hb dX1_divide_114 hl (by decide) rfl (fun ls hl => ?_)
        exact tLX1_divide_116 C hK  g_fuel _ _ _ _ _ _ _ _ _ hG hS (lv_sub hl [3, 5, 2, 1, 0] rfl) hf
      · rw [if_pos c13] at hf
        refine lv_aload_n hx hb dX1_divide_40 rfl (lv_at hl 0 rfl) ?_
        obtain ⟨v50, hv50, hf⟩ := g_bind hf
        refine g_getr hx hb hts hown hK hG hv50 rfl iX1 (by decide) flX1_14 dX1_divide_41 ?_
        refine lv_aload_n hx hb dX1_divide_44 rfl (lv_at hl 1 rfl) ?_
        obtain ⟨o51, ho51, hf⟩ := g_bind hf
        obtain ⟨r52, hr52, hf⟩ := g_bind hf
        refine g_callV hx hb hml hl.1 hts hown hK hG hS (As := [.ref x1]) (rest := []) (tX3_become l D hr52) vX3_become mlX1_38 ho51 rfl rfl rfl rfl ⟨Nat.le_of_ble_eq_true rfl, Nat.le_of_ble_eq_true rfl⟩ rfl rfl (Nat.le_of_ble_eq_true rfl) ⟨Nat.le_of_ble_eq_true rfl, Nat.le_of_ble_eq_true rfl⟩ dX1_divide_45 (fun H locs hG hS => ?_)
        refine lv_aload_n hx hb dX1_divide_48 rfl (lv_at hl 0 rfl) ?_
        obtain ⟨v53, hv53, hf⟩ := g_bind hf
        refine g_getr hx hb hts hown hK hG hv53 rfl iX1 (by decide) flX1_20 dX1_divide_49 ?_
        refine lv_aload_n hx hb dX1_divide_52 rfl (lv_at hl 0 rfl) ?_
        obtain ⟨v54, hv54, hf⟩ := g_bind hf
        refine g_getr hx hb hts hown hK hG hv54 rfl iX1 (by decide) flX1_14 dX1_divide_53 ?_
        refine lv_aload_n hx hb dX1_divide_56 rfl (lv_at hl 2 rfl) ?_
        obtain ⟨v55, hv55, hf⟩ := g_bind hf
        refine g_getr hx hb hts hown hK hG hv55 rfl iX3 (by decide) flX1_42 dX1_divide_57 ?_
        refine lv_iconst (v := 0) hx hb dX1_divide_60 (by decide +kernel) ?_
        obtain ⟨v56, hv56, hf⟩ := g_bind hf
        refine g_iald hx hb hK hG hv56 rfl dX1_divide_61 ?_
        obtain ⟨o57, ho57, hf⟩ := g_bind hf
        obtain ⟨r58, hr58, hf⟩ := g_bind hf
        refine g_callV hx hb hml hl.1 hts hown hK hG hS (As := [.int v56]) (rest := [.ref v53]) (tX3_divideBy l D hr58) vX3_divideBy mlX1_46 ho57 rfl rfl rfl rfl ⟨Nat.le_of_ble_eq_true rfl, Nat.le_of_ble_eq_true rfl⟩ rfl rfl (Nat.le_of_ble_eq_true rfl) ⟨Nat.le_of_ble_eq_true rfl, Nat.le_of_ble_eq_true rfl⟩ dX1_divide_62 (fun H locs hG hS => ?_)
        refine lv_i2l (v := r58.1.toInt64) hx hb dX1_divide_65 rfl ?_
        obtain ⟨o59, ho59, hf⟩ := g_bind hf
        obtain ⟨r60, hr60, hf⟩ := g_bind hf
        refine g_callV hx hb hml hl.1 hts hown hK hG hS (As := [.long r58.1.toInt64]) (rest := []) (tX3_becomeUnsigned l D hr60) vX3_becomeUnsigned mlX1_50 ho59 rfl rfl rfl rfl ⟨Nat.le_of_ble_eq_true rfl, Nat.le_of_ble_eq_true rfl⟩ rfl rfl (Nat.le_of_ble_eq_true rfl) ⟨Nat.le_of_ble_eq_true rfl, Nat.le_of_ble_eq_true rfl⟩ dX1_divide_66 (fun H locs hG hS => ?_)
        cases hf
        exact g_vret hx hb hr hlocks hG hS dX1_divide_69
    · rw [if_neg c11] at hf
      exact tBX1_divide_15 C hK   _ _ _ _ _ _ hG hS (lv_sub hl [0, 1] rfl) hf

