def rmX0_init : Room := { frames := 3, cells := 11, slots := 693, locals := 62 }
noncomputable def fX0_init (σ : g_S) (x0 : Nat) : Option (g_S) := g_let σ.2 fun a2 => g_let (g_mk σ (.inr (1, [.null, .null, .null]))) fun σ1 => (fX1_init σ1 a2).bind fun r3 => (g_p r3 0 x0 0 (.ref a2)).bind fun σ4 => g_let σ4.2 fun a6 => g_let (g_mk σ4 (.inr (3, [.null, .int 0]))) fun σ5 => (fX3_init σ5 a6 136).bind fun r7 => (g_p r7 0 x0 1 (.ref a6)).bind fun σ8 => g_let σ8.2 fun a10 => g_let (g_mk σ8 (.inr (3, [.null, .int 0]))) fun σ9 => (fX3_init σ9 a10 136).bind fun r11 => (g_p r11 0 x0 2 (.ref a10)).bind fun σ12 => some σ12
set_option maxHeartbeats 4000000 in
set_option maxRecDepth 100000 in
theorem tX0_init (l : Launch) (D : g_D) {σ : g_S} {x0 : Nat} {out : g_S} (hf : fX0_init σ x0 = some out) : Met l yX0_init (Cond.code yX0_init cX0_init 1 none :: lw_g) rmX0_init (g_P D σ [.ref x0]) (g_Q D out (none)) 11 693 (g_A D) := by
  refine Met.ofW (cc := cX0_init) (maxL := 1) (ret := none) (by decide +kernel) rfl ?_
  intro p e s m args below meth c s₁ B hml hv
  obtain ⟨rfl, hG, hK⟩ := hv
  have hts : ∀ w ∈ lw_g, w.before _ s = true := fun w h => atoms_spec (ws := (Cond.code yX0_init cX0_init 1 none :: lw_g)) B.pre w (List.mem_cons_of_mem _ h)
  have C : g_C RX0 cX0_init 1 none (meth.name = "<init>") p s m _ meth c := ⟨B.exec, B.bytes, hml, findClass_of_methodNamed B.named, hts, B.returns, B.notSynchronized, (name_of_methodNamed B.named B.method).1⟩
  obtain ⟨hx, hb, hml, hown, hts, hr, hlocks, hin⟩ := id C
  have hS : va_S (g_A D) s.heap s.heap [] := va_S.rf
  have hl := lv_entry ([.ref x0]) (n := 1) (Nat.le_of_ble_eq_true rfl)
  rw [lg_entry_eq]
  generalize (lg_sl ([.ref x0]) ++ List.replicate (1 - (lg_sl ([.ref x0])).length) Slot.unset).toArray = ls at hl ⊢
  have hl : lv_has ls 1 [(0, .ref x0)] := hl
  unfold fX0_init at hf
  refine lv_aload_n hx hb dX0_init_0 rfl (lv_at hl 0 rfl) ?_
  refine W.objInit hx hb hown (hts _ oi_lX0) (hts _ oi_i) (hts _ oi_c) rfl (by rw [hml]; exact hl.1) rfl dX0_init_1 (Nat.le_of_ble_eq_true rfl) (Nat.le_of_ble_eq_true rfl) ?_
  refine W.eq (g2 := F0 m 4 ls []) rfl ?_
  refine lv_aload_n hx hb dX0_init_4 rfl (lv_at hl 0 rfl) ?_
  obtain ⟨a2, ea2, hf⟩ := g_let_spec hf
  obtain ⟨σ1, eσ1, hf⟩ := g_let_spec hf
  refine g_new (fs := [.null, .null, .null]) hx hb hts hown hK hG hS (ci := 1) rfl iX1 tyX1 tyX1_ok clX0_9 inX1 itX1 (fun j hj => by rcases (show j = 0 ∨ j = 1 ∨ j = 2 by omega) with rfl | rfl | rfl <;> rfl) (Nat.le_of_ble_eq_true rfl) (Nat.le_of_ble_eq_true rfl) dX0_init_5 (fun H hG hS => ?_)
  rw [eσ1] at hG
  rw [ea2]
  refine W.cs (cells' := 1) (slots' := 3) rfl rfl ?_
  refine lv_dup hx hb dX0_init_8 rfl ?_
  obtain ⟨r3, hr3, hf⟩ := g_bind hf
  refine g_callIN hx hb hml hl.1 hts hown hK hG hS (As := []) (rest := [.ref a2, .ref x0]) (tX1_init l D hr3) vX1_init (host := "FractionDesk") (by decide +kernel) rfl rfl ⟨Nat.le_of_ble_eq_true rfl, Nat.le_of_ble_eq_true rfl⟩ rfl rfl (Nat.le_of_ble_eq_true rfl) ⟨Nat.le_of_ble_eq_true rfl, Nat.le_of_ble_eq_true rfl⟩ dX0_init_9 (fun H locs hG hS => ?_)
  refine W.cs (cells' := 7) (slots' := 417) rfl rfl ?_
  obtain ⟨σ4, hσ4, hf⟩ := g_bind hf
  refine g_putF hx hb hts hown hin hK hG hS hσ4 rfl iX0 tyX0 tyX0_ok nmX0 (by decide) flX0_12 rfl rfl rfl rfl dX0_init_12 (fun H locs hG hS => ?_)
  refine lv_aload_n hx hb dX0_init_15 rfl (lv_at hl 0 rfl) ?_
  obtain ⟨a6, ea6, hf⟩ := g_let_spec hf
  obtain ⟨σ5, eσ5, hf⟩ := g_let_spec hf
  refine g_new (fs := [.null, .int 0]) hx hb hts hown hK hG hS (ci := 3) rfl iX3 tyX3 tyX3_ok clX0_18 inX3 itX3 (fun j hj => by rcases (show j = 0 ∨ j = 1 by omega) with rfl | rfl <;> rfl) (Nat.le_of_ble_eq_true rfl) (Nat.le_of_ble_eq_true rfl) dX0_init_16 (fun H hG hS => ?_)
  rw [eσ5] at hG
  rw [ea6]
  refine W.cs (cells' := 8) (slots' := 419) rfl rfl ?_
  refine lv_dup hx hb dX0_init_19 rfl ?_
  refine lv_sipush (v := 136) hx hb dX0_init_20 (by decide +kernel) ?_
  obtain ⟨r7, hr7, hf⟩ := g_bind hf
  refine g_callI hx hb hml hl.1 hts hown hK hG hS (As := [.int 136]) (rest := [.ref a6, .ref x0]) (tX3_init l D hr7) vX3_init mlX0_20 rfl rfl ⟨Nat.le_of_ble_eq_true rfl, Nat.le_of_ble_eq_true rfl⟩ rfl rfl (Nat.le_of_ble_eq_true rfl) ⟨Nat.le_of_ble_eq_true rfl, Nat.le_of_ble_eq_true rfl⟩ dX0_init_23 (fun H locs hG hS => ?_)
  refine W.cs (cells' := 9) (slots' := 555) rfl rfl ?_
  obtain ⟨σ8, hσ8, hf⟩ := g_bind hf
  refine g_put hx hb hts hown hK hG hS hσ8 rfl iX0 tyX0 tyX0_ok nmX0 (by decide) flX0_23 rfl rfl rfl dX0_init_26 (fun H locs hG hS => ?_)
  refine lv_aload_n hx hb dX0_init_29 rfl (lv_at hl 0 rfl) ?_
  obtain ⟨a10, ea10, hf⟩ := g_let_spec hf
  obtain ⟨σ9, eσ9, hf⟩ := g_let_spec hf
  refine g_new (fs := [.null, .int 0]) hx hb hts hown hK hG hS (ci := 3) rfl iX3 tyX3 tyX3_ok clX0_18 inX3 itX3 (fun j hj => by rcases (show j = 0 ∨ j = 1 by omega) with rfl | rfl <;> rfl) (Nat.le_of_ble_eq_true rfl) (Nat.le_of_ble_eq_true rfl) dX0_init_30 (fun H hG hS => ?_)
  rw [eσ9] at hG
  rw [ea10]
  refine W.cs (cells' := 10) (slots' := 557) rfl rfl ?_
  refine lv_dup hx hb dX0_init_33 rfl ?_
  refine lv_sipush (v := 136) hx hb dX0_init_34 (by decide +kernel) ?_
  obtain ⟨r11, hr11, hf⟩ := g_bind hf
  refine g_callI hx hb hml hl.1 hts hown hK hG hS (As := [.int 136]) (rest := [.ref a10, .ref x0]) (tX3_init l D hr11) vX3_init mlX0_20 rfl rfl ⟨Nat.le_of_ble_eq_true rfl, Nat.le_of_ble_eq_true rfl⟩ rfl rfl (Nat.le_of_ble_eq_true rfl) ⟨Nat.le_of_ble_eq_true rfl, Nat.le_of_ble_eq_true rfl⟩ dX0_init_37 (fun H locs hG hS => ?_)
  refine W.cs (cells' := 11) (slots' := 693) rfl rfl ?_
  obtain ⟨σ12, hσ12, hf⟩ := g_bind hf
  refine g_put hx hb hts hown hK hG hS hσ12 rfl iX0 tyX0 tyX0_ok nmX0 (by decide) flX0_27 rfl rfl rfl dX0_init_40 (fun H locs hG hS => ?_)
  cases hf
  exact g_vret hx hb hr hlocks hG hS dX0_init_43

def rmX0_doPass : Room := { frames := 1, cells := 0, slots := 0, locals := 21 }
noncomputable def LX0_doPass_16  : Nat → g_S → Nat → Int32 → Int64 → Int64 → Int32 → Option (g_S)
  | 0, _, _, _, _, _, _ => none
  | n + 1, σ, x0, x1, x2, x4, x6 => if x1 ≤ x6 then ((g_fr σ 0 x0 1).bind fun v4 => (g_o σ 3 v4).bind fun o5 => (fX3_trim σ v4 x1).bind fun r6 => (g_fr r6 0 x0 2).bind fun v7 => (g_o r6 3 v7).bind fun o8 => (fX3_trim r6 v7 x1).bind fun r9 => some r9) else ((g_fr σ 0 x0 1).bind fun v10 => (g_fr σ 3 v10 0).bind fun v11 => (g_li σ 0 v11 x6).bind fun v12 => g_let v12.toInt64 fun v13 => (g_fr σ 0 x0 2).bind fun v14 => (g_o σ 3 v14).bind fun o15 => (fX3_limbAt σ v14 x6).bind fun r16 => g_let r16.1.toInt64 fun v17 => (g_fl r16.2 0 x0 3).bind fun v18 => (g_fl r16.2 0 x0 4).bind fun v19 => g_let (x2 + ((v18 * v13) + (v19 * v17))) fun v20 => (g_fl r16.2 0 x0 5).bind fun v21 => (g_fl r16.2 0 x0 6).bind fun v22 => g_let (x4 + ((v21 * v13) + (v22 * v17))) fun v23 => (g_fr r16.2 0 x0 1).bind fun v24 => (g_fr r16.2 3 v24 0).bind fun v25 => (g_si r16.2 0 v25 x6 ((v20 &&& 2147483647).toInt32)).bind fun σ26 => (g_fr σ26 0 x0 2).bind fun v27 => (g_fr σ26 3 v27 0).bind fun v28 => (g_si σ26 0 v28 x6 ((v23 &&& 2147483647).toInt32)).bind fun σ29 => g_let (g_lshr v20 31) fun v30 => g_let (g_lshr v23 31) fun v31 => g_let (x6 + 1) fun v32 => (LX0_doPass_16  n) σ29 x0 x1 v30 v31 v32)
noncomputable def fX0_doPass (σ : g_S) (x0 : Nat) : Option (g_S) := (g_fr σ 0 x0 1).bind fun v1 => (g_fi σ 3 v1 1).bind fun v2 => LX0_doPass_16 g_fuel σ x0 v2 0 0 0
set_option maxHeartbeats 4000000 in
set_option maxRecDepth 100000 in
theorem tLX0_doPass_16 {p : Program} {l : Launch} {e : Env} {s : State} {m : MethodId} {args : Array Value} {below : List Frame} {meth : Method} {c : Code} {D : g_D} {out : g_S} (C : g_C RX0 cX0_doPass 11 none True p s m args meth c) (hK : g_K D s)  : ∀ (n : Nat) (σ : g_S) (x0 : Nat) (x1 : Int32) (x2 : Int64) (x4 : Int64) (x6 : Int32) (H : Heap) (locs : List Loc) (ls : Array Slot), g_H D σ H → va_S (g_A D) s.heap H locs → lv_has ls 11 [(0, .ref x0), (1, .int x1), (2, .long x2), (4, .long x4), (6, .int x6)] → LX0_doPass_16  n σ x0 x1 x2 x4 x6 = some out → W p l e rmX0_doPass s m args below meth c H locs 0 0 (MQ below (g_Q D out (none)) args s 0 0 (g_A D)) (F0 m 16 ls [])  := by
  obtain ⟨hx, hb, hml, hown, hts, hr, hlocks, hin⟩ := id C
  intro n
  induction n with
  | zero => intro σ x0 x1 x2 x4 x6 H locs ls hG hS hl hf; cases hf
  | succ n ih =>
    intro σ x0 x1 x2 x4 x6 H locs ls hG hS hl hf
    have hf : (if x1 ≤ x6 then ((g_fr σ 0 x0 1).bind fun v4 => (g_o σ 3 v4).bind fun o5 => (fX3_trim σ v4 x1).bind fun r6 => (g_fr r6 0 x0 2).bind fun v7 => (g_o r6 3 v7).bind fun o8 => (fX3_trim r6 v7 x1).bind fun r9 => some r9) else ((g_fr σ 0 x0 1).bind fun v10 => (g_fr σ 3 v10 0).bind fun v11 => (g_li σ 0 v11 x6).bind fun v12 => g_let v12.toInt64 fun v13 => (g_fr σ 0 x0 2).bind fun v14 => (g_o σ 3 v14).bind fun o15 => (fX3_limbAt σ v14 x6).bind fun r16 => g_let r16.1.toInt64 fun v17 => (g_fl r16.2 0 x0 3).bind fun v18 => (g_fl r16.2 0 x0 4).bind fun v19 => g_let (x2 + ((v18 * v13) + (v19 * v17))) fun v20 => (g_fl r16.2 0 x0 5).bind fun v21 => (g_fl r16.2 0 x0 6).bind fun v22 => g_let (x4 + ((v21 * v13) + (v22 * v17))) fun v23 => (g_fr r16.2 0 x0 1).bind fun v24 => (g_fr r16.2 3 v24 0).bind fun v25 => (g_si r16.2 0 v25 x6 ((v20 &&& 2147483647).toInt32)).bind fun σ26 => (g_fr σ26 0 x0 2).bind fun v27 => (g_fr σ26 3 v27 0).bind fun v28 => (g_si σ26 0 v28 x6 ((v23 &&& 2147483647).toInt32)).bind fun σ29 => g_let (g_lshr v20 31) fun v30 => g_let (g_lshr v23 31) fun v31 => g_let (x6 + 1) fun v32 => (LX0_doPass_16  n) σ29 x0 x1 v30 v31 v32)) = some out := hf
    have hk16 := ih
    refine lv_iload hx hb dX0_doPass_16 (lv_at hl 4 rfl) ?_
    refine lv_iload_n hx hb dX0_doPass_18 rfl (lv_at hl 1 rfl) ?_
    refine lv_icmp_ge (tgt := 136) hx hb dX0_doPass_19 (by decide) (fun c3 => ?_) (fun c3 => ?_)
    · rw [if_pos c3] at hf
      refine lv_aload_n hx hb dX0_doPass_136 rfl (lv_at hl 0 rfl) ?_
      obtain ⟨v4, hv4, hf⟩ := g_bind hf
      refine g_getr hx hb hts hown hK hG hv4 rfl iX0 (by decide) flX0_23 dX0_doPass_137 ?_
      refine lv_iload_n hx hb dX0_doPass_140 rfl (lv_at hl 1 rfl) ?_
      obtain ⟨o5, ho5, hf⟩ := g_bind hf
      obtain ⟨r6, hr6, hf⟩ := g_bind hf
      refine g_callV hx hb hml hl.1 hts hown hK hG hS (As := [.int x1]) (rest := []) (tX3_trim l D hr6) vX3_trim mlX0_107 ho5 rfl rfl rfl rfl ⟨Nat.le_of_ble_eq_true rfl, Nat.le_of_ble_eq_true rfl⟩ rfl rfl (Nat.le_of_ble_eq_true rfl) ⟨Nat.le_of_ble_eq_true rfl, Nat.le_of_ble_eq_true rfl⟩ dX0_doPass_141 (fun H locs hG hS => ?_)
      refine lv_aload_n hx hb dX0_doPass_144 rfl (lv_at hl 0 rfl) ?_
      obtain ⟨v7, hv7, hf⟩ := g_bind hf
      refine g_getr hx hb hts hown hK hG hv7 rfl iX0 (by decide) flX0_27 dX0_doPass_145 ?_
      refine lv_iload_n hx hb dX0_doPass_148 rfl (lv_at hl 1 rfl) ?_
      obtain ⟨o8, ho8, hf⟩ := g_bind hf
      obtain ⟨r9, hr9, hf⟩ := g_bind hf
      refine g_callV hx hb hml hl.1 hts hown hK hG hS (As := [.int x1]) (rest := []) (tX3_trim l D hr9) vX3_trim mlX0_107 ho8 rfl rfl rfl rfl ⟨Nat.le_of_ble_eq_true rfl, Nat.le_of_ble_eq_true rfl⟩ rfl rfl (Nat.le_of_ble_eq_true rfl) ⟨Nat.le_of_ble_eq_true rfl, Nat.le_of_ble_eq_true rfl⟩ dX0_doPass_149 (fun H locs hG hS => ?_)
      cases hf
      exact g_vret hx hb hr hlocks hG hS dX0_doPass_152
    · rw [if_neg c3] at hf
      refine lv_aload_n hx hb dX0_doPass_22 rfl (lv_at hl 0 rfl) ?_
      obtain ⟨v10, hv10, hf⟩ := g_bind hf
      refine g_getr hx hb hts hown hK hG hv10 rfl iX0 (by decide) flX0_23 dX0_doPass_23 ?_
      obtain ⟨v11, hv11, hf⟩ := g_bind hf
      refine g_getr hx hb hts hown hK hG hv11 rfl iX3 (by decide) flX0_99 dX0_doPass_26 ?_
      refine lv_iload hx hb dX0_doPass_29 (lv_at hl 4 rfl) ?_
      obtain ⟨v12, hv12, hf⟩ := g_bind hf
      refine g_iald hx hb hK hG hv12 rfl dX0_doPass_31 ?_
      refine lv_i2l (v := v12.toInt64) hx hb dX0_doPass_32 rfl ?_
      obtain ⟨v13, ev13, hf⟩ := g_let_spec hf
      refine g_topl ev13 ?_
      refine lv_lstore (lv' := [(7, .long v13), (0, .ref x0), (1, .int x1), (2, .long x2), (4, .long x4), (6, .int x6)]) hx hb dX0_doPass_33 hl (by decide) rfl (fun ls hl => ?_)
      refine lv_aload_n hx hb dX0_doPass_35 rfl (lv_at hl 1 rfl) ?_
      obtain ⟨v14, hv14, hf⟩ := g_bind hf
      refine g_getr hx hb hts hown hK hG hv14 rfl iX0 (by decide) flX0_27 dX0_doPass_36 ?_
      refine lv_iload hx hb dX0_doPass_39 (lv_at hl 5 rfl) ?_
      obtain ⟨o15, ho15, hf⟩ := g_bind hf
      obtain ⟨r16, hr16, hf⟩ := g_bind hf
      refine g_callV hx hb hml hl.1 hts hown hK hG hS (As := [.int x6]) (rest := []) (tX3_limbAt l D hr16) vX3_limbAt mlX0_103 ho15 rfl rfl rfl rfl ⟨Nat.le_of_ble_eq_true rfl, Nat.le_of_ble_eq_true rfl⟩ rfl rfl (Nat.le_of_ble_eq_true rfl) ⟨Nat.le_of_ble_eq_true rfl, Nat.le_of_ble_eq_true rfl⟩ dX0_doPass_41 (fun H locs hG hS => ?_)
      refine lv_i2l (v := r16.1.toInt64) hx hb dX0_doPass_44 rfl ?_
      obtain ⟨v17, ev17, hf⟩ := g_let_spec hf
      refine g_topl ev17 ?_
      refine lv_lstore (lv' := [(9, .long v17), (7, .long v13), (0, .ref x0), (1, .int x1), (2, .long x2), (4, .long x4), (6, .int x6)]) hx hb dX0_doPass_45 hl (by decide) rfl (fun ls hl => ?_)
      refine lv_lload_n hx hb dX0_doPass_47 rfl (lv_at hl 4 rfl) ?_
      refine lv_aload_n hx hb dX0_doPass_48 rfl (lv_at hl 2 rfl) ?_
      obtain ⟨v18, hv18, hf⟩ := g_bind hf
      refine g_getl hx hb hts hown hK hG hv18 rfl iX0 (by decide) flX0_78 dX0_doPass_49 ?_
      refine lv_lload hx hb dX0_doPass_52 (lv_at hl 1 rfl) ?_
      refine lv_lmul hx hb dX0_doPass_54 ?_
      refine lv_aload_n hx hb dX0_doPass_55 rfl (lv_at hl 2 rfl) ?_
      obtain ⟨v19, hv19, hf⟩ := g_bind hf
      refine g_getl hx hb hts hown hK hG hv19 rfl iX0 (by decide) flX0_82 dX0_doPass_56 ?_
      refine lv_lload hx hb dX0_doPass_59 (lv_at hl 0 rfl) ?_
      refine lv_lmul hx hb dX0_doPass_61 ?_
      refine lv_ladd hx hb dX0_doPass_62 ?_
      refine lv_ladd hx hb dX0_doPass_63 ?_
      obtain ⟨v20, ev20, hf⟩ := g_let_spec hf
      refine g_topl ev20 ?_
      refine lv_lstore_n (lv' := [(2, .long v20), (9, .long v17), (7, .long v13), (0, .ref x0), (1, .int x1), (4, .long x4), (6, .int x6)]) hx hb dX0_doPass_64 rfl hl (by decide) rfl (fun ls hl => ?_)
      refine lv_lload hx hb dX0_doPass_65 (lv_at hl 5 rfl) ?_
      refine lv_aload_n hx hb dX0_doPass_67 rfl (lv_at hl 3 rfl) ?_
      obtain ⟨v21, hv21, hf⟩ := g_bind hf
      refine g_getl hx hb hts hown hK hG hv21 rfl iX0 (by decide) flX0_85 dX0_doPass_68 ?_
      refine lv_lload hx hb dX0_doPass_71 (lv_at hl 2 rfl) ?_
      refine lv_lmul hx hb dX0_doPass_73 ?_
      refine lv_aload_n hx hb dX0_doPass_74 rfl (lv_at hl 3 rfl) ?_
      obtain ⟨v22, hv22, hf⟩ := g_bind hf
      refine g_getl hx hb hts hown hK hG hv22 rfl iX0 (by decide) flX0_88 dX0_doPass_75 ?_
      refine lv_lload hx hb dX0_doPass_78 (lv_at hl 1 rfl) ?_
      refine lv_lmul hx hb dX0_doPass_80 ?_
      refine lv_ladd hx hb dX0_doPass_81 ?_
      refine lv_ladd hx hb dX0_doPass_82 ?_
      obtain ⟨v23, ev23, hf⟩ := g_let_spec hf
      refine g_topl ev23 ?_
      refine lv_lstore (lv' := [(4, .long v23), (2, .long v20), (9, .long v17), (7, .long v13), (0, .ref x0), (1, .int x1), (6, .int x6)]) hx hb dX0_doPass_83 hl (by decide) rfl (fun ls hl => ?_)
      refine lv_aload_n hx hb dX0_doPass_85 rfl (lv_at hl 4 rfl) ?_
      obtain ⟨v24, hv24, hf⟩ := g_bind hf
      refine g_getr hx hb hts hown hK hG hv24 rfl iX0 (by decide) flX0_23 dX0_doPass_86 ?_
      obtain ⟨v25, hv25, hf⟩ := g_bind hf
      refine g_getr hx hb hts hown hK hG hv25 rfl iX3 (by decide) flX0_99 dX0_doPass_89 ?_
      refine lv_iload hx hb dX0_doPass_92 (lv_at hl 6 rfl) ?_
      refine lv_lload_n hx hb dX0_doPass_94 rfl (lv_at hl 1 rfl) ?_
      refine lv_ldc2 (v := 2147483647) hx hb hown (hts _ coX0_91) dX0_doPass_95 ?_
      refine lv_land hx hb dX0_doPass_98 ?_
      refine lv_l2i (v := (v20 &&& 2147483647).toInt32) hx hb dX0_doPass_99 rfl ?_
      obtain ⟨σ26, hσ26, hf⟩ := g_bind hf
      refine g_iast hx hb hK hG hS hσ26 rfl dX0_doPass_100 (fun H locs hG hS => ?_)
      refine lv_aload_n hx hb dX0_doPass_101 rfl (lv_at hl 4 rfl) ?_
      obtain ⟨v27, hv27, hf⟩ := g_bind hf
      refine g_getr hx hb hts hown hK hG hv27 rfl iX0 (by decide) flX0_27 dX0_doPass_102 ?_
      obtain ⟨v28, hv28, hf⟩ := g_bind hf
      refine g_getr hx hb hts hown hK hG hv28 rfl iX3 (by decide) flX0_99 dX0_doPass_105 ?_
      refine lv_iload hx hb dX0_doPass_108 (lv_at hl 6 rfl) ?_
      refine lv_lload hx hb dX0_doPass_110 (lv_at hl 0 rfl) ?_
      refine lv_ldc2 (v := 2147483647) hx hb hown (hts _ coX0_91) dX0_doPass_112 ?_
      refine lv_land hx hb dX0_doPass_115 ?_
      refine lv_l2i (v := (v23 &&& 2147483647).toInt32) hx hb dX0_doPass_116 rfl ?_
      obtain ⟨σ29, hσ29, hf⟩ := g_bind hf
      refine g_iast hx hb hK hG hS hσ29 rfl dX0_doPass_117 (fun H locs hG hS => ?_)
      refine lv_lload_n hx hb dX0_doPass_118 rfl (lv_at hl 1 rfl) ?_
      refine lv_bipush (v := 31) hx hb dX0_doPass_119 (by decide +kernel) ?_
      refine lv_lshr (v := g_lshr v20 31) hx hb dX0_doPass_121 rfl ?_
      obtain ⟨v30, ev30, hf⟩ := g_let_spec hf
      refine g_topl ev30 ?_
      refine lv_lstore_n (lv' := [(2, .long v30), (4, .long v23), (9, .long v17), (7, .long v13), (0, .ref x0), (1, .int x1), (6, .int x6)]) hx hb dX0_doPass_122 rfl hl (by decide) rfl (fun ls hl => ?_)
      refine lv_lload hx hb dX0_doPass_123 (lv_at hl 1 rfl) ?_
      refine lv_bipush (v := 31) hx hb dX0_doPass_125 (by decide +kernel) ?_
      refine lv_lshr (v := g_lshr v23 31) hx hb dX0_doPass_127 rfl ?_
      obtain ⟨v31, ev31, hf⟩ := g_let_spec hf
      refine g_topl ev31 ?_
      refine lv_lstore (lv' := [(4, .long v31), (2, .long v30), (9, .long v17), (7, .long v13), (0, .ref x0), (1, .int x1), (6, .int x6)]) hx hb dX0_doPass_128 hl (by decide) rfl (fun ls hl => ?_)
      obtain ⟨v32, ev32, hf⟩ := g_let_spec hf
      refine lv_iinc (v := v32) (lv' := [(6, .int v32), (4, .long v31), (2, .long v30), (9, .long v17), (7, .long v13), (0, .ref x0), (1, .int x1)]) hx hb dX0_doPass_130 hl (k := 6) rfl (by rw [← ev32]; rfl) (by decide) rfl (fun ls hl => ?_)
      refine lv_goto (tgt := 16) hx hb dX0_doPass_133 (by decide) ?_
      exact hk16 _ _ _ _ _ _ _ _ _ hG hS (lv_sub hl [5, 6, 2, 1, 0] rfl) hf

set_option maxHeartbeats 4000000 in
set_option maxRecDepth 100000 in
theorem tX0_doPass (l : Launch) (D : g_D) {σ : g_S} {x0 : Nat} {out : g_S} (hf : fX0_doPass σ x0 = some out) : Met l yX0_doPass (Cond.code yX0_doPass cX0_doPass 11 none :: lw_g) rmX0_doPass (g_P D σ [.ref x0]) (g_Q D out (none)) 0 0 (g_A D) := by
  refine Met.ofW (cc := cX0_doPass) (maxL := 11) (ret := none) (by decide +kernel) rfl ?_
  intro p e s m args below meth c s₁ B hml hv
  obtain ⟨rfl, hG, hK⟩ := hv
  have hts : ∀ w ∈ lw_g, w.before _ s = true := fun w h => atoms_spec (ws := (Cond.code yX0_doPass cX0_doPass 11 none :: lw_g)) B.pre w (List.mem_cons_of_mem _ h)
  have C : g_C RX0 cX0_doPass 11 none True p s m _ meth c := ⟨B.exec, B.bytes, hml, findClass_of_methodNamed B.named, hts, B.returns, B.notSynchronized, trivial⟩
  obtain ⟨hx, hb, hml, hown, hts, hr, hlocks, hin⟩ := id C
  have hS : va_S (g_A D) s.heap s.heap [] := va_S.rf
  have hl := lv_entry ([.ref x0]) (n := 11) (Nat.le_of_ble_eq_true rfl)
  rw [lg_entry_eq]
  generalize (lg_sl ([.ref x0]) ++ List.replicate (11 - (lg_sl ([.ref x0])).length) Slot.unset).toArray = ls at hl ⊢
  have hl : lv_has ls 11 [(0, .ref x0)] := hl
  unfold fX0_doPass at hf
  refine lv_aload_n hx hb dX0_doPass_0 rfl (lv_at hl 0 rfl) ?_
  obtain ⟨v1, hv1, hf⟩ := g_bind hf
  refine g_getr hx hb hts hown hK hG hv1 rfl iX0 (by decide) flX0_23 dX0_doPass_1 ?_
  obtain ⟨v2, hv2, hf⟩ := g_bind hf
  refine g_geti hx hb hts hown hK hG hv2 rfl iX3 (by decide) flX0_42 dX0_doPass_4 ?_
  refine lv_istore_n (lv' := [(1, .int v2), (0, .ref x0)]) hx hb dX0_doPass_7 rfl hl (by decide) rfl (fun ls hl => ?_)
  refine lv_lconst (v := 0) hx hb dX0_doPass_8 (by decide +kernel) ?_
  refine lv_lstore_n (lv' := [(2, .long 0), (1, .int v2), (0, .ref x0)]) hx hb dX0_doPass_9 rfl hl (by decide) rfl (fun ls hl => ?_)
  refine lv_lconst (v := 0) hx hb dX0_doPass_10 (by decide +kernel) ?_
  refine lv_lstore (lv' := [(4, .long 0), (2, .long 0), (1, .int v2), (0, .ref x0)]) hx hb dX0_doPass_11 hl (by decide) rfl (fun ls hl => ?_)
  refine lv_iconst (v := 0) hx hb dX0_doPass_13 (by decide +kernel) ?_
  refine lv_istore (lv' := [(6, .int 0), (4, .long 0), (2, .long 0), (1, .int v2), (0, .ref x0)]) hx hb dX0_doPass_14 hl (by decide) rfl (fun ls hl => ?_)
  exact tLX0_doPass_16 C hK  g_fuel _ _ _ _ _ _ _ _ _ hG hS (lv_sub hl [4, 3, 2, 1, 0] rfl) hf

def rmX0_findPass : Room := { frames := 2, cells := 0, slots := 0, locals := 48 }
noncomputable def BX0_findPass_251  (σ : g_S) (y0 : Int32) : Option (Int32 × g_S) := g_if (y0 = 0 ∨ y0 = 1) <| some (y0, σ)
noncomputable def BX0_findPass_237  (σ : g_S) (x0 : Nat) : Option (Int32 × g_S) := (g_fl σ 0 x0 4).bind fun v16 => if lg_cmp v16 0 = 0 then (BX0_findPass_251 σ 0) else (BX0_findPass_251 σ 1)
noncomputable def LX0_findPass_53  : Nat → g_S → Nat → Int64 → Int64 → Int32 → Option (Int32 × g_S)
  | 0, _, _, _, _, _ => none
  | n + 1, σ, x0, x2, x4, x6 => if 100 ≤ x6 then (BX0_findPass_237 σ x0) else ((g_fl σ 0 x0 5).bind fun v19 => if (lg_cmp (x4 + v19) 0) ≤ 0 then (BX0_findPass_237 σ x0) else ((g_fl σ 0 x0 6).bind fun v21 => if (lg_cmp (x4 + v21) 0) ≤ 0 then (BX0_findPass_237 σ x0) else ((g_fl σ 0 x0 3).bind fun v23 => (g_fl σ 0 x0 5).bind fun v24 => g_if (¬ (x4 + v24) = 0) <| g_let ((x2 + v23) / (x4 + v24)) fun v26 => (g_fl σ 0 x0 4).bind fun v27 => (g_fl σ 0 x0 6).bind fun v28 => g_if (¬ (x4 + v28) = 0) <| if lg_cmp v26 ((x2 + v27) / (x4 + v28)) = 0 then (if (lg_cmp v26 2147483647) ≤ 0 then ((g_fl σ 0 x0 3).bind fun v32 => (g_fl σ 0 x0 5).bind fun v33 => g_let (v32 - (v26 * v33)) fun v34 => (g_fl σ 0 x0 4).bind fun v35 => (g_fl σ 0 x0 6).bind fun v36 => g_let (v35 - (v26 * v36)) fun v37 => (fJ9_abs_067f4 σ v34).bind fun r38 => if 0 < (lg_cmp r38.1 2147483647) then (BX0_findPass_237 r38.2 x0) else ((fJ9_abs_067f4 r38.2 v37).bind fun r40 => if (lg_cmp r40.1 2147483647) ≤ 0 then ((g_fl r40.2 0 x0 5).bind fun v42 => (g_p r40.2 0 x0 3 (.long v42)).bind fun σ43 => (g_fl σ43 0 x0 6).bind fun v44 => (g_p σ43 0 x0 4 (.long v44)).bind fun σ45 => (g_p σ45 0 x0 5 (.long v34)).bind fun σ46 => (g_p σ46 0 x0 6 (.long v37)).bind fun σ47 => g_let (x2 - (v26 * x4)) fun v48 => g_let (x6 + 1) fun v49 => (LX0_findPass_53  n) σ47 x0 x4 v48 v49) else (BX0_findPass_237 r40.2 x0))) else (BX0_findPass_237 σ x0)) else (BX0_findPass_237 σ x0))))
noncomputable def fX0_findPass (σ : g_S) (x0 : Nat) : Option (Int32 × g_S) := (g_fr σ 0 x0 1).bind fun v1 => (g_o σ 3 v1).bind fun o2 => (fX3_bitLength σ v1).bind fun r3 => g_let (r3.1 - 62) fun v4 => (g_fr r3.2 0 x0 1).bind fun v5 => (g_o r3.2 3 v5).bind fun o6 => (fX3_withoutLowest r3.2 v5 v4).bind fun r7 => (g_fr r7.2 0 x0 2).bind fun v8 => (g_o r7.2 3 v8).bind fun o9 => (fX3_withoutLowest r7.2 v8 v4).bind fun r10 => (g_p r10.2 0 x0 3 (.long 1)).bind fun σ11 => (g_p σ11 0 x0 4 (.long 0)).bind fun σ12 => (g_p σ12 0 x0 5 (.long 0)).bind fun σ13 => (g_p σ13 0 x0 6 (.long 1)).bind fun σ14 => LX0_findPass_53 g_fuel σ14 x0 r7.1 r10.1 0
set_option maxHeartbeats 4000000 in
set_option maxRecDepth 100000 in
theorem tBX0_findPass_251 {p : Program} {l : Launch} {e : Env} {s : State} {m : MethodId} {args : Array Value} {below : List Frame} {meth : Method} {c : Code} {D : g_D} {out : Int32 × g_S} (C : g_C RX0 cX0_findPass 15 (some .boolean) True p s m args meth c) (hK : g_K D s)  : ∀ (σ : g_S) (y0 : Int32) (H : Heap) (locs : List Loc) (ls : Array Slot), g_H D σ H → va_S (g_A D) s.heap H locs → lv_has ls 15 [] → BX0_findPass_251  σ y0 = some out → W p l e rmX0_findPass s m args below meth c H locs 0 0 (MQ below (g_Q D out.2 (some (.int out.1))) args s 0 0 (g_A D)) (F0 m 251 ls [.int y0]) := by
  obtain ⟨hx, hb, hml, hown, hts, hr, hlocks, hin⟩ := id C
  intro σ y0 H locs ls hG hS hl hf
  unfold BX0_findPass_251 at hf
  obtain ⟨z18, hf⟩ := g_if_spec hf
  cases hf
  exact g_zret hx hb hr hlocks z18 hG hS dX0_findPass_251

set_option maxHeartbeats 4000000 in
set_option maxRecDepth 100000 in
theorem tBX0_findPass_237 {p : Program} {l : Launch} {e : Env} {s : State} {m : MethodId} {args : Array Value} {below : List Frame} {meth : Method} {c : Code} {D : g_D} {out : Int32 × g_S} (C : g_C RX0 cX0_findPass 15 (some .boolean) True p s m args meth c) (hK : g_K D s)  : ∀ (σ : g_S) (x0 : Nat) (H : Heap) (locs : List Loc) (ls : Array Slot), g_H D σ H → va_S (g_A D) s.heap H locs → lv_has ls 15 [(0, .ref x0)] → BX0_findPass_237  σ x0 = some out → W p l e rmX0_findPass s m args below meth c H locs 0 0 (MQ below (g_Q D out.2 (some (.int out.1))) args s 0 0 (g_A D)) (F0 m 237 ls []) := by
  obtain ⟨hx, hb, hml, hown, hts, hr, hlocks, hin⟩ := id C
  intro σ x0 H locs ls hG hS hl hf
  unfold BX0_findPass_237 at hf
  refine lv_aload_n hx hb dX0_findPass_237 rfl (lv_at hl 0 rfl) ?_
  obtain ⟨v16, hv16, hf⟩ := g_bind hf
  refine g_getl hx hb hts hown hK hG hv16 rfl iX0 (by decide) flX0_82 dX0_findPass_238 ?_
  refine lv_lconst (v := 0) hx hb dX0_findPass_241 (by decide +kernel) ?_
  refine W.lcmp hx hb dX0_findPass_242 ?_
  refine lv_if_eq (tgt := 250) hx hb dX0_findPass_243 (by decide) (fun c17 => ?_) (fun c17 => ?_)
  · rw [if_pos c17] at hf
    refine lv_iconst (v := 0) hx hb dX0_findPass_250 (by decide +kernel) ?_
    exact tBX0_findPass_251 C hK   _ _ _ _ _ hG hS (lv_sub hl [] rfl) hf
  · rw [if_neg c17] at hf
    refine lv_iconst (v := 1) hx hb dX0_findPass_246 (by decide +kernel) ?_
    refine lv_goto (tgt := 251) hx hb dX0_findPass_247 (by decide) ?_
    exact tBX0_findPass_251 C hK   _ _ _ _ _ hG hS (lv_sub hl [] rfl) hf

set_option maxHeartbeats 4000000 in
set_option maxRecDepth 100000 in
theorem tLX0_findPass_53 {p : Program} {l : Launch} {e : Env} {s : State} {m : MethodId} {args : Array Value} {below : List Frame} {meth : Method} {c : Code} {D : g_D} {out : Int32 × g_S} (C : g_C RX0 cX0_findPass 15 (some .boolean) True p s m args meth c) (hK : g_K D s)  : ∀ (n : Nat) (σ : g_S) (x0 : Nat) (x2 : Int64) (x4 : Int64) (x6 : Int32) (H : Heap) (locs : List Loc) (ls : Array Slot), g_H D σ H → va_S (g_A D) s.heap H locs → lv_has ls 15 [(0, .ref x0), (2, .long x2), (4, .long x4), (6, .int x6)] → LX0_findPass_53  n σ x0 x2 x4 x6 = some out → W p l e rmX0_findPass s m args below meth c H locs 0 0 (MQ below (g_Q D out.2 (some (.int out.1))) args s 0 0 (g_A D)) (F0 m 53 ls [])  := by
  obtain ⟨hx, hb, hml, hown, hts, hr, hlocks, hin⟩ := id C
  intro n
  induction n with
  | zero => intro σ x0 x2 x4 x6 H locs ls hG hS hl hf; cases hf
  | succ n ih =>
    intro σ x0 x2 x4 x6 H locs ls hG hS hl hf
    have hf : (if 100 ≤ x6 then (BX0_findPass_237 σ x0) else ((g_fl σ 0 x0 5).bind fun v19 => if (lg_cmp (x4 + v19) 0) ≤ 0 then (BX0_findPass_237 σ x0) else ((g_fl σ 0 x0 6).bind fun v21 => if (lg_cmp (x4 + v21) 0) ≤ 0 then (BX0_findPass_237 σ x0) else ((g_fl σ 0 x0 3).bind fun v23 => (g_fl σ 0 x0 5).bind fun v24 => g_if (¬ (x4 + v24) = 0) <| g_let ((x2 + v23) / (x4 + v24)) fun v26 => (g_fl σ 0 x0 4).bind fun v27 => (g_fl σ 0 x0 6).bind fun v28 => g_if (¬ (x4 + v28) = 0) <| if lg_cmp v26 ((x2 + v27) / (x4 + v28)) = 0 then (if (lg_cmp v26 2147483647) ≤ 0 then ((g_fl σ 0 x0 3).bind fun v32 => (g_fl σ 0 x0 5).bind fun v33 => g_let (v32 - (v26 * v33)) fun v34 => (g_fl σ 0 x0 4).bind fun v35 => (g_fl σ 0 x0 6).bind fun v36 => g_let (v35 - (v26 * v36)) fun v37 => (fJ9_abs_067f4 σ v34).bind fun r38 => if 0 < (lg_cmp r38.1 2147483647) then (BX0_findPass_237 r38.2 x0) else ((fJ9_abs_067f4 r38.2 v37).bind fun r40 => if (lg_cmp r40.1 2147483647) ≤ 0 then ((g_fl r40.2 0 x0 5).bind fun v42 => (g_p r40.2 0 x0 3 (.long v42)).bind fun σ43 => (g_fl σ43 0 x0 6).bind fun v44 => (g_p σ43 0 x0 4 (.long v44)).bind fun σ45 => (g_p σ45 0 x0 5 (.long v34)).bind fun σ46 => (g_p σ46 0 x0 6 (.long v37)).bind fun σ47 => g_let (x2 - (v26 * x4)) fun v48 => g_let (x6 + 1) fun v49 => (LX0_findPass_53  n) σ47 x0 x4 v48 v49) else (BX0_findPass_237 r40.2 x0))) else (BX0_findPass_237 σ x0)) else (BX0_findPass_237 σ x0))))) = some out := hf
    have hk53 := ih
    refine lv_iload hx hb dX0_findPass_53 (lv_at hl 3 rfl) ?_
    refine lv_bipush (v := 100) hx hb dX0_findPass_55 (by decide +kernel) ?_
    refine lv_icmp_ge (tgt := 237) hx hb dX0_findPass_57 (by decide) (fun c15 => ?_) (fun c15 => ?_)
    · rw [if_pos c15] at hf
      exact tBX0_findPass_237 C hK   _ _ _ _ _ hG hS (lv_sub hl [0] rfl) hf
    · rw [if_neg c15] at hf
      refine lv_lload hx hb dX0_findPass_60 (lv_at hl 2 rfl) ?_
      refine lv_aload_n hx hb dX0_findPass_62 rfl (lv_at hl 0 rfl) ?_
      obtain ⟨v19, hv19, hf⟩ := g_bind hf
      refine g_getl hx hb hts hown hK hG hv19 rfl iX0 (by decide) flX0_85 dX0_findPass_63 ?_
      refine lv_ladd hx hb dX0_findPass_66 ?_
      refine lv_lconst (v := 0) hx hb dX0_findPass_67 (by decide +kernel) ?_
      refine W.lcmp hx hb dX0_findPass_68 ?_
      refine lv_if_le (tgt := 237) hx hb dX0_findPass_69 (by decide) (fun c20 => ?_) (fun c20 => ?_)
      · rw [if_pos c20] at hf
        exact tBX0_findPass_237 C hK   _ _ _ _ _ hG hS (lv_sub hl [0] rfl) hf
      · rw [if_neg c20] at hf
        refine lv_lload hx hb dX0_findPass_72 (lv_at hl 2 rfl) ?_
        refine lv_aload_n hx hb dX0_findPass_74 rfl (lv_at hl 0 rfl) ?_
        obtain ⟨v21, hv21, hf⟩ := g_bind hf
        refine g_getl hx hb hts hown hK hG hv21 rfl iX0 (by decide) flX0_88 dX0_findPass_75 ?_
        refine lv_ladd hx hb dX0_findPass_78 ?_
        refine lv_lconst (v := 0) hx hb dX0_findPass_79 (by decide +kernel) ?_
        refine W.lcmp hx hb dX0_findPass_80 ?_
        refine lv_if_le (tgt := 237) hx hb dX0_findPass_81 (by decide) (fun c22 => ?_) (fun c22 => ?_)
        · rw [if_pos c22] at hf
          exact tBX0_findPass_237 C hK   _ _ _ _ _ hG hS (lv_sub hl [0] rfl) hf
        · rw [if_neg c22] at hf
          refine lv_lload_n hx hb dX0_findPass_84 rfl (lv_at hl 1 rfl) ?_
          refine lv_aload_n hx hb dX0_findPass_85 rfl (lv_at hl 0 rfl) ?_
          obtain ⟨v23, hv23, hf⟩ := g_bind hf
          refine g_getl hx hb hts hown hK hG hv23 rfl iX0 (by decide) flX0_78 dX0_findPass_86 ?_
          refine lv_ladd hx hb dX0_findPass_89 ?_
          refine lv_lload hx hb dX0_findPass_90 (lv_at hl 2 rfl) ?_
          refine lv_aload_n hx hb dX0_findPass_92 rfl (lv_at hl 0 rfl) ?_
          obtain ⟨v24, hv24, hf⟩ := g_bind hf
          refine g_getl hx hb hts hown hK hG hv24 rfl iX0 (by decide) flX0_85 dX0_findPass_93 ?_
          refine lv_ladd hx hb dX0_findPass_96 ?_
          obtain ⟨h25, hf⟩ := g_if_spec hf
          refine lv_ldiv hx hb dX0_findPass_97 h25 ?_
          obtain ⟨v26, ev26, hf⟩ := g_let_spec hf
          refine g_topl ev26 ?_
          refine lv_lstore (lv' := [(7, .long v26), (0, .ref x0), (2, .long x2), (4, .long x4), (6, .int x6)]) hx hb dX0_findPass_98 hl (by decide) rfl (fun ls hl => ?_)
          refine lv_lload hx hb dX0_findPass_100 (lv_at hl 0 rfl) ?_
          refine lv_lload_n hx hb dX0_findPass_102 rfl (lv_at hl 2 rfl) ?_
          refine lv_aload_n hx hb dX0_findPass_103 rfl (lv_at hl 1 rfl) ?_
          obtain ⟨v27, hv27, hf⟩ := g_bind hf
          refine g_getl hx hb hts hown hK hG hv27 rfl iX0 (by decide) flX0_82 dX0_findPass_104 ?_
          refine lv_ladd hx hb dX0_findPass_107 ?_
          refine lv_lload hx hb dX0_findPass_108 (lv_at hl 3 rfl) ?_
          refine lv_aload_n hx hb dX0_findPass_110 rfl (lv_at hl 1 rfl) ?_
          obtain ⟨v28, hv28, hf⟩ := g_bind hf
          refine g_getl hx hb hts hown hK hG hv28 rfl iX0 (by decide) flX0_88 dX0_findPass_111 ?_
          refine lv_ladd hx hb dX0_findPass_114 ?_
          obtain ⟨h29, hf⟩ := g_if_spec hf
          refine lv_ldiv hx hb dX0_findPass_115 h29 ?_
          refine W.lcmp hx hb dX0_findPass_116 ?_
          refine lv_if_ne (tgt := 237) hx hb dX0_findPass_117 (by decide) (fun c30 => ?_) (fun c30 => ?_)
          · rw [if_neg c30] at hf
            exact tBX0_findPass_237 C hK   _ _ _ _ _ hG hS (lv_sub hl [1] rfl) hf
          · rw [if_pos c30] at hf
            refine lv_lload hx hb dX0_findPass_120 (lv_at hl 0 rfl) ?_
            refine lv_ldc2 (v := 2147483647) hx hb hown (hts _ coX0_91) dX0_findPass_122 ?_
            refine W.lcmp hx hb dX0_findPass_125 ?_
            refine lv_if_le (tgt := 132) hx hb dX0_findPass_126 (by decide) (fun c31 => ?_) (fun c31 => ?_)
            · rw [if_pos c31] at hf
              refine lv_aload_n hx hb dX0_findPass_132 rfl (lv_at hl 1 rfl) ?_
              obtain ⟨v32, hv32, hf⟩ := g_bind hf
              refine g_getl hx hb hts hown hK hG hv32 rfl iX0 (by decide) flX0_78 dX0_findPass_133 ?_
              refine lv_lload hx hb dX0_findPass_136 (lv_at hl 0 rfl) ?_
              refine lv_aload_n hx hb dX0_findPass_138 rfl (lv_at hl 1 rfl) ?_
              obtain ⟨v33, hv33, hf⟩ := g_bind hf
              refine g_getl hx hb hts hown hK hG hv33 rfl iX0 (by decide) flX0_85 dX0_findPass_139 ?_
              refine lv_lmul hx hb dX0_findPass_142 ?_
              refine lv_lsub hx hb dX0_findPass_143 ?_
              obtain ⟨v34, ev34, hf⟩ := g_let_spec hf
              refine g_topl ev34 ?_
              refine lv_lstore (lv' := [(9, .long v34), (7, .long v26), (0, .ref x0), (2, .long x2), (4, .long x4), (6, .int x6)]) hx hb dX0_findPass_144 hl (by decide) rfl (fun ls hl => ?_)
              refine lv_aload_n hx hb dX0_findPass_146 rfl (lv_at hl 2 rfl) ?_
              obtain ⟨v35, hv35, hf⟩ := g_bind hf
              refine g_getl hx hb hts hown hK hG hv35 rfl iX0 (by decide) flX0_82 dX0_findPass_147 ?_
              refine lv_lload hx hb dX0_findPass_150 (lv_at hl 1 rfl) ?_
              refine lv_aload_n hx hb dX0_findPass_152 rfl (lv_at hl 2 rfl) ?_
              obtain ⟨v36, hv36, hf⟩ := g_bind hf
              refine g_getl hx hb hts hown hK hG hv36 rfl iX0 (by decide) flX0_88 dX0_findPass_153 ?_
              refine lv_lmul hx hb dX0_findPass_156 ?_
              refine lv_lsub hx hb dX0_findPass_157 ?_
              obtain ⟨v37, ev37, hf⟩ := g_let_spec hf
              refine g_topl ev37 ?_
              refine lv_lstore (lv' := [(11, .long v37), (9, .long v34), (7, .long v26), (0, .ref x0), (2, .long x2), (4, .long x4), (6, .int x6)]) hx hb dX0_findPass_158 hl (by decide) rfl (fun ls hl => ?_)
              refine lv_lload hx hb dX0_findPass_160 (lv_at hl 1 rfl) ?_
              obtain ⟨r38, hr38, hf⟩ := g_bind hf
              refine g_callS hx hb hml hl.1 hts hown hK hG hS (As := [.long v34]) (rest := []) (tJ9_abs_067f4 l D hr38) vJ9_abs_067f4 mlX0_93 rfl rfl ⟨Nat.le_of_ble_eq_true rfl, Nat.le_of_ble_eq_true rfl⟩ rfl rfl (Nat.le_of_ble_eq_true rfl) ⟨Nat.le_of_ble_eq_true rfl, Nat.le_of_ble_eq_true rfl⟩ dX0_findPass_162 (fun H locs hG hS => ?_)
              refine lv_ldc2 (v := 2147483647) hx hb hown (hts _ coX0_91) dX0_findPass_165 ?_
              refine W.lcmp hx hb dX0_findPass_168 ?_
              refine lv_if_gt (tgt := 237) hx hb dX0_findPass_169 (by decide) (fun c39 => ?_) (fun c39 => ?_)
              · rw [if_pos c39] at hf
                exact tBX0_findPass_237 C hK   _ _ _ _ _ hG hS (lv_sub hl [3] rfl) hf
              · rw [if_neg c39] at hf
                refine lv_lload hx hb dX0_findPass_172 (lv_at hl 0 rfl) ?_
                obtain ⟨r40, hr40, hf⟩ := g_bind hf
                refine g_callS hx hb hml hl.1 hts hown hK hG hS (As := [.long v37]) (rest := []) (tJ9_abs_067f4 l D hr40) vJ9_abs_067f4 mlX0_93 rfl rfl ⟨Nat.le_of_ble_eq_true rfl, Nat.le_of_ble_eq_true rfl⟩ rfl rfl (Nat.le_of_ble_eq_true rfl) ⟨Nat.le_of_ble_eq_true rfl, Nat.le_of_ble_eq_true rfl⟩ dX0_findPass_174 (fun H locs hG hS => ?_)
                refine lv_ldc2 (v := 2147483647) hx hb hown (hts _ coX0_91) dX0_findPass_177 ?_
                refine W.lcmp hx hb dX0_findPass_180 ?_
                refine lv_if_le (tgt := 187) hx hb dX0_findPass_181 (by decide) (fun c41 => ?_) (fun c41 => ?_)
                · rw [if_pos c41] at hf
                  refine lv_aload_n hx hb dX0_findPass_187 rfl (lv_at hl 3 rfl) ?_
                  refine lv_aload_n hx hb dX0_findPass_188 rfl (lv_at hl 3 rfl) ?_
                  obtain ⟨v42, hv42, hf⟩ := g_bind hf
                  refine g_getl hx hb hts hown hK hG hv42 rfl iX0 (by decide) flX0_85 dX0_findPass_189 ?_
                  obtain ⟨σ43, hσ43, hf⟩ := g_bind hf
                  refine g_put hx hb hts hown hK hG hS hσ43 rfl iX0 tyX0 tyX0_ok nmX0 (by decide) flX0_78 rfl rfl rfl dX0_findPass_192 (fun H locs hG hS => ?_)
                  refine lv_aload_n hx hb dX0_findPass_195 rfl (lv_at hl 3 rfl) ?_
                  refine lv_aload_n hx hb dX0_findPass_196 rfl (lv_at hl 3 rfl) ?_
                  obtain ⟨v44, hv44, hf⟩ := g_bind hf
                  refine g_getl hx hb hts hown hK hG hv44 rfl iX0 (by decide) flX0_88 dX0_findPass_197 ?_
                  obtain ⟨σ45, hσ45, hf⟩ := g_bind hf
                  refine g_put hx hb hts hown hK hG hS hσ45 rfl iX0 tyX0 tyX0_ok nmX0 (by decide) flX0_82 rfl rfl rfl dX0_findPass_200 (fun H locs hG hS => ?_)
                  refine lv_aload_n hx hb dX0_findPass_203 rfl (lv_at hl 3 rfl) ?_
                  refine lv_lload hx hb dX0_findPass_204 (lv_at hl 1 rfl) ?_
                  obtain ⟨σ46, hσ46, hf⟩ := g_bind hf
                  refine g_put hx hb hts hown hK hG hS hσ46 rfl iX0 tyX0 tyX0_ok nmX0 (by decide) flX0_85 rfl rfl rfl dX0_findPass_206 (fun H locs hG hS => ?_)
                  refine lv_aload_n hx hb dX0_findPass_209 rfl (lv_at hl 3 rfl) ?_
                  refine lv_lload hx hb dX0_findPass_210 (lv_at hl 0 rfl) ?_
                  obtain ⟨σ47, hσ47, hf⟩ := g_bind hf
                  refine g_put hx hb hts hown hK hG hS hσ47 rfl iX0 tyX0 tyX0_ok nmX0 (by decide) flX0_88 rfl rfl rfl dX0_findPass_212 (fun H locs hG hS => ?_)
                  refine lv_lload_n hx hb dX0_findPass_215 rfl (lv_at hl 4 rfl) ?_
                  refine lv_lload hx hb dX0_findPass_216 (lv_at hl 2 rfl) ?_
                  refine lv_lload hx hb dX0_findPass_218 (lv_at hl 5 rfl) ?_
                  refine lv_lmul hx hb dX0_findPass_220 ?_
                  refine lv_lsub hx hb dX0_findPass_221 ?_
                  obtain ⟨v48, ev48, hf⟩ := g_let_spec hf
                  refine g_topl ev48 ?_
                  refine lv_lstore (lv' := [(13, .long v48), (11, .long v37), (9, .long v34), (7, .long v26), (0, .ref x0), (2, .long x2), (4, .long x4), (6, .int x6)]) hx hb dX0_findPass_222 hl (by decide) rfl (fun ls hl => ?_)
                  refine lv_lload hx hb dX0_findPass_224 (lv_at hl 6 rfl) ?_
                  refine lv_lstore_n (lv' := [(2, .long x4), (13, .long v48), (11, .long v37), (9, .long v34), (7, .long v26), (0, .ref x0), (4, .long x4), (6, .int x6)]) hx hb dX0_findPass_226 rfl hl (by decide) rfl (fun ls hl => ?_)
                  refine lv_lload hx hb dX0_findPass_227 (lv_at hl 1 rfl) ?_
                  refine lv_lstore (lv' := [(4, .long v48), (2, .long x4), (13, .long v48), (11, .long v37), (9, .long v34), (7, .long v26), (0, .ref x0), (6, .int x6)]) hx hb dX0_findPass_229 hl (by decide) rfl (fun ls hl => ?_)
                  obtain ⟨v49, ev49, hf⟩ := g_let_spec hf
                  refine lv_iinc (v := v49) (lv' := [(6, .int v49), (4, .long v48), (2, .long x4), (13, .long v48), (11, .long v37), (9, .long v34), (7, .long v26), (0, .ref x0)]) hx hb dX0_findPass_231 hl (k := 7) rfl (by rw [← ev49]; rfl) (by decide) rfl (fun ls hl => ?_)
                  refine lv_goto (tgt := 53) hx hb dX0_findPass_234 (by decide) ?_
                  exact hk53 _ _ _ _ _ _ _ _ hG hS (lv_sub hl [7, 2, 1, 0] rfl) hf
                · rw [if_neg c41] at hf
                  refine lv_goto (tgt := 237) hx hb dX0_findPass_184 (by decide) ?_
                  exact tBX0_findPass_237 C hK   _ _ _ _ _ hG hS (lv_sub hl [3] rfl) hf
            · rw [if_neg c31] at hf
              refine lv_goto (tgt := 237) hx hb dX0_findPass_129 (by decide) ?_
              exact tBX0_findPass_237 C hK   _ _ _ _ _ hG hS (lv_sub hl [1] rfl) hf

set_option maxHeartbeats 4000000 in
set_option maxRecDepth 100000 in
theorem tX0_findPass (l : Launch) (D : g_D) {σ : g_S} {x0 : Nat} {out : Int32 × g_S} (hf : fX0_findPass σ x0 = some out) : Met l yX0_findPass (Cond.code yX0_findPass cX0_findPass 15 (some .boolean) :: lw_g) rmX0_findPass (g_P D σ [.ref x0]) (g_Q D out.2 (some (.int out.1))) 0 0 (g_A D) := by
  refine Met.ofW (cc := cX0_findPass) (maxL := 15) (ret := (some .boolean)) (by decide +kernel) rfl ?_
  intro p e s m args below meth c s₁ B hml hv
  obtain ⟨rfl, hG, hK⟩ := hv
  have hts : ∀ w ∈ lw_g, w.before _ s = true := fun w h => atoms_spec (ws := (Cond.code yX0_findPass cX0_findPass 15 (some .boolean) :: lw_g)) B.pre w (List.mem_cons_of_mem _ h)
  have C : g_C RX0 cX0_findPass 15 (some .boolean) True p s m _ meth c := ⟨B.exec, B.bytes, hml, findClass_of_methodNamed B.named, hts, B.returns, B.notSynchronized, trivial⟩
  obtain ⟨hx, hb, hml, hown, hts, hr, hlocks, hin⟩ := id C
  have hS : va_S (g_A D) s.heap s.heap [] := va_S.rf
  have hl := lv_entry ([.ref x0]) (n := 15) (Nat.le_of_ble_eq_true rfl)
  rw [lg_entry_eq]
  generalize (lg_sl ([.ref x0]) ++ List.replicate (15 - (lg_sl ([.ref x0])).length) Slot.unset).toArray = ls at hl ⊢
  have hl : lv_has ls 15 [(0, .ref x0)] := hl
  unfold fX0_findPass at hf
  refine lv_aload_n hx hb dX0_findPass_0 rfl (lv_at hl 0 rfl) ?_
  obtain ⟨v1, hv1, hf⟩ := g_bind hf
  refine g_getr hx hb hts hown hK hG hv1 rfl iX0 (by decide) flX0_23 dX0_findPass_1 ?_
  obtain ⟨o2, ho2, hf⟩ := g_bind hf
  obtain ⟨r3, hr3, hf⟩ := g_bind hf
  refine g_callV hx hb hml hl.1 hts hown hK hG hS (As := []) (rest := []) (tX3_bitLength l D hr3) vX3_bitLength mlX0_70 ho2 rfl rfl rfl rfl ⟨Nat.le_of_ble_eq_true rfl, Nat.le_of_ble_eq_true rfl⟩ rfl rfl (Nat.le_of_ble_eq_true rfl) ⟨Nat.le_of_ble_eq_true rfl, Nat.le_of_ble_eq_true rfl⟩ dX0_findPass_4 (fun H locs hG hS => ?_)
  refine lv_bipush (v := 62) hx hb dX0_findPass_7 (by decide +kernel) ?_
  refine lv_isub hx hb dX0_findPass_9 ?_
  obtain ⟨v4, ev4, hf⟩ := g_let_spec hf
  refine g_topi ev4 ?_
  refine lv_istore_n (lv' := [(1, .int v4), (0, .ref x0)]) hx hb dX0_findPass_10 rfl hl (by decide) rfl (fun ls hl => ?_)
  refine lv_aload_n hx hb dX0_findPass_11 rfl (lv_at hl 1 rfl) ?_
  obtain ⟨v5, hv5, hf⟩ := g_bind hf
  refine g_getr hx hb hts hown hK hG hv5 rfl iX0 (by decide) flX0_23 dX0_findPass_12 ?_
  refine lv_iload_n hx hb dX0_findPass_15 rfl (lv_at hl 0 rfl) ?_
  obtain ⟨o6, ho6, hf⟩ := g_bind hf
  obtain ⟨r7, hr7, hf⟩ := g_bind hf
  refine g_callV hx hb hml hl.1 hts hown hK hG hS (As := [.int v4]) (rest := []) (tX3_withoutLowest l D hr7) vX3_withoutLowest mlX0_74 ho6 rfl rfl rfl rfl ⟨Nat.le_of_ble_eq_true rfl, Nat.le_of_ble_eq_true rfl⟩ rfl rfl (Nat.le_of_ble_eq_true rfl) ⟨Nat.le_of_ble_eq_true rfl, Nat.le_of_ble_eq_true rfl⟩ dX0_findPass_16 (fun H locs hG hS => ?_)
  refine lv_lstore_n (lv' := [(2, .long r7.1), (1, .int v4), (0, .ref x0)]) hx hb dX0_findPass_19 rfl hl (by decide) rfl (fun ls hl => ?_)
  refine lv_aload_n hx hb dX0_findPass_20 rfl (lv_at hl 2 rfl) ?_
  obtain ⟨v8, hv8, hf⟩ := g_bind hf
  refine g_getr hx hb hts hown hK hG hv8 rfl iX0 (by decide) flX0_27 dX0_findPass_21 ?_
  refine lv_iload_n hx hb dX0_findPass_24 rfl (lv_at hl 1 rfl) ?_
  obtain ⟨o9, ho9, hf⟩ := g_bind hf
  obtain ⟨r10, hr10, hf⟩ := g_bind hf
  refine g_callV hx hb hml hl.1 hts hown hK hG hS (As := [.int v4]) (rest := []) (tX3_withoutLowest l D hr10) vX3_withoutLowest mlX0_74 ho9 rfl rfl rfl rfl ⟨Nat.le_of_ble_eq_true rfl, Nat.le_of_ble_eq_true rfl⟩ rfl rfl (Nat.le_of_ble_eq_true rfl) ⟨Nat.le_of_ble_eq_true rfl, Nat.le_of_ble_eq_true rfl⟩ dX0_findPass_25 (fun H locs hG hS => ?_)
  refine lv_lstore (lv' := [(4, .long r10.1), (2, .long r7.1), (1, .int v4), (0, .ref x0)]) hx hb dX0_findPass_28 hl (by decide) rfl (fun ls hl => ?_)
  refine lv_aload_n hx hb dX0_findPass_30 rfl (lv_at hl 3 rfl) ?_
  refine lv_lconst (v := 1) hx hb dX0_findPass_31 (by decide +kernel) ?_
  obtain ⟨σ11, hσ11, hf⟩ := g_bind hf
  refine g_put hx hb hts hown hK hG hS hσ11 rfl iX0 tyX0 tyX0_ok nmX0 (by decide) flX0_78 rfl rfl rfl dX0_findPass_32 (fun H locs hG hS => ?_)
  refine lv_aload_n hx hb dX0_findPass_35 rfl (lv_at hl 3 rfl) ?_
  refine lv_lconst (v := 0) hx hb dX0_findPass_36 (by decide +kernel) ?_
  obtain ⟨σ12, hσ12, hf⟩ := g_bind hf
  refine g_put hx hb hts hown hK hG hS hσ12 rfl iX0 tyX0 tyX0_ok nmX0 (by decide) flX0_82 rfl rfl rfl dX0_findPass_37 (fun H locs hG hS => ?_)
  refine lv_aload_n hx hb dX0_findPass_40 rfl (lv_at hl 3 rfl) ?_
  refine lv_lconst (v := 0) hx hb dX0_findPass_41 (by decide +kernel) ?_
  obtain ⟨σ13, hσ13, hf⟩ := g_bind hf
  refine g_put hx hb hts hown hK hG hS hσ13 rfl iX0 tyX0 tyX0_ok nmX0 (by decide) flX0_85 rfl rfl rfl dX0_findPass_42 (fun H locs hG hS => ?_)
  refine lv_aload_n hx hb dX0_findPass_45 rfl (lv_at hl 3 rfl) ?_
  refine lv_lconst (v := 1) hx hb dX0_findPass_46 (by decide +kernel) ?_
  obtain ⟨σ14, hσ14, hf⟩ := g_bind hf
  refine g_put hx hb hts hown hK hG hS hσ14 rfl iX0 tyX0 tyX0_ok nmX0 (by decide) flX0_88 rfl rfl rfl dX0_findPass_47 (fun H locs hG hS => ?_)
  refine lv_iconst (v := 0) hx hb dX0_findPass_50 (by decide +kernel) ?_
  refine lv_istore (lv' := [(6, .int 0), (4, .long r10.1), (2, .long r7.1), (1, .int v4), (0, .ref x0)]) hx hb dX0_findPass_51 hl (by decide) rfl (fun ls hl => ?_)
  exact tLX0_findPass_53 C hK  g_fuel _ _ _ _ _ _ _ _ hG hS (lv_sub hl [4, 2, 1, 0] rfl) hf

def rmX0_finishShort : Room := { frames := 2, cells := 0, slots := 0, locals := 43 }
noncomputable def BX0_finishShort_48  (σ : g_S) (x0 : Nat) (x1 : Int64) (x3 : Int64) : Option (g_S) := (g_fr σ 0 x0 1).bind fun v8 => (g_o σ 3 v8).bind fun o9 => (fX3_becomeUnsigned σ v8 x1).bind fun r10 => (g_fr r10 0 x0 2).bind fun v11 => (g_o r10 3 v11).bind fun o12 => (fX3_becomeUnsigned r10 v11 x3).bind fun r13 => some r13
noncomputable def LX0_finishShort_19  : Nat → g_S → Nat → Int64 → Int64 → Int32 → Option (g_S)
  | 0, _, _, _, _, _ => none
  | n + 1, σ, x0, x1, x3, x5 => if 100 ≤ x5 then (BX0_finishShort_48 σ x0 x1 x3) else (if lg_cmp x3 0 = 0 then (BX0_finishShort_48 σ x0 x1 x3) else (g_if (¬ x3 = 0) <| g_let (g_lrem x1 x3) fun v16 => g_let (x5 + 1) fun v17 => (LX0_finishShort_19  n) σ x0 x3 v16 v17))
noncomputable def fX0_finishShort (σ : g_S) (x0 : Nat) : Option (g_S) := (g_fr σ 0 x0 1).bind fun v1 => (g_o σ 3 v1).bind fun o2 => (fX3_toLong σ v1).bind fun r3 => (g_fr r3.2 0 x0 2).bind fun v4 => (g_o r3.2 3 v4).bind fun o5 => (fX3_toLong r3.2 v4).bind fun r6 => LX0_finishShort_19 g_fuel r6.2 x0 r3.1 r6.1 0
set_option maxHeartbeats 4000000 in
set_option maxRecDepth 100000 in
theorem tBX0_finishShort_48 {p : Program} {l : Launch} {e : Env} {s : State} {m : MethodId} {args : Array Value} {below : List Frame} {meth : Method} {c : Code} {D : g_D} {out : g_S} (C : g_C RX0 cX0_finishShort 8 none True p s m args meth c) (hK : g_K D s)  : ∀ (σ : g_S) (x0 : Nat) (x1 : Int64) (x3 : Int64) (H : Heap) (locs : List Loc) (ls : Array Slot), g_H D σ H → va_S (g_A D) s.heap H locs → lv_has ls 8 [(0, .ref x0), (1, .long x1), (3, .long x3)] → BX0_finishShort_48  σ x0 x1 x3 = some out → W p l e rmX0_finishShort s m args below meth c H locs 0 0 (MQ below (g_Q D out (none)) args s 0 0 (g_A D)) (F0 m 48 ls []) := by
  obtain ⟨hx, hb, hml, hown, hts, hr, hlocks, hin⟩ := id C
  intro σ x0 x1 x3 H locs ls hG hS hl hf
  unfold BX0_finishShort_48 at hf
  refine lv_aload_n hx hb dX0_finishShort_48 rfl (lv_at hl 0 rfl) ?_
  obtain ⟨v8, hv8, hf⟩ := g_bind hf
  refine g_getr hx hb hts hown hK hG hv8 rfl iX0 (by decide) flX0_23 dX0_finishShort_49 ?_
  refine lv_lload_n hx hb dX0_finishShort_52 rfl (lv_at hl 1 rfl) ?_
  obtain ⟨o9, ho9, hf⟩ := g_bind hf
  obtain ⟨r10, hr10, hf⟩ := g_bind hf
  refine g_callV hx hb hml hl.1 hts hown hK hG hS (As := [.long x1]) (rest := []) (tX3_becomeUnsigned l D hr10) vX3_becomeUnsigned mlX0_66 ho9 rfl rfl rfl rfl ⟨Nat.le_of_ble_eq_true rfl, Nat.le_of_ble_eq_true rfl⟩ rfl rfl (Nat.le_of_ble_eq_true rfl) ⟨Nat.le_of_ble_eq_true rfl, Nat.le_of_ble_eq_true rfl⟩ dX0_finishShort_53 (fun H locs hG hS => ?_)
  refine lv_aload_n hx hb dX0_finishShort_56 rfl (lv_at hl 0 rfl) ?_
  obtain ⟨v11, hv11, hf⟩ := g_bind hf
  refine g_getr hx hb hts hown hK hG hv11 rfl iX0 (by decide) flX0_27 dX0_finishShort_57 ?_
  refine lv_lload_n hx hb dX0_finishShort_60 rfl (lv_at hl 2 rfl) ?_
  obtain ⟨o12, ho12, hf⟩ := g_bind hf
  obtain ⟨r13, hr13, hf⟩ := g_bind hf
  refine g_callV hx hb hml hl.1 hts hown hK hG hS (As := [.long x3]) (rest := []) (tX3_becomeUnsigned l D hr13) vX3_becomeUnsigned mlX0_66 ho12 rfl rfl rfl rfl ⟨Nat.le_of_ble_eq_true rfl, Nat.le_of_ble_eq_true rfl⟩ rfl rfl (Nat.le_of_ble_eq_true rfl) ⟨Nat.le_of_ble_eq_true rfl, Nat.le_of_ble_eq_true rfl⟩ dX0_finishShort_61 (fun H locs hG hS => ?_)
  cases hf
  exact g_vret hx hb hr hlocks hG hS dX0_finishShort_64

set_option maxHeartbeats 4000000 in
set_option maxRecDepth 100000 in
theorem tLX0_finishShort_19 {p : Program} {l : Launch} {e : Env} {s : State} {m : MethodId} {args : Array Value} {below : List Frame} {meth : Method} {c : Code} {D : g_D} {out : g_S} (C : g_C RX0 cX0_finishShort 8 none True p s m args meth c) (hK : g_K D s)  : ∀ (n : Nat) (σ : g_S) (x0 : Nat) (x1 : Int64) (x3 : Int64) (x5 : Int32) (H : Heap) (locs : List Loc) (ls : Array Slot), g_H D σ H → va_S (g_A D) s.heap H locs → lv_has ls 8 [(0, .ref x0), (1, .long x1), (3, .long x3), (5, .int x5)] → LX0_finishShort_19  n σ x0 x1 x3 x5 = some out → W p l e rmX0_finishShort s m args below meth c H locs 0 0 (MQ below (g_Q D out (none)) args s 0 0 (g_A D)) (F0 m 19 ls [])  := by
  obtain ⟨hx, hb, hml, hown, hts, hr, hlocks, hin⟩ := id C
  intro n
  induction n with
  | zero => intro σ x0 x1 x3 x5 H locs ls hG hS hl hf; cases hf
  | succ n ih =>
    intro σ x0 x1 x3 x5 H locs ls hG hS hl hf
    have hf : (if 100 ≤ x5 then (BX0_finishShort_48 σ x0 x1 x3) else (if lg_cmp x3 0 = 0 then (BX0_finishShort_48 σ x0 x1 x3) else (g_if (¬ x3 = 0) <| g_let (g_lrem x1 x3) fun v16 => g_let (x5 + 1) fun v17 => (LX0_finishShort_19  n) σ x0 x3 v16 v17))) = some out := hf
    have hk19 := ih
    refine lv_iload hx hb dX0_finishShort_19 (lv_at hl 3 rfl) ?_
    refine lv_bipush (v := 100) hx hb dX0_finishShort_21 (by decide +kernel) ?_
    refine lv_icmp_ge (tgt := 48) hx hb dX0_finishShort_23 (by decide) (fun c7 => ?_) (fun c7 => ?_)
    · rw [if_pos c7] at hf
      exact tBX0_finishShort_48 C hK   _ _ _ _ _ _ _ hG hS (lv_sub hl [0, 1, 2] rfl) hf
    · rw [if_neg c7] at hf
      refine lv_lload_n hx hb dX0_finishShort_26 rfl (lv_at hl 2 rfl) ?_
      refine lv_lconst (v := 0) hx hb dX0_finishShort_27 (by decide +kernel) ?_
      refine W.lcmp hx hb dX0_finishShort_28 ?_
      refine lv_if_eq (tgt := 48) hx hb dX0_finishShort_29 (by decide) (fun c14 => ?_) (fun c14 => ?_)
      · rw [if_pos c14] at hf
        exact tBX0_finishShort_48 C hK   _ _ _ _ _ _ _ hG hS (lv_sub hl [0, 1, 2] rfl) hf
      · rw [if_neg c14] at hf
        refine lv_lload_n hx hb dX0_finishShort_32 rfl (lv_at hl 1 rfl) ?_
        refine lv_lload_n hx hb dX0_finishShort_33 rfl (lv_at hl 2 rfl) ?_
        obtain ⟨h15, hf⟩ := g_if_spec hf
        refine lv_lrem hx hb dX0_finishShort_34 h15 ?_
        refine g_topl (y := g_lrem x1 x3) rfl ?_
        obtain ⟨v16, ev16, hf⟩ := g_let_spec hf
        refine g_topl ev16 ?_
        refine lv_lstore (lv' := [(6, .long v16), (0, .ref x0), (1, .long x1), (3, .long x3), (5, .int x5)]) hx hb dX0_finishShort_35 hl (by decide) rfl (fun ls hl => ?_)
        refine lv_lload_n hx hb dX0_finishShort_37 rfl (lv_at hl 3 rfl) ?_
        refine lv_lstore_n (lv' := [(1, .long x3), (6, .long v16), (0, .ref x0), (3, .long x3), (5, .int x5)]) hx hb dX0_finishShort_38 rfl hl (by decide) rfl (fun ls hl => ?_)
        refine lv_lload hx hb dX0_finishShort_39 (lv_at hl 1 rfl) ?_
        refine lv_lstore_n (lv' := [(3, .long v16), (1, .long x3), (6, .long v16), (0, .ref x0), (5, .int x5)]) hx hb dX0_finishShort_41 rfl hl (by decide) rfl (fun ls hl => ?_)
        obtain ⟨v17, ev17, hf⟩ := g_let_spec hf
        refine lv_iinc (v := v17) (lv' := [(5, .int v17), (3, .long v16), (1, .long x3), (6, .long v16), (0, .ref x0)]) hx hb dX0_finishShort_42 hl (k := 4) rfl (by rw [← ev17]; rfl) (by decide) rfl (fun ls hl => ?_)
        refine lv_goto (tgt := 19) hx hb dX0_finishShort_45 (by decide) ?_
        exact hk19 _ _ _ _ _ _ _ _ hG hS (lv_sub hl [4, 2, 1, 0] rfl) hf

set_option maxHeartbeats 4000000 in
set_option maxRecDepth 100000 in
theorem tX0_finishShort (l : Launch) (D : g_D) {σ : g_S} {x0 : Nat} {out : g_S} (hf : fX0_finishShort σ x0 = some out) : Met l yX0_finishShort (Cond.code yX0_finishShort cX0_finishShort 8 none :: lw_g) rmX0_finishShort (g_P D σ [.ref x0]) (g_Q D out (none)) 0 0 (g_A D) := by
  refine Met.ofW (cc := cX0_finishShort) (maxL := 8) (ret := none) (by decide +kernel) rfl ?_
  intro p e s m args below meth c s₁ B hml hv
  obtain ⟨rfl, hG, hK⟩ := hv
  have hts : ∀ w ∈ lw_g, w.before _ s = true := fun w h => atoms_spec (ws := (Cond.code yX0_finishShort cX0_finishShort 8 none :: lw_g)) B.pre w (List.mem_cons_of_mem _ h)
  have C : g_C RX0 cX0_finishShort 8 none True p s m _ meth c := ⟨B.exec, B.bytes, hml, findClass_of_methodNamed B.named, hts, B.returns, B.notSynchronized, trivial⟩
  obtain ⟨hx, hb, hml, hown, hts, hr, hlocks, hin⟩ := id C
  have hS : va_S (g_A D) s.heap s.heap [] := va_S.rf
  have hl := lv_entry ([.ref x0]) (n := 8) (Nat.le_of_ble_eq_true rfl)
  rw [lg_entry_eq]
  generalize (lg_sl ([.ref x0]) ++ List.replicate (8 - (lg_sl ([.ref x0])).length) Slot.unset).toArray = ls at hl ⊢
  have hl : lv_has ls 8 [(0, .ref x0)] := hl
  unfold fX0_finishShort at hf
  refine lv_aload_n hx hb dX0_finishShort_0 rfl (lv_at hl 0 rfl) ?_
  obtain ⟨v1, hv1, hf⟩ := g_bind hf
  refine g_getr hx hb hts hown hK hG hv1 rfl iX0 (by decide) flX0_23 dX0_finishShort_1 ?_
  obtain ⟨o2, ho2, hf⟩ := g_bind hf
  obtain ⟨r3, hr3, hf⟩ := g_bind hf
  refine g_callV hx hb hml hl.1 hts hown hK hG hS (As := []) (rest := []) (tX3_toLong l D hr3) vX3_toLong mlX0_62 ho2 rfl rfl rfl rfl ⟨Nat.le_of_ble_eq_true rfl, Nat.le_of_ble_eq_true rfl⟩ rfl rfl (Nat.le_of_ble_eq_true rfl) ⟨Nat.le_of_ble_eq_true rfl, Nat.le_of_ble_eq_true rfl⟩ dX0_finishShort_4 (fun H locs hG hS => ?_)
  refine lv_lstore_n (lv' := [(1, .long r3.1), (0, .ref x0)]) hx hb dX0_finishShort_7 rfl hl (by decide) rfl (fun ls hl => ?_)
  refine lv_aload_n hx hb dX0_finishShort_8 rfl (lv_at hl 1 rfl) ?_
  obtain ⟨v4, hv4, hf⟩ := g_bind hf
  refine g_getr hx hb hts hown hK hG hv4 rfl iX0 (by decide) flX0_27 dX0_finishShort_9 ?_
  obtain ⟨o5, ho5, hf⟩ := g_bind hf
  obtain ⟨r6, hr6, hf⟩ := g_bind hf
  refine g_callV hx hb hml hl.1 hts hown hK hG hS (As := []) (rest := []) (tX3_toLong l D hr6) vX3_toLong mlX0_62 ho5 rfl rfl rfl rfl ⟨Nat.le_of_ble_eq_true rfl, Nat.le_of_ble_eq_true rfl⟩ rfl rfl (Nat.le_of_ble_eq_true rfl) ⟨Nat.le_of_ble_eq_true rfl, Nat.le_of_ble_eq_true rfl⟩ dX0_finishShort_12 (fun H locs hG hS => ?_)
  refine lv_lstore_n (lv' := [(3, .long r6.1), (1, .long r3.1), (0, .ref x0)]) hx hb dX0_finishShort_15 rfl hl (by decide) rfl (fun ls hl => ?_)
  refine lv_iconst (v := 0) hx hb dX0_finishShort_16 (by decide +kernel) ?_
  refine lv_istore (lv' := [(5, .int 0), (3, .long r6.1), (1, .long r3.1), (0, .ref x0)]) hx hb dX0_finishShort_17 hl (by decide) rfl (fun ls hl => ?_)
  exact tLX0_finishShort_19 C hK  g_fuel _ _ _ _ _ _ _ _ hG hS (lv_sub hl [3, 2, 1, 0] rfl) hf

def rmX0_of : Room := { frames := 3, cells := 0, slots := 0, locals := 87 }
noncomputable def BX0_of_145  (σ : g_S) (x0 : Nat) : Option (Nat × g_S) := (g_fr σ 0 x0 1).bind fun v13 => some (v13, σ)
noncomputable def BX0_of_139 (k49 : g_S → Nat → Int32 → Option (Nat × g_S)) (σ : g_S) (x0 : Nat) (x4 : Int32) : Option (Nat × g_S) := g_let (x4 + 1) fun v38 => k49 σ x0 v38
noncomputable def LX0_of_49  : Nat → g_S → Nat → Int32 → Option (Nat × g_S)
  | 0, _, _, _ => none
  | n + 1, σ, x0, x4 => if 10000 ≤ x4 then (BX0_of_145 σ x0) else ((g_fr σ 0 x0 2).bind fun v14 => (g_o σ 3 v14).bind fun o15 => (fX3_isZero σ v14).bind fun r16 => if r16.1 = 0 then ((g_fr r16.2 0 x0 1).bind fun v18 => (g_fi r16.2 3 v18 1).bind fun v19 => if 2 < v19 then ((g_o r16.2 0 x0).bind fun o21 => (fX0_findPass r16.2 x0).bind fun r22 => if r22.1 = 0 then ((g_fr r22.2 0 x0 0).bind fun v24 => (g_fr r22.2 0 x0 1).bind fun v25 => (g_fr r22.2 0 x0 2).bind fun v26 => (g_o r22.2 1 v24).bind fun o27 => (fX1_divide r22.2 v24 v25 v26).bind fun r28 => (g_fr r28 0 x0 1).bind fun v29 => (g_fr r28 0 x0 2).bind fun v30 => (g_o r28 3 v29).bind fun o31 => (fX3_become r28 v29 v30).bind fun r32 => (g_fr r32 0 x0 2).bind fun v33 => (g_fr r32 0 x0 0).bind fun v34 => (g_fr r32 1 v34 1).bind fun v35 => (g_o r32 3 v33).bind fun o36 => (fX3_become r32 v33 v35).bind fun r37 => BX0_of_139 (LX0_of_49  n) r37 x0 x4) else ((g_o r22.2 0 x0).bind fun o39 => (fX0_doPass r22.2 x0).bind fun r40 => BX0_of_139 (LX0_of_49  n) r40 x0 x4)) else ((g_o r16.2 0 x0).bind fun o41 => (fX0_finishShort r16.2 x0).bind fun r42 => BX0_of_139 (LX0_of_49  n) r42 x0 x4)) else (BX0_of_145 r16.2 x0))
noncomputable def BX0_of_43  (σ : g_S) (x0 : Nat) (y0 : Nat) (y1 : Nat) : Option (Nat × g_S) := (g_o σ 3 y0).bind fun o10 => (fX3_become σ y0 y1).bind fun r11 => LX0_of_49 g_fuel r11 x0 0
noncomputable def BX0_of_27  (σ : g_S) (x0 : Nat) (x1 : Nat) (x2 : Nat) (x3 : Int32) (y0 : Nat) (y1 : Nat) : Option (Nat × g_S) := (g_o σ 3 y0).bind fun o6 => (fX3_become σ y0 y1).bind fun r7 => (g_fr r7 0 x0 2).bind fun v8 => if x3 = 0 then (BX0_of_43 r7 x0 v8 x1) else (BX0_of_43 r7 x0 v8 x2)
noncomputable def BX0_of_13  (σ : g_S) (x0 : Nat) (x1 : Nat) (x2 : Nat) (y0 : Int32) : Option (Nat × g_S) := (g_fr σ 0 x0 1).bind fun v4 => if y0 = 0 then (BX0_of_27 σ x0 x1 x2 y0 v4 x2) else (BX0_of_27 σ x0 x1 x2 y0 v4 x1)
noncomputable def fX0_of (σ : g_S) (x0 : Nat) (x1 : Nat) (x2 : Nat) : Option (Nat × g_S) := (g_o σ 3 x1).bind fun o1 => (fX3_order σ x1 x2).bind fun r2 => if r2.1 < 0 then (BX0_of_13 r2.2 x0 x1 x2 0) else (BX0_of_13 r2.2 x0 x1 x2 1)
set_option maxHeartbeats 4000000 in
set_option maxRecDepth 100000 in
theorem tBX0_of_145 {p : Program} {l : Launch} {e : Env} {s : State} {m : MethodId} {args : Array Value} {below : List Frame} {meth : Method} {c : Code} {D : g_D} {out : Nat × g_S} (C : g_C RX0 cX0_of 5 (some (.object "FractionDesk$Natural")) True p s m args meth c) (hK : g_K D s)  : ∀ (σ : g_S) (x0 : Nat) (H : Heap) (locs : List Loc) (ls : Array Slot), g_H D σ H → va_S (g_A D) s.heap H locs → lv_has ls 5 [(0, .ref x0)] → BX0_of_145  σ x0 = some out → W p l e rmX0_of s m args below meth c H locs 0 0 (MQ below (g_Q D out.2 (some (.ref out.1))) args s 0 0 (g_A D)) (F0 m 145 ls []) := by
  obtain ⟨hx, hb, hml, hown, hts, hr, hlocks, hin⟩ := id C
  intro σ x0 H locs ls hG hS hl hf
  unfold BX0_of_145 at hf
  refine lv_aload_n hx hb dX0_of_145 rfl (lv_at hl 0 rfl) ?_
  obtain ⟨v13, hv13, hf⟩ := g_bind hf
  refine g_getr hx hb hts hown hK hG hv13 rfl iX0 (by decide) flX0_23 dX0_of_146 ?_
  cases hf
  exact g_aret hx hb hr (Or.inl ⟨_, rfl⟩) hlocks hG hS dX0_of_149

set_option maxHeartbeats 4000000 in
set_option maxRecDepth 100000 in
theorem tBX0_of_139 {p : Program} {l : Launch} {e : Env} {s : State} {m : MethodId} {args : Array Value} {below : List Frame} {meth : Method} {c : Code} {D : g_D} {out : Nat × g_S} (C : g_C RX0 cX0_of 5 (some (.object "FractionDesk$Natural")) True p s m args meth c) (hK : g_K D s) (k49 : g_S → Nat → Int32 → Option (Nat × g_S)) (hk49 : ∀ (σ : g_S) (x0 : Nat) (x4 : Int32) (H : Heap) (locs : List Loc) (ls : Array Slot), g_H D σ H → va_S (g_A D) s.heap H locs → lv_has ls 5 [(0, .ref x0), (4, .int x4)] → k49 σ x0 x4 = some out → W p l e rmX0_of s m args below meth c H locs 0 0 (MQ below (g_Q D out.2 (some (.ref out.1))) args s 0 0 (g_A D)) (F0 m 49 ls [])) : ∀ (σ : g_S) (x0 : Nat) (x4 : Int32) (H : Heap) (locs : List Loc) (ls : Array Slot), g_H D σ H → va_S (g_A D) s.heap H locs → lv_has ls 5 [(0, .ref x0), (4, .int x4)] → BX0_of_139 k49 σ x0 x4 = some out → W p l e rmX0_of s m args below meth c H locs 0 0 (MQ below (g_Q D out.2 (some (.ref out.1))) args s 0 0 (g_A D)) (F0 m 139 ls []) := by
  obtain ⟨hx, hb, hml, hown, hts, hr, hlocks, hin⟩ := id C
  intro σ x0 x4 H locs ls hG hS hl hf
  unfold BX0_of_139 at hf
  obtain ⟨v38, ev38, hf⟩ := g_let_spec hf
  refine lv_iinc (v := v38) (lv' := [(4, .int v38), (0, .ref x0)]) hx hb dX0_of_139 hl (k := 1) rfl (by rw [← ev38]; rfl) (by decide) rfl (fun ls hl => ?_)
  refine lv_goto (tgt := 49) hx hb dX0_of_142 (by decide) ?_
  exact hk49 _ _ _ _ _ _ hG hS (lv_sub hl [1, 0] rfl) hf

set_option maxHeartbeats 4000000 in
set_option maxRecDepth 100000 in
theorem tLX0_of_49 {p : Program} {l : Launch} {e : Env} {s : State} {m : MethodId} {args : Array Value} {below : List Frame} {meth : Method} {c : Code} {D : g_D} {out : Nat × g_S} (C : g_C RX0 cX0_of 5 (some (.object "FractionDesk$Natural")) True p s m args meth c) (hK : g_K D s)  : ∀ (n : Nat) (σ : g_S) (x0 : Nat) (x4 : Int32) (H : Heap) (locs : List Loc) (ls : Array Slot), g_H D σ H → va_S (g_A D) s.heap H locs → lv_has ls 5 [(0, .ref x0), (4, .int x4)] → LX0_of_49  n σ x0 x4 = some out → W p l e rmX0_of s m args below meth c H locs 0 0 (MQ below (g_Q D out.2 (some (.ref out.1))) args s 0 0 (g_A D)) (F0 m 49 ls [])  := by
  obtain ⟨hx, hb, hml, hown, hts, hr, hlocks, hin⟩ := id C
  intro n
  induction n with
  | zero => intro σ x0 x4 H locs ls hG hS hl hf; cases hf
  | succ n ih =>
    intro σ x0 x4 H locs ls hG hS hl hf
    have hf : (if 10000 ≤ x4 then (BX0_of_145 σ x0) else ((g_fr σ 0 x0 2).bind fun v14 => (g_o σ 3 v14).bind fun o15 => (fX3_isZero σ v14).bind fun r16 => if r16.1 = 0 then ((g_fr r16.2 0 x0 1).bind fun v18 => (g_fi r16.2 3 v18 1).bind fun v19 => if 2 < v19 then ((g_o r16.2 0 x0).bind fun o21 => (fX0_findPass r16.2 x0).bind fun r22 => if r22.1 = 0 then ((g_fr r22.2 0 x0 0).bind fun v24 => (g_fr r22.2 0 x0 1).bind fun v25 => (g_fr r22.2 0 x0 2).bind fun v26 => (g_o r22.2 1 v24).bind fun o27 => (fX1_divide r22.2 v24 v25 v26).bind fun r28 => (g_fr r28 0 x0 1).bind fun v29 => (g_fr r28 0 x0 2).bind fun v30 => (g_o r28 3 v29).bind fun o31 => (fX3_become r28 v29 v30).bind fun r32 => (g_fr r32 0 x0 2).bind fun v33 => (g_fr r32 0 x0 0).bind fun v34 => (g_fr r32 1 v34 1).bind fun v35 => (g_o r32 3 v33).bind fun o36 => (fX3_become r32 v33 v35).bind fun r37 => BX0_of_139 (LX0_of_49  n) r37 x0 x4) else ((g_o r22.2 0 x0).bind fun o39 => (fX0_doPass r22.2 x0).bind fun r40 => BX0_of_139 (LX0_of_49  n) r40 x0 x4)) else ((g_o r16.2 0 x0).bind fun o41 => (fX0_finishShort r16.2 x0).bind fun r42 => BX0_of_139 (LX0_of_49  n) r42 x0 x4)) else (BX0_of_145 r16.2 x0))) = some out := hf
    have hk49 := ih
    refine lv_iload hx hb dX0_of_49 (lv_at hl 1 rfl) ?_
    refine lv_sipush (v := 10000) hx hb dX0_of_51 (by decide +kernel) ?_
    refine lv_icmp_ge (tgt := 145) hx hb dX0_of_54 (by decide) (fun c12 => ?_) (fun c12 => ?_)
    · rw [if_pos c12] at hf
      exact tBX0_of_145 C hK   _ _ _ _ _ hG hS (lv_sub hl [0] rfl) hf
    · rw [if_neg c12] at hf
      refine lv_aload_n hx hb dX0_of_57 rfl (lv_at hl 0 rfl) ?_
      obtain ⟨v14, hv14, hf⟩ := g_bind hf
      refine g_getr hx hb hts hown hK hG hv14 rfl iX0 (by decide) flX0_27 dX0_of_58 ?_
      obtain ⟨o15, ho15, hf⟩ := g_bind hf
      obtain ⟨r16, hr16, hf⟩ := g_bind hf
      refine g_callV hx hb hml hl.1 hts hown hK hG hS (As := []) (rest := []) (tX3_isZero l D hr16) vX3_isZero mlX0_38 ho15 rfl rfl rfl rfl ⟨Nat.le_of_ble_eq_true rfl, Nat.le_of_ble_eq_true rfl⟩ rfl rfl (Nat.le_of_ble_eq_true rfl) ⟨Nat.le_of_ble_eq_true rfl, Nat.le_of_ble_eq_true rfl⟩ dX0_of_61 (fun H locs hG hS => ?_)
      refine lv_if_ne (tgt := 145) hx hb dX0_of_64 (by decide) (fun c17 => ?_) (fun c17 => ?_)
      · rw [if_neg c17] at hf
        exact tBX0_of_145 C hK   _ _ _ _ _ hG hS (lv_sub hl [0] rfl) hf
      · rw [if_pos c17] at hf
        refine lv_aload_n hx hb dX0_of_67 rfl (lv_at hl 0 rfl) ?_
        obtain ⟨v18, hv18, hf⟩ := g_bind hf
        refine g_getr hx hb hts hown hK hG hv18 rfl iX0 (by decide) flX0_23 dX0_of_68 ?_
        obtain ⟨v19, hv19, hf⟩ := g_bind hf
        refine g_geti hx hb hts hown hK hG hv19 rfl iX3 (by decide) flX0_42 dX0_of_71 ?_
        refine lv_iconst (v := 2) hx hb dX0_of_74 (by decide +kernel) ?_
        refine lv_icmp_gt (tgt := 85) hx hb dX0_of_75 (by decide) (fun c20 => ?_) (fun c20 => ?_)
        · rw [if_pos c20] at hf
          refine lv_aload_n hx hb dX0_of_85 rfl (lv_at hl 0 rfl) ?_
          obtain ⟨o21, ho21, hf⟩ := g_bind hf
          obtain ⟨r22, hr22, hf⟩ := g_bind hf
          refine g_callV hx hb hml hl.1 hts hown hK hG hS (As := []) (rest := []) (tX0_findPass l D hr22) vX0_findPass mlX0_49 ho21 rfl rfl rfl rfl ⟨Nat.le_of_ble_eq_true rfl, Nat.le_of_ble_eq_true rfl⟩ rfl rfl (Nat.le_of_ble_eq_true rfl) ⟨Nat.le_of_ble_eq_true rfl, Nat.le_of_ble_eq_true rfl⟩ dX0_of_86 (fun H locs hG hS => ?_)
          refine lv_if_eq (tgt := 99) hx hb dX0_of_89 (by decide) (fun c23 => ?_) (fun c23 => ?_)
          · rw [if_pos c23] at hf
            refine lv_aload_n hx hb dX0_of_99 rfl (lv_at hl 0 rfl) ?_
            obtain ⟨v24, hv24, hf⟩ := g_bind hf
            refine g_getr hx hb hts hown hK hG hv24 rfl iX0 (by decide) flX0_12 dX0_of_100 ?_
            refine lv_aload_n hx hb dX0_of_103 rfl (lv_at hl 0 rfl) ?_
            obtain ⟨v25, hv25, hf⟩ := g_bind hf
            refine g_getr hx hb hts hown hK hG hv25 rfl iX0 (by decide) flX0_23 dX0_of_104 ?_
            refine lv_aload_n hx hb dX0_of_107 rfl (lv_at hl 0 rfl) ?_
            obtain ⟨v26, hv26, hf⟩ := g_bind hf
            refine g_getr hx hb hts hown hK hG hv26 rfl iX0 (by decide) flX0_27 dX0_of_108 ?_
            obtain ⟨o27, ho27, hf⟩ := g_bind hf
            obtain ⟨r28, hr28, hf⟩ := g_bind hf
            refine g_callV hx hb hml hl.1 hts hown hK hG hS (As := [.ref v25, .ref v26]) (rest := []) (tX1_divide l D hr28) vX1_divide mlX0_55 ho27 rfl rfl rfl rfl ⟨Nat.le_of_ble_eq_true rfl, Nat.le_of_ble_eq_true rfl⟩ rfl rfl (Nat.le_of_ble_eq_true rfl) ⟨Nat.le_of_ble_eq_true rfl, Nat.le_of_ble_eq_true rfl⟩ dX0_of_111 (fun H locs hG hS => ?_)
            refine lv_aload_n hx hb dX0_of_114 rfl (lv_at hl 0 rfl) ?_
            obtain ⟨v29, hv29, hf⟩ := g_bind hf
            refine g_getr hx hb hts hown hK hG hv29 rfl iX0 (by decide) flX0_23 dX0_of_115 ?_
            refine lv_aload_n hx hb dX0_of_118 rfl (lv_at hl 0 rfl) ?_
            obtain ⟨v30, hv30, hf⟩ := g_bind hf
            refine g_getr hx hb hts hown hK hG hv30 rfl iX0 (by decide) flX0_27 dX0_of_119 ?_
            obtain ⟨o31, ho31, hf⟩ := g_bind hf
            obtain ⟨r32, hr32, hf⟩ := g_bind hf
            refine g_callV hx hb hml hl.1 hts hown hK hG hS (As := [.ref v30]) (rest := []) (tX3_become l D hr32) vX3_become mlX0_34 ho31 rfl rfl rfl rfl ⟨Nat.le_of_ble_eq_true rfl, Nat.le_of_ble_eq_true rfl⟩ rfl rfl (Nat.le_of_ble_eq_true rfl) ⟨Nat.le_of_ble_eq_true rfl, Nat.le_of_ble_eq_true rfl⟩ dX0_of_122 (fun H locs hG hS => ?_)
            refine lv_aload_n hx hb dX0_of_125 rfl (lv_at hl 0 rfl) ?_
            obtain ⟨v33, hv33, hf⟩ := g_bind hf
            refine g_getr hx hb hts hown hK hG hv33 rfl iX0 (by decide) flX0_27 dX0_of_126 ?_
            refine lv_aload_n hx hb dX0_of_129 rfl (lv_at hl 0 rfl) ?_
            obtain ⟨v34, hv34, hf⟩ := g_bind hf
            refine g_getr hx hb hts hown hK hG hv34 rfl iX0 (by decide) flX0_12 dX0_of_130 ?_
            obtain ⟨v35, hv35, hf⟩ := g_bind hf
            refine g_getr hx hb hts hown hK hG hv35 rfl iX1 (by decide) flX0_59 dX0_of_133 ?_
            obtain ⟨o36, ho36, hf⟩ := g_bind hf
            obtain ⟨r37, hr37, hf⟩ := g_bind hf
            refine g_callV hx hb hml hl.1 hts hown hK hG hS (As := [.ref v35]) (rest := []) (tX3_become l D hr37) vX3_become mlX0_34 ho36 rfl rfl rfl rfl ⟨Nat.le_of_ble_eq_true rfl, Nat.le_of_ble_eq_true rfl⟩ rfl rfl (Nat.le_of_ble_eq_true rfl) ⟨Nat.le_of_ble_eq_true rfl, Nat.le_of_ble_eq_true rfl⟩ dX0_of_136 (fun H locs hG hS => ?_)
            exact tBX0_of_139 C hK (LX0_of_49  n) hk49  _ _ _ _ _ _ hG hS (lv_sub hl [0, 1] rfl) hf
          · rw [if_neg c23] at hf
            refine lv_aload_n hx hb dX0_of_92 rfl (lv_at hl 0 rfl) ?_
            obtain ⟨o39, ho39, hf⟩ := g_bind hf
            obtain ⟨r40, hr40, hf⟩ := g_bind hf
            refine g_callV hx hb hml hl.1 hts hown hK hG hS (As := []) (rest := []) (tX0_doPass l D hr40) vX0_doPass mlX0_52 ho39 rfl rfl rfl rfl ⟨Nat.le_of_ble_eq_true rfl, Nat.le_of_ble_eq_true rfl⟩ rfl rfl (Nat.le_of_ble_eq_true rfl) ⟨Nat.le_of_ble_eq_true rfl, Nat.le_of_ble_eq_true rfl⟩ dX0_of_93 (fun H locs hG hS => ?_)
            refine lv_goto (tgt := 139) hx hb dX0_of_96 (by decide) ?_
            exact tBX0_of_139 C hK (LX0_of_49  n) hk49  _ _ _ _ _ _ hG hS (lv_sub hl [0, 1] rfl) hf
        · rw [if_neg c20] at hf
          refine lv_aload_n hx hb dX0_of_78 rfl (lv_at hl 0 rfl) ?_
          obtain ⟨o41, ho41, hf⟩ := g_bind hf
          obtain ⟨r42, hr42, hf⟩ := g_bind hf
          refine g_callV hx hb hml hl.1 hts hown hK hG hS (As := []) (rest := []) (tX0_finishShort l D hr42) vX0_finishShort mlX0_46 ho41 rfl rfl rfl rfl ⟨Nat.le_of_ble_eq_true rfl, Nat.le_of_ble_eq_true rfl⟩ rfl rfl (Nat.le_of_ble_eq_true rfl) ⟨Nat.le_of_ble_eq_true rfl, Nat.le_of_ble_eq_true rfl⟩ dX0_of_79 (fun H locs hG hS => ?_)
          refine lv_goto (tgt := 139) hx hb dX0_of_82 (by decide) ?_
          exact tBX0_of_139 C hK (LX0_of_49  n) hk49  _ _ _ _ _ _ hG hS (lv_sub hl [0, 1] rfl) hf

set_option maxHeartbeats 4000000 in
set_option maxRecDepth 100000 in
theorem tBX0_of_43 {p : Program} {l : Launch} {e : Env} {s : State} {m : MethodId} {args : Array Value} {below : List Frame} {meth : Method} {c : Code} {D : g_D} {out : Nat × g_S} (C : g_C RX0 cX0_of 5 (some (.object "FractionDesk$Natural")) True p s m args meth c) (hK : g_K D s)  : ∀ (σ : g_S) (x0 : Nat) (y0 : Nat) (y1 : Nat) (H : Heap) (locs : List Loc) (ls : Array Slot), g_H D σ H → va_S (g_A D) s.heap H locs → lv_has ls 5 [(0, .ref x0)] → BX0_of_43  σ x0 y0 y1 = some out → W p l e rmX0_of s m args below meth c H locs 0 0 (MQ below (g_Q D out.2 (some (.ref out.1))) args s 0 0 (g_A D)) (F0 m 43 ls [.ref y1, .ref y0]) := by
  obtain ⟨hx, hb, hml, hown, hts, hr, hlocks, hin⟩ := id C
  intro σ x0 y0 y1 H locs ls hG hS hl hf
  unfold BX0_of_43 at hf
  obtain ⟨o10, ho10, hf⟩ := g_bind hf
  obtain ⟨r11, hr11, hf⟩ := g_bind hf
  refine g_callV hx hb hml hl.1 hts hown hK hG hS (As := [.ref y1]) (rest := []) (tX3_become l D hr11) vX3_become mlX0_34 ho10 rfl rfl rfl rfl ⟨Nat.le_of_ble_eq_true rfl, Nat.le_of_ble_eq_true rfl⟩ rfl rfl (Nat.le_of_ble_eq_true rfl) ⟨Nat.le_of_ble_eq_true rfl, Nat.le_of_ble_eq_true rfl⟩ dX0_of_43 (fun H locs hG hS => ?_)
  refine lv_iconst (v := 0) hx hb dX0_of_46 (by decide +kernel) ?_
  refine lv_istore (lv' := [(4, .int 0), (0, .ref x0)]) hx hb dX0_of_47 hl (by decide) rfl (fun ls hl => ?_)
  exact tLX0_of_49 C hK  g_fuel _ _ _ _ _ _ hG hS (lv_sub hl [1, 0] rfl) hf

set_option maxHeartbeats 4000000 in
set_option maxRecDepth 100000 in
theorem tBX0_of_27 {p : Program} {l : Launch} {e : Env} {s : State} {m : MethodId} {args : Array Value} {below : List Frame} {meth : Method} {c : Code} {D : g_D} {out : Nat × g_S} (C : g_C RX0 cX0_of 5 (some (.object "FractionDesk$Natural")) True p s m args meth c) (hK : g_K D s)  : ∀ (σ : g_S) (x0 : Nat) (x1 : Nat) (x2 : Nat) (x3 : Int32) (y0 : Nat) (y1 : Nat) (H : Heap) (locs : List Loc) (ls : Array Slot), g_H D σ H → va_S (g_A D) s.heap H locs → lv_has ls 5 [(0, .ref x0), (1, .ref x1), (2, .ref x2), (3, .int x3)] → BX0_of_27  σ x0 x1 x2 x3 y0 y1 = some out → W p l e rmX0_of s m args below meth c H locs 0 0 (MQ below (g_Q D out.2 (some (.ref out.1))) args s 0 0 (g_A D)) (F0 m 27 ls [.ref y1, .ref y0]) := by
  obtain ⟨hx, hb, hml, hown, hts, hr, hlocks, hin⟩ := id C
  intro σ x0 x1 x2 x3 y0 y1 H locs ls hG hS hl hf
  unfold BX0_of_27 at hf
  obtain ⟨o6, ho6, hf⟩ := g_bind hf
  obtain ⟨r7, hr7, hf⟩ := g_bind hf
  refine g_callV hx hb hml hl.1 hts hown hK hG hS (As := [.ref y1]) (rest := []) (tX3_become l D hr7) vX3_become mlX0_34 ho6 rfl rfl rfl rfl ⟨Nat.le_of_ble_eq_true rfl, Nat.le_of_ble_eq_true rfl⟩ rfl rfl (Nat.le_of_ble_eq_true rfl) ⟨Nat.le_of_ble_eq_true rfl, Nat.le_of_ble_eq_true rfl⟩ dX0_of_27 (fun H locs hG hS => ?_)
  refine lv_aload_n hx hb dX0_of_30 rfl (lv_at hl 0 rfl) ?_
  obtain ⟨v8, hv8, hf⟩ := g_bind hf
  refine g_getr hx hb hts hown hK hG hv8 rfl iX0 (by decide) flX0_27 dX0_of_31 ?_
  refine lv_iload_n hx hb dX0_of_34 rfl (lv_at hl 3 rfl) ?_
  refine lv_if_eq (tgt := 42) hx hb dX0_of_35 (by decide) (fun c9 => ?_) (fun c9 => ?_)
  · rw [if_pos c9] at hf
    refine lv_aload_n hx hb dX0_of_42 rfl (lv_at hl 1 rfl) ?_
    exact tBX0_of_43 C hK   _ _ _ _ _ _ _ hG hS (lv_sub hl [0] rfl) hf
  · rw [if_neg c9] at hf
    refine lv_aload_n hx hb dX0_of_38 rfl (lv_at hl 2 rfl) ?_
    refine lv_goto (tgt := 43) hx hb dX0_of_39 (by decide) ?_
    exact tBX0_of_43 C hK   _ _ _ _ _ _ _ hG hS (lv_sub hl [0] rfl) hf

set_option maxHeartbeats 4000000 in
set_option maxRecDepth 100000 in
theorem tBX0_of_13 {p : Program} {l : Launch} {e : Env} {s : State} {m : MethodId} {args : Array Value} {below : List Frame} {meth : Method} {c : Code} {D : g_D} {out : Nat × g_S} (C : g_C RX0 cX0_of 5 (some (.object "FractionDesk$Natural")) True p s m args meth c) (hK : g_K D s)  : ∀ (σ : g_S) (x0 : Nat) (x1 : Nat) (x2 : Nat) (y0 : Int32) (H : Heap) (locs : List Loc) (ls : Array Slot), g_H D σ H → va_S (g_A D) s.heap H locs → lv_has ls 5 [(0, .ref x0), (1, .ref x1), (2, .ref x2)] → BX0_of_13  σ x0 x1 x2 y0 = some out → W p l e rmX0_of s m args below meth c H locs 0 0 (MQ below (g_Q D out.2 (some (.ref out.1))) args s 0 0 (g_A D)) (F0 m 13 ls [.int y0]) := by
  obtain ⟨hx, hb, hml, hown, hts, hr, hlocks, hin⟩ := id C
  intro σ x0 x1 x2 y0 H locs ls hG hS hl hf
  unfold BX0_of_13 at hf
  refine lv_istore_n (lv' := [(3, .int y0), (0, .ref x0), (1, .ref x1), (2, .ref x2)]) hx hb dX0_of_13 rfl hl (by decide) rfl (fun ls hl => ?_)
  refine lv_aload_n hx hb dX0_of_14 rfl (lv_at hl 1 rfl) ?_
  obtain ⟨v4, hv4, hf⟩ := g_bind hf
  refine g_getr hx hb hts hown hK hG hv4 rfl iX0 (by decide) flX0_23 dX0_of_15 ?_
  refine lv_iload_n hx hb dX0_of_18 rfl (lv_at hl 0 rfl) ?_
  refine lv_if_eq (tgt := 26) hx hb dX0_of_19 (by decide) (fun c5 => ?_) (fun c5 => ?_)
  · rw [if_pos c5] at hf
    refine lv_aload_n hx hb dX0_of_26 rfl (lv_at hl 3 rfl) ?_
    exact tBX0_of_27 C hK   _ _ _ _ _ _ _ _ _ _ hG hS (lv_sub hl [1, 2, 3, 0] rfl) hf
  · rw [if_neg c5] at hf
    refine lv_aload_n hx hb dX0_of_22 rfl (lv_at hl 2 rfl) ?_
    refine lv_goto (tgt := 27) hx hb dX0_of_23 (by decide) ?_
    exact tBX0_of_27 C hK   _ _ _ _ _ _ _ _ _ _ hG hS (lv_sub hl [1, 2, 3, 0] rfl) hf

set_option maxHeartbeats 4000000 in
set_option maxRecDepth 100000 in
theorem tX0_of (l : Launch) (D : g_D) {σ : g_S} {x0 : Nat} {x1 : Nat} {x2 : Nat} {out : Nat × g_S} (hf : fX0_of σ x0 x1 x2 = some out) : Met l yX0_of (Cond.code yX0_of cX0_of 5 (some (.object "FractionDesk$Natural")) :: lw_g) rmX0_of (g_P D σ [.ref x0, .ref x1, .ref x2]) (g_Q D out.2 (some (.ref out.1))) 0 0 (g_A D) := by
  refine Met.ofW (cc := cX0_of) (maxL := 5) (ret := (some (.object "FractionDesk$Natural"))) (by decide +kernel) rfl ?_
  intro p e s m args below meth c s₁ B hml hv
  obtain ⟨rfl, hG, hK⟩ := hv
  have hts : ∀ w ∈ lw_g, w.before _ s = true := fun w h => atoms_spec (ws := (Cond.code yX0_of cX0_of 5 (some (.object "FractionDesk$Natural")) :: lw_g)) B.pre w (List.mem_cons_of_mem _ h)
  have C : g_C RX0 cX0_of 5 (some (.object "FractionDesk$Natural")) True p s m _ meth c := ⟨B.exec, B.bytes, hml, findClass_of_methodNamed B.named, hts, B.returns, B.notSynchronized, trivial⟩
  obtain ⟨hx, hb, hml, hown, hts, hr, hlocks, hin⟩ := id C
  have hS : va_S (g_A D) s.heap s.heap [] := va_S.rf
  have hl := lv_entry ([.ref x0, .ref x1, .ref x2]) (n := 5) (Nat.le_of_ble_eq_true rfl)
  rw [lg_entry_eq]
  generalize (lg_sl ([.ref x0, .ref x1, .ref x2]) ++ List.replicate (5 - (lg_sl ([.ref x0, .ref x1, .ref x2])).length) Slot.unset).toArray = ls at hl ⊢
  have hl : lv_has ls 5 [(0, .ref x0), (1, .ref x1), (2, .ref x2)] := hl
  unfold fX0_of at hf
  refine lv_aload_n hx hb dX0_of_0 rfl (lv_at hl 1 rfl) ?_
  refine lv_aload_n hx hb dX0_of_1 rfl (lv_at hl 2 rfl) ?_
  obtain ⟨o1, ho1, hf⟩ := g_bind hf
  obtain ⟨r2, hr2, hf⟩ := g_bind hf
  refine g_callV hx hb hml hl.1 hts hown hK hG hS (As := [.ref x2]) (rest := []) (tX3_order l D hr2) vX3_order mlX0_30 ho1 rfl rfl rfl rfl ⟨Nat.le_of_ble_eq_true rfl, Nat.le_of_ble_eq_true rfl⟩ rfl rfl (Nat.le_of_ble_eq_true rfl) ⟨Nat.le_of_ble_eq_true rfl, Nat.le_of_ble_eq_true rfl⟩ dX0_of_2 (fun H locs hG hS => ?_)
  refine lv_if_lt (tgt := 12) hx hb dX0_of_5 (by decide) (fun c3 => ?_) (fun c3 => ?_)
  · rw [if_pos c3] at hf
    refine lv_iconst (v := 0) hx hb dX0_of_12 (by decide +kernel) ?_
    exact tBX0_of_13 C hK   _ _ _ _ _ _ _ _ hG hS (lv_sub hl [0, 1, 2] rfl) hf
  · rw [if_neg c3] at hf
    refine lv_iconst (v := 1) hx hb dX0_of_8 (by decide +kernel) ?_
    refine lv_goto (tgt := 13) hx hb dX0_of_9 (by decide) ?_
    exact tBX0_of_13 C hK   _ _ _ _ _ _ _ _ hG hS (lv_sub hl [0, 1, 2] rfl) hf

