def rmX4_init : Room := { frames := 4, cells := 27, slots := 1669, locals := 82 }
noncomputable def fX4_init (σ : g_S) (x0 : Nat) : Option (g_S) := g_let σ.2 fun a2 => g_let (g_mk σ (.inr (2, [.null, .null, .int 0]))) fun σ1 => (fX2_init σ1 a2 136).bind fun r3 => (g_p r3 4 x0 0 (.ref a2)).bind fun σ4 => g_let σ4.2 fun a6 => g_let (g_mk σ4 (.inr (0, [.null, .null, .null, .long 0, .long 0, .long 0, .long 0]))) fun σ5 => (fX0_init σ5 a6).bind fun r7 => (g_p r7 4 x0 1 (.ref a6)).bind fun σ8 => (g_fr σ8 4 x0 1).bind fun v9 => (g_fr σ8 0 v9 0).bind fun v10 => (g_p σ8 4 x0 2 (.ref v10)).bind fun σ11 => g_let σ11.2 fun a13 => g_let (g_mk σ11 (.inr (3, [.null, .int 0]))) fun σ12 => (fX3_init σ12 a13 67).bind fun r14 => (g_p r14 4 x0 3 (.ref a13)).bind fun σ15 => g_let σ15.2 fun a17 => g_let (g_mk σ15 (.inr (3, [.null, .int 0]))) fun σ16 => (fX3_init σ16 a17 67).bind fun r18 => (g_p r18 4 x0 4 (.ref a17)).bind fun σ19 => g_let σ19.2 fun a21 => g_let (g_mk σ19 (.inr (3, [.null, .int 0]))) fun σ20 => (fX3_init σ20 a21 67).bind fun r22 => (g_p r22 4 x0 5 (.ref a21)).bind fun σ23 => g_let σ23.2 fun a25 => g_let (g_mk σ23 (.inr (3, [.null, .int 0]))) fun σ24 => (fX3_init σ24 a25 136).bind fun r26 => (g_p r26 4 x0 6 (.ref a25)).bind fun σ27 => g_let σ27.2 fun a29 => g_let (g_mk σ27 (.inr (3, [.null, .int 0]))) fun σ28 => (fX3_init σ28 a29 136).bind fun r30 => (g_p r30 4 x0 7 (.ref a29)).bind fun σ31 => some σ31
set_option maxHeartbeats 4000000 in
set_option maxRecDepth 100000 in
theorem tX4_init (l : Launch) (D : g_D) {σ : g_S} {x0 : Nat} {out : g_S} (hf : fX4_init σ x0 = some out) : Met l yX4_init (Cond.code yX4_init cX4_init 1 none :: lw_g) rmX4_init (g_P D σ [.ref x0]) (g_Q D out (none)) 27 1669 (g_A D) := by
  refine Met.ofW (cc := cX4_init) (maxL := 1) (ret := none) (by decide +kernel) rfl ?_
  intro p e s m args below meth c s₁ B hml hv
  obtain ⟨rfl, hG, hK⟩ := hv
  have hts : ∀ w ∈ lw_g, w.before _ s = true := fun w h => atoms_spec (ws := (Cond.code yX4_init cX4_init 1 none :: lw_g)) B.pre w (List.mem_cons_of_mem _ h)
  have C : g_C RX4 cX4_init 1 none (meth.name = "<init>") p s m _ meth c := ⟨B.exec, B.bytes, hml, findClass_of_methodNamed B.named, hts, B.returns, B.notSynchronized, (name_of_methodNamed B.named B.method).1⟩
  obtain ⟨hx, hb, hml, hown, hts, hr, hlocks, hin⟩ := id C
  have hS : va_S (g_A D) s.heap s.heap [] := va_S.rf
  have hl := lv_entry ([.ref x0]) (n := 1) (Nat.le_of_ble_eq_true rfl)
  rw [lg_entry_eq]
  generalize (lg_sl ([.ref x0]) ++ List.replicate (1 - (lg_sl ([.ref x0])).length) Slot.unset).toArray = ls at hl ⊢
  have hl : lv_has ls 1 [(0, .ref x0)] := hl
  unfold fX4_init at hf
  refine lv_aload_n hx hb dX4_init_0 rfl (lv_at hl 0 rfl) ?_
  refine W.objInit hx hb hown (hts _ oi_lX4) (hts _ oi_i) (hts _ oi_c) rfl (by rw [hml]; exact hl.1) rfl dX4_init_1 (Nat.le_of_ble_eq_true rfl) (Nat.le_of_ble_eq_true rfl) ?_
  refine W.eq (g2 := F0 m 4 ls []) rfl ?_
  refine lv_aload_n hx hb dX4_init_4 rfl (lv_at hl 0 rfl) ?_
  obtain ⟨a2, ea2, hf⟩ := g_let_spec hf
  obtain ⟨σ1, eσ1, hf⟩ := g_let_spec hf
  refine g_new (fs := [.null, .null, .int 0]) hx hb hts hown hK hG hS (ci := 2) rfl iX2 tyX2 tyX2_ok clX4_9 inX2 itX2 (fun j hj => by rcases (show j = 0 ∨ j = 1 ∨ j = 2 by omega) with rfl | rfl | rfl <;> rfl) (Nat.le_of_ble_eq_true rfl) (Nat.le_of_ble_eq_true rfl) dX4_init_5 (fun H hG hS => ?_)
  rw [eσ1] at hG
  rw [ea2]
  refine W.cs (cells' := 1) (slots' := 3) rfl rfl ?_
  refine lv_dup hx hb dX4_init_8 rfl ?_
  refine lv_sipush (v := 136) hx hb dX4_init_9 (by decide +kernel) ?_
  obtain ⟨r3, hr3, hf⟩ := g_bind hf
  refine g_callI hx hb hml hl.1 hts hown hK hG hS (As := [.int 136]) (rest := [.ref a2, .ref x0]) (tX2_init l D hr3) vX2_init mlX4_11 rfl rfl ⟨Nat.le_of_ble_eq_true rfl, Nat.le_of_ble_eq_true rfl⟩ rfl rfl (Nat.le_of_ble_eq_true rfl) ⟨Nat.le_of_ble_eq_true rfl, Nat.le_of_ble_eq_true rfl⟩ dX4_init_12 (fun H locs hG hS => ?_)
  refine W.cs (cells' := 5) (slots' := 279) rfl rfl ?_
  obtain ⟨σ4, hσ4, hf⟩ := g_bind hf
  refine g_putF hx hb hts hown hin hK hG hS hσ4 rfl iX4 tyX4 tyX4_ok nmX4 (by decide) flX4_14 rfl rfl rfl rfl dX4_init_15 (fun H locs hG hS => ?_)
  refine lv_aload_n hx hb dX4_init_18 rfl (lv_at hl 0 rfl) ?_
  obtain ⟨a6, ea6, hf⟩ := g_let_spec hf
  obtain ⟨σ5, eσ5, hf⟩ := g_let_spec hf
  refine g_new (fs := [.null, .null, .null, .long 0, .long 0, .long 0, .long 0]) hx hb hts hown hK hG hS (ci := 0) rfl iX0 tyX0 tyX0_ok clX4_20 inX0 itX0 (fun j hj => by rcases (show j = 0 ∨ j = 1 ∨ j = 2 ∨ j = 3 ∨ j = 4 ∨ j = 5 ∨ j = 6 by omega) with rfl | rfl | rfl | rfl | rfl | rfl | rfl <;> rfl) (Nat.le_of_ble_eq_true rfl) (Nat.le_of_ble_eq_true rfl) dX4_init_19 (fun H hG hS => ?_)
  rw [eσ5] at hG
  rw [ea6]
  refine W.cs (cells' := 6) (slots' := 286) rfl rfl ?_
  refine lv_dup hx hb dX4_init_22 rfl ?_
  obtain ⟨r7, hr7, hf⟩ := g_bind hf
  refine g_callIN hx hb hml hl.1 hts hown hK hG hS (As := []) (rest := [.ref a6, .ref x0]) (tX0_init l D hr7) vX0_init (host := "FractionDesk") (by decide +kernel) rfl rfl ⟨Nat.le_of_ble_eq_true rfl, Nat.le_of_ble_eq_true rfl⟩ rfl rfl (Nat.le_of_ble_eq_true rfl) ⟨Nat.le_of_ble_eq_true rfl, Nat.le_of_ble_eq_true rfl⟩ dX4_init_23 (fun H locs hG hS => ?_)
  refine W.cs (cells' := 17) (slots' := 979) rfl rfl ?_
  obtain ⟨σ8, hσ8, hf⟩ := g_bind hf
  refine g_putF hx hb hts hown hin hK hG hS hσ8 rfl iX4 tyX4 tyX4_ok nmX4 (by decide) flX4_23 rfl rfl rfl rfl dX4_init_26 (fun H locs hG hS => ?_)
  refine lv_aload_n hx hb dX4_init_29 rfl (lv_at hl 0 rfl) ?_
  refine lv_aload_n hx hb dX4_init_30 rfl (lv_at hl 0 rfl) ?_
  obtain ⟨v9, hv9, hf⟩ := g_bind hf
  refine g_getr hx hb hts hown hK hG hv9 rfl iX4 (by decide) flX4_23 dX4_init_31 ?_
  obtain ⟨v10, hv10, hf⟩ := g_bind hf
  refine g_getr hx hb hts hown hK hG hv10 rfl iX0 (by decide) flX4_27 dX4_init_34 ?_
  obtain ⟨σ11, hσ11, hf⟩ := g_bind hf
  refine g_putF hx hb hts hown hin hK hG hS hσ11 rfl iX4 tyX4 tyX4_ok nmX4 (by decide) flX4_31 rfl rfl rfl rfl dX4_init_37 (fun H locs hG hS => ?_)
  refine lv_aload_n hx hb dX4_init_40 rfl (lv_at hl 0 rfl) ?_
  obtain ⟨a13, ea13, hf⟩ := g_let_spec hf
  obtain ⟨σ12, eσ12, hf⟩ := g_let_spec hf
  refine g_new (fs := [.null, .int 0]) hx hb hts hown hK hG hS (ci := 3) rfl iX3 tyX3 tyX3_ok clX4_32 inX3 itX3 (fun j hj => by rcases (show j = 0 ∨ j = 1 by omega) with rfl | rfl <;> rfl) (Nat.le_of_ble_eq_true rfl) (Nat.le_of_ble_eq_true rfl) dX4_init_41 (fun H hG hS => ?_)
  rw [eσ12] at hG
  rw [ea13]
  refine W.cs (cells' := 18) (slots' := 981) rfl rfl ?_
  refine lv_dup hx hb dX4_init_44 rfl ?_
  refine lv_bipush (v := 67) hx hb dX4_init_45 (by decide +kernel) ?_
  obtain ⟨r14, hr14, hf⟩ := g_bind hf
  refine g_callI hx hb hml hl.1 hts hown hK hG hS (As := [.int 67]) (rest := [.ref a13, .ref x0]) (tX3_init l D hr14) vX3_init mlX4_34 rfl rfl ⟨Nat.le_of_ble_eq_true rfl, Nat.le_of_ble_eq_true rfl⟩ rfl rfl (Nat.le_of_ble_eq_true rfl) ⟨Nat.le_of_ble_eq_true rfl, Nat.le_of_ble_eq_true rfl⟩ dX4_init_47 (fun H locs hG hS => ?_)
  refine W.cs (cells' := 19) (slots' := 1117) rfl rfl ?_
  obtain ⟨σ15, hσ15, hf⟩ := g_bind hf
  refine g_putF hx hb hts hown hin hK hG hS hσ15 rfl iX4 tyX4 tyX4_ok nmX4 (by decide) flX4_35 rfl rfl rfl rfl dX4_init_50 (fun H locs hG hS => ?_)
  refine lv_aload_n hx hb dX4_init_53 rfl (lv_at hl 0 rfl) ?_
  obtain ⟨a17, ea17, hf⟩ := g_let_spec hf
  obtain ⟨σ16, eσ16, hf⟩ := g_let_spec hf
  refine g_new (fs := [.null, .int 0]) hx hb hts hown hK hG hS (ci := 3) rfl iX3 tyX3 tyX3_ok clX4_32 inX3 itX3 (fun j hj => by rcases (show j = 0 ∨ j = 1 by omega) with rfl | rfl <;> rfl) (Nat.le_of_ble_eq_true rfl) (Nat.le_of_ble_eq_true rfl) dX4_init_54 (fun H hG hS => ?_)
  rw [eσ16] at hG
  rw [ea17]
  refine W.cs (cells' := 20) (slots' := 1119) rfl rfl ?_
  refine lv_dup hx hb dX4_init_57 rfl ?_
  refine lv_bipush (v := 67) hx hb dX4_init_58 (by decide +kernel) ?_
  obtain ⟨r18, hr18, hf⟩ := g_bind hf
  refine g_callI hx hb hml hl.1 hts hown hK hG hS (As := [.int 67]) (rest := [.ref a17, .ref x0]) (tX3_init l D hr18) vX3_init mlX4_34 rfl rfl ⟨Nat.le_of_ble_eq_true rfl, Nat.le_of_ble_eq_true rfl⟩ rfl rfl (Nat.le_of_ble_eq_true rfl) ⟨Nat.le_of_ble_eq_true rfl, Nat.le_of_ble_eq_true rfl⟩ dX4_init_60 (fun H locs hG hS => ?_)
  refine W.cs (cells' := 21) (slots' := 1255) rfl rfl ?_
  obtain ⟨σ19, hσ19, hf⟩ := g_bind hf
  refine g_putF hx hb hts hown hin hK hG hS hσ19 rfl iX4 tyX4 tyX4_ok nmX4 (by decide) flX4_39 rfl rfl rfl rfl dX4_init_63 (fun H locs hG hS => ?_)
  refine lv_aload_n hx hb dX4_init_66 rfl (lv_at hl 0 rfl) ?_
  obtain ⟨a21, ea21, hf⟩ := g_let_spec hf
  obtain ⟨σ20, eσ20, hf⟩ := g_let_spec hf
  refine g_new (fs := [.null, .int 0]) hx hb hts hown hK hG hS (ci := 3) rfl iX3 tyX3 tyX3_ok clX4_32 inX3 itX3 (fun j hj => by rcases (show j = 0 ∨ j = 1 by omega) with rfl | rfl <;> rfl) (Nat.le_of_ble_eq_true rfl) (Nat.le_of_ble_eq_true rfl) dX4_init_67 (fun H hG hS => ?_)
  rw [eσ20] at hG
  rw [ea21]
  refine W.cs (cells' := 22) (slots' := 1257) rfl rfl ?_
  refine lv_dup hx hb dX4_init_70 rfl ?_
  refine lv_bipush (v := 67) hx hb dX4_init_71 (by decide +kernel) ?_
  obtain ⟨r22, hr22, hf⟩ := g_bind hf
  refine g_callI hx hb hml hl.1 hts hown hK hG hS (As := [.int 67]) (rest := [.ref a21, .ref x0]) (tX3_init l D hr22) vX3_init mlX4_34 rfl rfl ⟨Nat.le_of_ble_eq_true rfl, Nat.le_of_ble_eq_true rfl⟩ rfl rfl (Nat.le_of_ble_eq_true rfl) ⟨Nat.le_of_ble_eq_true rfl, Nat.le_of_ble_eq_true rfl⟩ dX4_init_73 (fun H locs hG hS => ?_)
  refine W.cs (cells' := 23) (slots' := 1393) rfl rfl ?_
  obtain ⟨σ23, hσ23, hf⟩ := g_bind hf
  refine g_putF hx hb hts hown hin hK hG hS hσ23 rfl iX4 tyX4 tyX4_ok nmX4 (by decide) flX4_42 rfl rfl rfl rfl dX4_init_76 (fun H locs hG hS => ?_)
  refine lv_aload_n hx hb dX4_init_79 rfl (lv_at hl 0 rfl) ?_
  obtain ⟨a25, ea25, hf⟩ := g_let_spec hf
  obtain ⟨σ24, eσ24, hf⟩ := g_let_spec hf
  refine g_new (fs := [.null, .int 0]) hx hb hts hown hK hG hS (ci := 3) rfl iX3 tyX3 tyX3_ok clX4_32 inX3 itX3 (fun j hj => by rcases (show j = 0 ∨ j = 1 by omega) with rfl | rfl <;> rfl) (Nat.le_of_ble_eq_true rfl) (Nat.le_of_ble_eq_true rfl) dX4_init_80 (fun H hG hS => ?_)
  rw [eσ24] at hG
  rw [ea25]
  refine W.cs (cells' := 24) (slots' := 1395) rfl rfl ?_
  refine lv_dup hx hb dX4_init_83 rfl ?_
  refine lv_sipush (v := 136) hx hb dX4_init_84 (by decide +kernel) ?_
  obtain ⟨r26, hr26, hf⟩ := g_bind hf
  refine g_callI hx hb hml hl.1 hts hown hK hG hS (As := [.int 136]) (rest := [.ref a25, .ref x0]) (tX3_init l D hr26) vX3_init mlX4_34 rfl rfl ⟨Nat.le_of_ble_eq_true rfl, Nat.le_of_ble_eq_true rfl⟩ rfl rfl (Nat.le_of_ble_eq_true rfl) ⟨Nat.le_of_ble_eq_true rfl, Nat.le_of_ble_eq_true rfl⟩ dX4_init_87 (fun H locs hG hS => ?_)
  refine W.cs (cells' := 25) (slots' := 1531) rfl rfl ?_
  obtain ⟨σ27, hσ27, hf⟩ := g_bind hf
  refine g_putF hx hb hts hown hin hK hG hS hσ27 rfl iX4 tyX4 tyX4_ok nmX4 (by decide) flX4_45 rfl rfl rfl rfl dX4_init_90 (fun H locs hG hS => ?_)
  refine lv_aload_n hx hb dX4_init_93 rfl (lv_at hl 0 rfl) ?_
  obtain ⟨a29, ea29, hf⟩ := g_let_spec hf
  obtain ⟨σ28, eσ28, hf⟩ := g_let_spec hf
  refine g_new (fs := [.null, .int 0]) hx hb hts hown hK hG hS (ci := 3) rfl iX3 tyX3 tyX3_ok clX4_32 inX3 itX3 (fun j hj => by rcases (show j = 0 ∨ j = 1 by omega) with rfl | rfl <;> rfl) (Nat.le_of_ble_eq_true rfl) (Nat.le_of_ble_eq_true rfl) dX4_init_94 (fun H hG hS => ?_)
  rw [eσ28] at hG
  rw [ea29]
  refine W.cs (cells' := 26) (slots' := 1533) rfl rfl ?_
  refine lv_dup hx hb dX4_init_97 rfl ?_
  refine lv_sipush (v := 136) hx hb dX4_init_98 (by decide +kernel) ?_
  obtain ⟨r30, hr30, hf⟩ := g_bind hf
  refine g_callI hx hb hml hl.1 hts hown hK hG hS (As := [.int 136]) (rest := [.ref a29, .ref x0]) (tX3_init l D hr30) vX3_init mlX4_34 rfl rfl ⟨Nat.le_of_ble_eq_true rfl, Nat.le_of_ble_eq_true rfl⟩ rfl rfl (Nat.le_of_ble_eq_true rfl) ⟨Nat.le_of_ble_eq_true rfl, Nat.le_of_ble_eq_true rfl⟩ dX4_init_101 (fun H locs hG hS => ?_)
  refine W.cs (cells' := 27) (slots' := 1669) rfl rfl ?_
  obtain ⟨σ31, hσ31, hf⟩ := g_bind hf
  refine g_putF hx hb hts hown hin hK hG hS hσ31 rfl iX4 tyX4 tyX4_ok nmX4 (by decide) flX4_48 rfl rfl rfl rfl dX4_init_104 (fun H locs hG hS => ?_)
  cases hf
  exact g_vret hx hb hr hlocks hG hS dX4_init_107

def rmX4_addSides : Room := { frames := 2, cells := 0, slots := 0, locals := 47 }
noncomputable def BX4_addSides_103  (σ : g_S)  : Option (g_S) := some σ
noncomputable def fX4_addSides (σ : g_S) (x0 : Nat) (x1 : Int32) (x2 : Int32) : Option (g_S) := if x1 = x2 then ((g_fr σ 4 x0 0).bind fun v25 => (g_fr σ 2 v25 0).bind fun v26 => (g_fr σ 4 x0 6).bind fun v27 => (g_fr σ 4 x0 7).bind fun v28 => (g_o σ 3 v26).bind fun o29 => (fX3_becomeSum σ v26 v27 v28).bind fun r30 => (g_fr r30 4 x0 0).bind fun v31 => (g_o r30 2 v31).bind fun o32 => (fX2_sign r30 v31 x1).bind fun r33 => BX4_addSides_103 r33) else ((g_fr σ 4 x0 6).bind fun v2 => (g_fr σ 4 x0 7).bind fun v3 => (g_o σ 3 v2).bind fun o4 => (fX3_order σ v2 v3).bind fun r5 => if r5.1 < 0 then ((g_fr r5.2 4 x0 0).bind fun v7 => (g_fr r5.2 2 v7 0).bind fun v8 => (g_fr r5.2 4 x0 7).bind fun v9 => (g_fr r5.2 4 x0 6).bind fun v10 => (g_o r5.2 3 v8).bind fun o11 => (fX3_becomeDifference r5.2 v8 v9 v10).bind fun r12 => (g_fr r12 4 x0 0).bind fun v13 => (g_o r12 2 v13).bind fun o14 => (fX2_sign r12 v13 x2).bind fun r15 => BX4_addSides_103 r15) else ((g_fr r5.2 4 x0 0).bind fun v16 => (g_fr r5.2 2 v16 0).bind fun v17 => (g_fr r5.2 4 x0 6).bind fun v18 => (g_fr r5.2 4 x0 7).bind fun v19 => (g_o r5.2 3 v17).bind fun o20 => (fX3_becomeDifference r5.2 v17 v18 v19).bind fun r21 => (g_fr r21 4 x0 0).bind fun v22 => (g_o r21 2 v22).bind fun o23 => (fX2_sign r21 v22 x1).bind fun r24 => BX4_addSides_103 r24))
set_option maxHeartbeats 4000000 in
set_option maxRecDepth 100000 in
theorem tBX4_addSides_103 {p : Program} {l : Launch} {e : Env} {s : State} {m : MethodId} {args : Array Value} {below : List Frame} {meth : Method} {c : Code} {D : g_D} {out : g_S} (C : g_C RX4 cX4_addSides 3 none True p s m args meth c) (hK : g_K D s)  : ∀ (σ : g_S)  (H : Heap) (locs : List Loc) (ls : Array Slot), g_H D σ H → va_S (g_A D) s.heap H locs → lv_has ls 3 [] → BX4_addSides_103  σ  = some out → W p l e rmX4_addSides s m args below meth c H locs 0 0 (MQ below (g_Q D out (none)) args s 0 0 (g_A D)) (F0 m 103 ls []) := by
  obtain ⟨hx, hb, hml, hown, hts, hr, hlocks, hin⟩ := id C
  intro σ  H locs ls hG hS hl hf
  unfold BX4_addSides_103 at hf
  cases hf
  exact g_vret hx hb hr hlocks hG hS dX4_addSides_103

set_option maxHeartbeats 4000000 in
set_option maxRecDepth 100000 in
theorem tX4_addSides (l : Launch) (D : g_D) {σ : g_S} {x0 : Nat} {x1 : Int32} {x2 : Int32} {out : g_S} (hf : fX4_addSides σ x0 x1 x2 = some out) : Met l yX4_addSides (Cond.code yX4_addSides cX4_addSides 3 none :: lw_g) rmX4_addSides (g_P D σ [.ref x0, .int x1, .int x2]) (g_Q D out (none)) 0 0 (g_A D) := by
  refine Met.ofW (cc := cX4_addSides) (maxL := 3) (ret := none) (by decide +kernel) rfl ?_
  intro p e s m args below meth c s₁ B hml hv
  obtain ⟨rfl, hG, hK⟩ := hv
  have hts : ∀ w ∈ lw_g, w.before _ s = true := fun w h => atoms_spec (ws := (Cond.code yX4_addSides cX4_addSides 3 none :: lw_g)) B.pre w (List.mem_cons_of_mem _ h)
  have C : g_C RX4 cX4_addSides 3 none True p s m _ meth c := ⟨B.exec, B.bytes, hml, findClass_of_methodNamed B.named, hts, B.returns, B.notSynchronized, trivial⟩
  obtain ⟨hx, hb, hml, hown, hts, hr, hlocks, hin⟩ := id C
  have hS : va_S (g_A D) s.heap s.heap [] := va_S.rf
  have hl := lv_entry ([.ref x0, .int x1, .int x2]) (n := 3) (Nat.le_of_ble_eq_true rfl)
  rw [lg_entry_eq]
  generalize (lg_sl ([.ref x0, .int x1, .int x2]) ++ List.replicate (3 - (lg_sl ([.ref x0, .int x1, .int x2])).length) Slot.unset).toArray = ls at hl ⊢
  have hl : lv_has ls 3 [(0, .ref x0), (1, .int x1), (2, .int x2)] := hl
  unfold fX4_addSides at hf
  refine lv_iload_n hx hb dX4_addSides_0 rfl (lv_at hl 1 rfl) ?_
  refine lv_iload_n hx hb dX4_addSides_1 rfl (lv_at hl 2 rfl) ?_
  refine lv_icmp_ne (tgt := 34) hx hb dX4_addSides_2 (by decide) (fun c1 => ?_) (fun c1 => ?_)
  · rw [if_neg c1] at hf
    refine lv_aload_n hx hb dX4_addSides_34 rfl (lv_at hl 0 rfl) ?_
    obtain ⟨v2, hv2, hf⟩ := g_bind hf
    refine g_getr hx hb hts hown hK hG hv2 rfl iX4 (by decide) flX4_45 dX4_addSides_35 ?_
    refine lv_aload_n hx hb dX4_addSides_38 rfl (lv_at hl 0 rfl) ?_
    obtain ⟨v3, hv3, hf⟩ := g_bind hf
    refine g_getr hx hb hts hown hK hG hv3 rfl iX4 (by decide) flX4_48 dX4_addSides_39 ?_
    obtain ⟨o4, ho4, hf⟩ := g_bind hf
    obtain ⟨r5, hr5, hf⟩ := g_bind hf
    refine g_callV hx hb hml hl.1 hts hown hK hG hS (As := [.ref v3]) (rest := []) (tX3_order l D hr5) vX3_order mlX4_108 ho4 rfl rfl rfl rfl ⟨Nat.le_of_ble_eq_true rfl, Nat.le_of_ble_eq_true rfl⟩ rfl rfl (Nat.le_of_ble_eq_true rfl) ⟨Nat.le_of_ble_eq_true rfl, Nat.le_of_ble_eq_true rfl⟩ dX4_addSides_42 (fun H locs hG hS => ?_)
    refine lv_if_lt (tgt := 77) hx hb dX4_addSides_45 (by decide) (fun c6 => ?_) (fun c6 => ?_)
    · rw [if_pos c6] at hf
      refine lv_aload_n hx hb dX4_addSides_77 rfl (lv_at hl 0 rfl) ?_
      obtain ⟨v7, hv7, hf⟩ := g_bind hf
      refine g_getr hx hb hts hown hK hG hv7 rfl iX4 (by decide) flX4_14 dX4_addSides_78 ?_
      obtain ⟨v8, hv8, hf⟩ := g_bind hf
      refine g_getr hx hb hts hown hK hG hv8 rfl iX2 (by decide) flX4_59 dX4_addSides_81 ?_
      refine lv_aload_n hx hb dX4_addSides_84 rfl (lv_at hl 0 rfl) ?_
      obtain ⟨v9, hv9, hf⟩ := g_bind hf
      refine g_getr hx hb hts hown hK hG hv9 rfl iX4 (by decide) flX4_48 dX4_addSides_85 ?_
      refine lv_aload_n hx hb dX4_addSides_88 rfl (lv_at hl 0 rfl) ?_
      obtain ⟨v10, hv10, hf⟩ := g_bind hf
      refine g_getr hx hb hts hown hK hG hv10 rfl iX4 (by decide) flX4_45 dX4_addSides_89 ?_
      obtain ⟨o11, ho11, hf⟩ := g_bind hf
      obtain ⟨r12, hr12, hf⟩ := g_bind hf
      refine g_callV hx hb hml hl.1 hts hown hK hG hS (As := [.ref v9, .ref v10]) (rest := []) (tX3_becomeDifference l D hr12) vX3_becomeDifference mlX4_146 ho11 rfl rfl rfl rfl ⟨Nat.le_of_ble_eq_true rfl, Nat.le_of_ble_eq_true rfl⟩ rfl rfl (Nat.le_of_ble_eq_true rfl) ⟨Nat.le_of_ble_eq_true rfl, Nat.le_of_ble_eq_true rfl⟩ dX4_addSides_92 (fun H locs hG hS => ?_)
      refine lv_aload_n hx hb dX4_addSides_95 rfl (lv_at hl 0 rfl) ?_
      obtain ⟨v13, hv13, hf⟩ := g_bind hf
      refine g_getr hx hb hts hown hK hG hv13 rfl iX4 (by decide) flX4_14 dX4_addSides_96 ?_
      refine lv_iload_n hx hb dX4_addSides_99 rfl (lv_at hl 2 rfl) ?_
      obtain ⟨o14, ho14, hf⟩ := g_bind hf
      obtain ⟨r15, hr15, hf⟩ := g_bind hf
      refine g_callV hx hb hml hl.1 hts hown hK hG hS (As := [.int x2]) (rest := []) (tX2_sign l D hr15) vX2_sign mlX4_96 ho14 rfl rfl rfl rfl ⟨Nat.le_of_ble_eq_true rfl, Nat.le_of_ble_eq_true rfl⟩ rfl rfl (Nat.le_of_ble_eq_true rfl) ⟨Nat.le_of_ble_eq_true rfl, Nat.le_of_ble_eq_true rfl⟩ dX4_addSides_100 (fun H locs hG hS => ?_)
      exact tBX4_addSides_103 C hK   _  _ _ _ hG hS (lv_sub hl [] rfl) hf
    · rw [if_neg c6] at hf
      refine lv_aload_n hx hb dX4_addSides_48 rfl (lv_at hl 0 rfl) ?_
      obtain ⟨v16, hv16, hf⟩ := g_bind hf
      refine g_getr hx hb hts hown hK hG hv16 rfl iX4 (by decide) flX4_14 dX4_addSides_49 ?_
      obtain ⟨v17, hv17, hf⟩ := g_bind hf
      refine g_getr hx hb hts hown hK hG hv17 rfl iX2 (by decide) flX4_59 dX4_addSides_52 ?_
      refine lv_aload_n hx hb dX4_addSides_55 rfl (lv_at hl 0 rfl) ?_
      obtain ⟨v18, hv18, hf⟩ := g_bind hf
      refine g_getr hx hb hts hown hK hG hv18 rfl iX4 (by decide) flX4_45 dX4_addSides_56 ?_
      refine lv_aload_n hx hb dX4_addSides_59 rfl (lv_at hl 0 rfl) ?_
      obtain ⟨v19, hv19, hf⟩ := g_bind hf
      refine g_getr hx hb hts hown hK hG hv19 rfl iX4 (by decide) flX4_48 dX4_addSides_60 ?_
      obtain ⟨o20, ho20, hf⟩ := g_bind hf
      obtain ⟨r21, hr21, hf⟩ := g_bind hf
      refine g_callV hx hb hml hl.1 hts hown hK hG hS (As := [.ref v18, .ref v19]) (rest := []) (tX3_becomeDifference l D hr21) vX3_becomeDifference mlX4_146 ho20 rfl rfl rfl rfl ⟨Nat.le_of_ble_eq_true rfl, Nat.le_of_ble_eq_true rfl⟩ rfl rfl (Nat.le_of_ble_eq_true rfl) ⟨Nat.le_of_ble_eq_true rfl, Nat.le_of_ble_eq_true rfl⟩ dX4_addSides_63 (fun H locs hG hS => ?_)
      refine lv_aload_n hx hb dX4_addSides_66 rfl (lv_at hl 0 rfl) ?_
      obtain ⟨v22, hv22, hf⟩ := g_bind hf
      refine g_getr hx hb hts hown hK hG hv22 rfl iX4 (by decide) flX4_14 dX4_addSides_67 ?_
      refine lv_iload_n hx hb dX4_addSides_70 rfl (lv_at hl 1 rfl) ?_
      obtain ⟨o23, ho23, hf⟩ := g_bind hf
      obtain ⟨r24, hr24, hf⟩ := g_bind hf
      refine g_callV hx hb hml hl.1 hts hown hK hG hS (As := [.int x1]) (rest := []) (tX2_sign l D hr24) vX2_sign mlX4_96 ho23 rfl rfl rfl rfl ⟨Nat.le_of_ble_eq_true rfl, Nat.le_of_ble_eq_true rfl⟩ rfl rfl (Nat.le_of_ble_eq_true rfl) ⟨Nat.le_of_ble_eq_true rfl, Nat.le_of_ble_eq_true rfl⟩ dX4_addSides_71 (fun H locs hG hS => ?_)
      refine lv_goto (tgt := 103) hx hb dX4_addSides_74 (by decide) ?_
      exact tBX4_addSides_103 C hK   _  _ _ _ hG hS (lv_sub hl [] rfl) hf
  · rw [if_pos c1] at hf
    refine lv_aload_n hx hb dX4_addSides_5 rfl (lv_at hl 0 rfl) ?_
    obtain ⟨v25, hv25, hf⟩ := g_bind hf
    refine g_getr hx hb hts hown hK hG hv25 rfl iX4 (by decide) flX4_14 dX4_addSides_6 ?_
    obtain ⟨v26, hv26, hf⟩ := g_bind hf
    refine g_getr hx hb hts hown hK hG hv26 rfl iX2 (by decide) flX4_59 dX4_addSides_9 ?_
    refine lv_aload_n hx hb dX4_addSides_12 rfl (lv_at hl 0 rfl) ?_
    obtain ⟨v27, hv27, hf⟩ := g_bind hf
    refine g_getr hx hb hts hown hK hG hv27 rfl iX4 (by decide) flX4_45 dX4_addSides_13 ?_
    refine lv_aload_n hx hb dX4_addSides_16 rfl (lv_at hl 0 rfl) ?_
    obtain ⟨v28, hv28, hf⟩ := g_bind hf
    refine g_getr hx hb hts hown hK hG hv28 rfl iX4 (by decide) flX4_48 dX4_addSides_17 ?_
    obtain ⟨o29, ho29, hf⟩ := g_bind hf
    obtain ⟨r30, hr30, hf⟩ := g_bind hf
    refine g_callV hx hb hml hl.1 hts hown hK hG hS (As := [.ref v27, .ref v28]) (rest := []) (tX3_becomeSum l D hr30) vX3_becomeSum mlX4_143 ho29 rfl rfl rfl rfl ⟨Nat.le_of_ble_eq_true rfl, Nat.le_of_ble_eq_true rfl⟩ rfl rfl (Nat.le_of_ble_eq_true rfl) ⟨Nat.le_of_ble_eq_true rfl, Nat.le_of_ble_eq_true rfl⟩ dX4_addSides_20 (fun H locs hG hS => ?_)
    refine lv_aload_n hx hb dX4_addSides_23 rfl (lv_at hl 0 rfl) ?_
    obtain ⟨v31, hv31, hf⟩ := g_bind hf
    refine g_getr hx hb hts hown hK hG hv31 rfl iX4 (by decide) flX4_14 dX4_addSides_24 ?_
    refine lv_iload_n hx hb dX4_addSides_27 rfl (lv_at hl 1 rfl) ?_
    obtain ⟨o32, ho32, hf⟩ := g_bind hf
    obtain ⟨r33, hr33, hf⟩ := g_bind hf
    refine g_callV hx hb hml hl.1 hts hown hK hG hS (As := [.int x1]) (rest := []) (tX2_sign l D hr33) vX2_sign mlX4_96 ho32 rfl rfl rfl rfl ⟨Nat.le_of_ble_eq_true rfl, Nat.le_of_ble_eq_true rfl⟩ rfl rfl (Nat.le_of_ble_eq_true rfl) ⟨Nat.le_of_ble_eq_true rfl, Nat.le_of_ble_eq_true rfl⟩ dX4_addSides_28 (fun H locs hG hS => ?_)
    refine lv_goto (tgt := 103) hx hb dX4_addSides_31 (by decide) ?_
    exact tBX4_addSides_103 C hK   _  _ _ _ hG hS (lv_sub hl [] rfl) hf

def rmX4_answer : Room := { frames := 3, cells := 0, slots := 0, locals := 62 }
noncomputable def BX4_answer_16  (σ : g_S) (y0 : Int32) : Option (Int32 × g_S) := some (y0, σ)
noncomputable def fX4_answer (σ : g_S) (x0 : Nat) : Option (Int32 × g_S) := (g_fr σ 4 x0 0).bind fun v1 => (g_o σ 2 v1).bind fun o2 => (fX2_fits σ v1).bind fun r3 => if r3.1 = 0 then (BX4_answer_16 r3.2 (-3)) else (BX4_answer_16 r3.2 0)
set_option maxHeartbeats 4000000 in
set_option maxRecDepth 100000 in
theorem tBX4_answer_16 {p : Program} {l : Launch} {e : Env} {s : State} {m : MethodId} {args : Array Value} {below : List Frame} {meth : Method} {c : Code} {D : g_D} {out : Int32 × g_S} (C : g_C RX4 cX4_answer 1 (some .int) True p s m args meth c) (hK : g_K D s)  : ∀ (σ : g_S) (y0 : Int32) (H : Heap) (locs : List Loc) (ls : Array Slot), g_H D σ H → va_S (g_A D) s.heap H locs → lv_has ls 1 [] → BX4_answer_16  σ y0 = some out → W p l e rmX4_answer s m args below meth c H locs 0 0 (MQ below (g_Q D out.2 (some (.int out.1))) args s 0 0 (g_A D)) (F0 m 16 ls [.int y0]) := by
  obtain ⟨hx, hb, hml, hown, hts, hr, hlocks, hin⟩ := id C
  intro σ y0 H locs ls hG hS hl hf
  unfold BX4_answer_16 at hf
  cases hf
  exact g_iret hx hb hr hlocks hG hS dX4_answer_16

set_option maxHeartbeats 4000000 in
set_option maxRecDepth 100000 in
theorem tX4_answer (l : Launch) (D : g_D) {σ : g_S} {x0 : Nat} {out : Int32 × g_S} (hf : fX4_answer σ x0 = some out) : Met l yX4_answer (Cond.code yX4_answer cX4_answer 1 (some .int) :: lw_g) rmX4_answer (g_P D σ [.ref x0]) (g_Q D out.2 (some (.int out.1))) 0 0 (g_A D) := by
  refine Met.ofW (cc := cX4_answer) (maxL := 1) (ret := (some .int)) (by decide +kernel) rfl ?_
  intro p e s m args below meth c s₁ B hml hv
  obtain ⟨rfl, hG, hK⟩ := hv
  have hts : ∀ w ∈ lw_g, w.before _ s = true := fun w h => atoms_spec (ws := (Cond.code yX4_answer cX4_answer 1 (some .int) :: lw_g)) B.pre w (List.mem_cons_of_mem _ h)
  have C : g_C RX4 cX4_answer 1 (some .int) True p s m _ meth c := ⟨B.exec, B.bytes, hml, findClass_of_methodNamed B.named, hts, B.returns, B.notSynchronized, trivial⟩
  obtain ⟨hx, hb, hml, hown, hts, hr, hlocks, hin⟩ := id C
  have hS : va_S (g_A D) s.heap s.heap [] := va_S.rf
  have hl := lv_entry ([.ref x0]) (n := 1) (Nat.le_of_ble_eq_true rfl)
  rw [lg_entry_eq]
  generalize (lg_sl ([.ref x0]) ++ List.replicate (1 - (lg_sl ([.ref x0])).length) Slot.unset).toArray = ls at hl ⊢
  have hl : lv_has ls 1 [(0, .ref x0)] := hl
  unfold fX4_answer at hf
  refine lv_aload_n hx hb dX4_answer_0 rfl (lv_at hl 0 rfl) ?_
  obtain ⟨v1, hv1, hf⟩ := g_bind hf
  refine g_getr hx hb hts hown hK hG hv1 rfl iX4 (by decide) flX4_14 dX4_answer_1 ?_
  obtain ⟨o2, ho2, hf⟩ := g_bind hf
  obtain ⟨r3, hr3, hf⟩ := g_bind hf
  refine g_callV hx hb hml hl.1 hts hown hK hG hS (As := []) (rest := []) (tX2_fits l D hr3) vX2_fits mlX4_132 ho2 rfl rfl rfl rfl ⟨Nat.le_of_ble_eq_true rfl, Nat.le_of_ble_eq_true rfl⟩ rfl rfl (Nat.le_of_ble_eq_true rfl) ⟨Nat.le_of_ble_eq_true rfl, Nat.le_of_ble_eq_true rfl⟩ dX4_answer_4 (fun H locs hG hS => ?_)
  refine lv_if_eq (tgt := 14) hx hb dX4_answer_7 (by decide) (fun c4 => ?_) (fun c4 => ?_)
  · rw [if_pos c4] at hf
    refine lv_bipush (v := (-3)) hx hb dX4_answer_14 (by decide +kernel) ?_
    exact tBX4_answer_16 C hK   _ _ _ _ _ hG hS (lv_sub hl [] rfl) hf
  · rw [if_neg c4] at hf
    refine lv_iconst (v := 0) hx hb dX4_answer_10 (by decide +kernel) ?_
    refine lv_goto (tgt := 16) hx hb dX4_answer_11 (by decide) ?_
    exact tBX4_answer_16 C hK   _ _ _ _ _ hG hS (lv_sub hl [] rfl) hf

def rmX4_over : Room := { frames := 3, cells := 0, slots := 0, locals := 87 }
noncomputable def fX4_over (σ : g_S) (x0 : Nat) (x1 : Nat) (x2 : Nat) : Option (Nat × g_S) := (g_fr σ 4 x0 2).bind fun v1 => (g_o σ 1 v1).bind fun o2 => (fX1_divide σ v1 x1 x2).bind fun r3 => (g_fr r3 4 x0 2).bind fun v4 => (g_fr r3 1 v4 0).bind fun v5 => some (v5, r3)
set_option maxHeartbeats 4000000 in
set_option maxRecDepth 100000 in
theorem tX4_over (l : Launch) (D : g_D) {σ : g_S} {x0 : Nat} {x1 : Nat} {x2 : Nat} {out : Nat × g_S} (hf : fX4_over σ x0 x1 x2 = some out) : Met l yX4_over (Cond.code yX4_over cX4_over 3 (some (.object "FractionDesk$Natural")) :: lw_g) rmX4_over (g_P D σ [.ref x0, .ref x1, .ref x2]) (g_Q D out.2 (some (.ref out.1))) 0 0 (g_A D) := by
  refine Met.ofW (cc := cX4_over) (maxL := 3) (ret := (some (.object "FractionDesk$Natural"))) (by decide +kernel) rfl ?_
  intro p e s m args below meth c s₁ B hml hv
  obtain ⟨rfl, hG, hK⟩ := hv
  have hts : ∀ w ∈ lw_g, w.before _ s = true := fun w h => atoms_spec (ws := (Cond.code yX4_over cX4_over 3 (some (.object "FractionDesk$Natural")) :: lw_g)) B.pre w (List.mem_cons_of_mem _ h)
  have C : g_C RX4 cX4_over 3 (some (.object "FractionDesk$Natural")) True p s m _ meth c := ⟨B.exec, B.bytes, hml, findClass_of_methodNamed B.named, hts, B.returns, B.notSynchronized, trivial⟩
  obtain ⟨hx, hb, hml, hown, hts, hr, hlocks, hin⟩ := id C
  have hS : va_S (g_A D) s.heap s.heap [] := va_S.rf
  have hl := lv_entry ([.ref x0, .ref x1, .ref x2]) (n := 3) (Nat.le_of_ble_eq_true rfl)
  rw [lg_entry_eq]
  generalize (lg_sl ([.ref x0, .ref x1, .ref x2]) ++ List.replicate (3 - (lg_sl ([.ref x0, .ref x1, .ref x2])).length) Slot.unset).toArray = ls at hl ⊢
  have hl : lv_has ls 3 [(0, .ref x0), (1, .ref x1), (2, .ref x2)] := hl
  unfold fX4_over at hf
  refine lv_aload_n hx hb dX4_over_0 rfl (lv_at hl 0 rfl) ?_
  obtain ⟨v1, hv1, hf⟩ := g_bind hf
  refine g_getr hx hb hts hown hK hG hv1 rfl iX4 (by decide) flX4_31 dX4_over_1 ?_
  refine lv_aload_n hx hb dX4_over_4 rfl (lv_at hl 1 rfl) ?_
  refine lv_aload_n hx hb dX4_over_5 rfl (lv_at hl 2 rfl) ?_
  obtain ⟨o2, ho2, hf⟩ := g_bind hf
  obtain ⟨r3, hr3, hf⟩ := g_bind hf
  refine g_callV hx hb hml hl.1 hts hown hK hG hS (As := [.ref x1, .ref x2]) (rest := []) (tX1_divide l D hr3) vX1_divide mlX4_124 ho2 rfl rfl rfl rfl ⟨Nat.le_of_ble_eq_true rfl, Nat.le_of_ble_eq_true rfl⟩ rfl rfl (Nat.le_of_ble_eq_true rfl) ⟨Nat.le_of_ble_eq_true rfl, Nat.le_of_ble_eq_true rfl⟩ dX4_over_6 (fun H locs hG hS => ?_)
  refine lv_aload_n hx hb dX4_over_9 rfl (lv_at hl 0 rfl) ?_
  obtain ⟨v4, hv4, hf⟩ := g_bind hf
  refine g_getr hx hb hts hown hK hG hv4 rfl iX4 (by decide) flX4_31 dX4_over_10 ?_
  obtain ⟨v5, hv5, hf⟩ := g_bind hf
  refine g_getr hx hb hts hown hK hG hv5 rfl iX1 (by decide) flX4_129 dX4_over_13 ?_
  cases hf
  exact g_aret hx hb hr (Or.inl ⟨_, rfl⟩) hlocks hG hS dX4_over_16

def rmX4_add : Room := { frames := 4, cells := 0, slots := 0, locals := 111 }
noncomputable def fX4_add (σ : g_S) (x0 : Nat) (x1 : Nat) (x2 : Nat) (x3 : Int32) : Option (Int32 × g_S) := (g_fr σ 4 x0 3).bind fun v1 => (g_fr σ 4 x0 1).bind fun v2 => (g_fr σ 2 x1 1).bind fun v3 => (g_fr σ 2 x2 1).bind fun v4 => (g_o σ 0 v2).bind fun o5 => (fX0_of σ v2 v3 v4).bind fun r6 => (g_o r6.2 3 v1).bind fun o7 => (fX3_become r6.2 v1 r6.1).bind fun r8 => (g_fr r8 4 x0 4).bind fun v9 => (g_fr r8 2 x1 1).bind fun v10 => (g_fr r8 4 x0 3).bind fun v11 => (g_o r8 4 x0).bind fun o12 => (fX4_over r8 x0 v10 v11).bind fun r13 => (g_o r13.2 3 v9).bind fun o14 => (fX3_become r13.2 v9 r13.1).bind fun r15 => (g_fr r15 4 x0 5).bind fun v16 => (g_fr r15 2 x2 1).bind fun v17 => (g_fr r15 4 x0 3).bind fun v18 => (g_o r15 4 x0).bind fun o19 => (fX4_over r15 x0 v17 v18).bind fun r20 => (g_o r20.2 3 v16).bind fun o21 => (fX3_become r20.2 v16 r20.1).bind fun r22 => (g_fr r22 4 x0 6).bind fun v23 => (g_fr r22 2 x1 0).bind fun v24 => (g_fr r22 4 x0 5).bind fun v25 => (g_o r22 3 v23).bind fun o26 => (fX3_becomeProduct r22 v23 v24 v25).bind fun r27 => (g_fr r27 4 x0 7).bind fun v28 => (g_fr r27 2 x2 0).bind fun v29 => (g_fr r27 4 x0 4).bind fun v30 => (g_o r27 3 v28).bind fun o31 => (fX3_becomeProduct r27 v28 v29 v30).bind fun r32 => (g_fi r32 2 x1 2).bind fun v33 => (g_o r32 4 x0).bind fun o34 => (fX4_addSides r32 x0 v33 x3).bind fun r35 => (g_fr r35 4 x0 1).bind fun v36 => (g_fr r35 4 x0 0).bind fun v37 => (g_fr r35 2 v37 0).bind fun v38 => (g_fr r35 4 x0 3).bind fun v39 => (g_o r35 0 v36).bind fun o40 => (fX0_of r35 v36 v38 v39).bind fun r41 => (g_fr r41.2 4 x0 0).bind fun v42 => (g_fr r41.2 2 v42 0).bind fun v43 => (g_fr r41.2 4 x0 0).bind fun v44 => (g_fr r41.2 2 v44 0).bind fun v45 => (g_o r41.2 4 x0).bind fun o46 => (fX4_over r41.2 x0 v45 r41.1).bind fun r47 => (g_o r47.2 3 v43).bind fun o48 => (fX3_become r47.2 v43 r47.1).bind fun r49 => (g_fr r49 4 x0 0).bind fun v50 => (g_fr r49 2 v50 1).bind fun v51 => (g_fr r49 4 x0 4).bind fun v52 => (g_fr r49 2 x2 1).bind fun v53 => (g_o r49 4 x0).bind fun o54 => (fX4_over r49 x0 v53 r41.1).bind fun r55 => (g_o r55.2 3 v51).bind fun o56 => (fX3_becomeProduct r55.2 v51 v52 r55.1).bind fun r57 => (g_o r57 4 x0).bind fun o58 => (fX4_answer r57 x0).bind fun r59 => some (r59.1, r59.2)
set_option maxHeartbeats 4000000 in
set_option maxRecDepth 100000 in
theorem tX4_add (l : Launch) (D : g_D) {σ : g_S} {x0 : Nat} {x1 : Nat} {x2 : Nat} {x3 : Int32} {out : Int32 × g_S} (hf : fX4_add σ x0 x1 x2 x3 = some out) : Met l yX4_add (Cond.code yX4_add cX4_add 5 (some .int) :: lw_g) rmX4_add (g_P D σ [.ref x0, .ref x1, .ref x2, .int x3]) (g_Q D out.2 (some (.int out.1))) 0 0 (g_A D) := by
  refine Met.ofW (cc := cX4_add) (maxL := 5) (ret := (some .int)) (by decide +kernel) rfl ?_
  intro p e s m args below meth c s₁ B hml hv
  obtain ⟨rfl, hG, hK⟩ := hv
  have hts : ∀ w ∈ lw_g, w.before _ s = true := fun w h => atoms_spec (ws := (Cond.code yX4_add cX4_add 5 (some .int) :: lw_g)) B.pre w (List.mem_cons_of_mem _ h)
  have C : g_C RX4 cX4_add 5 (some .int) True p s m _ meth c := ⟨B.exec, B.bytes, hml, findClass_of_methodNamed B.named, hts, B.returns, B.notSynchronized, trivial⟩
  obtain ⟨hx, hb, hml, hown, hts, hr, hlocks, hin⟩ := id C
  have hS : va_S (g_A D) s.heap s.heap [] := va_S.rf
  have hl := lv_entry ([.ref x0, .ref x1, .ref x2, .int x3]) (n := 5) (Nat.le_of_ble_eq_true rfl)
  rw [lg_entry_eq]
  generalize (lg_sl ([.ref x0, .ref x1, .ref x2, .int x3]) ++ List.replicate (5 - (lg_sl ([.ref x0, .ref x1, .ref x2, .int x3])).length) Slot.unset).toArray = ls at hl ⊢
  have hl : lv_has ls 5 [(0, .ref x0), (1, .ref x1), (2, .ref x2), (3, .int x3)] := hl
  unfold fX4_add at hf
  refine lv_aload_n hx hb dX4_add_0 rfl (lv_at hl 0 rfl) ?_
  obtain ⟨v1, hv1, hf⟩ := g_bind hf
  refine g_getr hx hb hts hown hK hG hv1 rfl iX4 (by decide) flX4_35 dX4_add_1 ?_
  refine lv_aload_n hx hb dX4_add_4 rfl (lv_at hl 0 rfl) ?_
  obtain ⟨v2, hv2, hf⟩ := g_bind hf
  refine g_getr hx hb hts hown hK hG hv2 rfl iX4 (by decide) flX4_23 dX4_add_5 ?_
  refine lv_aload_n hx hb dX4_add_8 rfl (lv_at hl 1 rfl) ?_
  obtain ⟨v3, hv3, hf⟩ := g_bind hf
  refine g_getr hx hb hts hown hK hG hv3 rfl iX2 (by decide) flX4_62 dX4_add_9 ?_
  refine lv_aload_n hx hb dX4_add_12 rfl (lv_at hl 2 rfl) ?_
  obtain ⟨v4, hv4, hf⟩ := g_bind hf
  refine g_getr hx hb hts hown hK hG hv4 rfl iX2 (by decide) flX4_62 dX4_add_13 ?_
  obtain ⟨o5, ho5, hf⟩ := g_bind hf
  obtain ⟨r6, hr6, hf⟩ := g_bind hf
  refine g_callV hx hb hml hl.1 hts hown hK hG hS (As := [.ref v3, .ref v4]) (rest := [.ref v1]) (tX0_of l D hr6) vX0_of mlX4_111 ho5 rfl rfl rfl rfl ⟨Nat.le_of_ble_eq_true rfl, Nat.le_of_ble_eq_true rfl⟩ rfl rfl (Nat.le_of_ble_eq_true rfl) ⟨Nat.le_of_ble_eq_true rfl, Nat.le_of_ble_eq_true rfl⟩ dX4_add_16 (fun H locs hG hS => ?_)
  obtain ⟨o7, ho7, hf⟩ := g_bind hf
  obtain ⟨r8, hr8, hf⟩ := g_bind hf
  refine g_callV hx hb hml hl.1 hts hown hK hG hS (As := [.ref r6.1]) (rest := []) (tX3_become l D hr8) vX3_become mlX4_121 ho7 rfl rfl rfl rfl ⟨Nat.le_of_ble_eq_true rfl, Nat.le_of_ble_eq_true rfl⟩ rfl rfl (Nat.le_of_ble_eq_true rfl) ⟨Nat.le_of_ble_eq_true rfl, Nat.le_of_ble_eq_true rfl⟩ dX4_add_19 (fun H locs hG hS => ?_)
  refine lv_aload_n hx hb dX4_add_22 rfl (lv_at hl 0 rfl) ?_
  obtain ⟨v9, hv9, hf⟩ := g_bind hf
  refine g_getr hx hb hts hown hK hG hv9 rfl iX4 (by decide) flX4_39 dX4_add_23 ?_
  refine lv_aload_n hx hb dX4_add_26 rfl (lv_at hl 0 rfl) ?_
  refine lv_aload_n hx hb dX4_add_27 rfl (lv_at hl 1 rfl) ?_
  obtain ⟨v10, hv10, hf⟩ := g_bind hf
  refine g_getr hx hb hts hown hK hG hv10 rfl iX2 (by decide) flX4_62 dX4_add_28 ?_
  refine lv_aload_n hx hb dX4_add_31 rfl (lv_at hl 0 rfl) ?_
  obtain ⟨v11, hv11, hf⟩ := g_bind hf
  refine g_getr hx hb hts hown hK hG hv11 rfl iX4 (by decide) flX4_35 dX4_add_32 ?_
  obtain ⟨o12, ho12, hf⟩ := g_bind hf
  obtain ⟨r13, hr13, hf⟩ := g_bind hf
  refine g_callV hx hb hml hl.1 hts hown hK hG hS (As := [.ref v10, .ref v11]) (rest := [.ref v9]) (tX4_over l D hr13) vX4_over mlX4_118 ho12 rfl rfl rfl rfl ⟨Nat.le_of_ble_eq_true rfl, Nat.le_of_ble_eq_true rfl⟩ rfl rfl (Nat.le_of_ble_eq_true rfl) ⟨Nat.le_of_ble_eq_true rfl, Nat.le_of_ble_eq_true rfl⟩ dX4_add_35 (fun H locs hG hS => ?_)
  obtain ⟨o14, ho14, hf⟩ := g_bind hf
  obtain ⟨r15, hr15, hf⟩ := g_bind hf
  refine g_callV hx hb hml hl.1 hts hown hK hG hS (As := [.ref r13.1]) (rest := []) (tX3_become l D hr15) vX3_become mlX4_121 ho14 rfl rfl rfl rfl ⟨Nat.le_of_ble_eq_true rfl, Nat.le_of_ble_eq_true rfl⟩ rfl rfl (Nat.le_of_ble_eq_true rfl) ⟨Nat.le_of_ble_eq_true rfl, Nat.le_of_ble_eq_true rfl⟩ dX4_add_38 (fun H locs hG hS => ?_)
  refine lv_aload_n hx hb dX4_add_41 rfl (lv_at hl 0 rfl) ?_
  obtain ⟨v16, hv16, hf⟩ := g_bind hf
  refine g_getr hx hb hts hown hK hG hv16 rfl iX4 (by decide) flX4_42 dX4_add_42 ?_
  refine lv_aload_n hx hb dX4_add_45 rfl (lv_at hl 0 rfl) ?_
  refine lv_aload_n hx hb dX4_add_46 rfl (lv_at hl 2 rfl) ?_
  obtain ⟨v17, hv17, hf⟩ := g_bind hf
  refine g_getr hx hb hts hown hK hG hv17 rfl iX2 (by decide) flX4_62 dX4_add_47 ?_
  refine lv_aload_n hx hb dX4_add_50 rfl (lv_at hl 0 rfl) ?_
  obtain ⟨v18, hv18, hf⟩ := g_bind hf
  refine g_getr hx hb hts hown hK hG hv18 rfl iX4 (by decide) flX4_35 dX4_add_51 ?_
  obtain ⟨o19, ho19, hf⟩ := g_bind hf
  obtain ⟨r20, hr20, hf⟩ := g_bind hf
  refine g_callV hx hb hml hl.1 hts hown hK hG hS (As := [.ref v17, .ref v18]) (rest := [.ref v16]) (tX4_over l D hr20) vX4_over mlX4_118 ho19 rfl rfl rfl rfl ⟨Nat.le_of_ble_eq_true rfl, Nat.le_of_ble_eq_true rfl⟩ rfl rfl (Nat.le_of_ble_eq_true rfl) ⟨Nat.le_of_ble_eq_true rfl, Nat.le_of_ble_eq_true rfl⟩ dX4_add_54 (fun H locs hG hS => ?_)
  obtain ⟨o21, ho21, hf⟩ := g_bind hf
  obtain ⟨r22, hr22, hf⟩ := g_bind hf
  refine g_callV hx hb hml hl.1 hts hown hK hG hS (As := [.ref r20.1]) (rest := []) (tX3_become l D hr22) vX3_become mlX4_121 ho21 rfl rfl rfl rfl ⟨Nat.le_of_ble_eq_true rfl, Nat.le_of_ble_eq_true rfl⟩ rfl rfl (Nat.le_of_ble_eq_true rfl) ⟨Nat.le_of_ble_eq_true rfl, Nat.le_of_ble_eq_true rfl⟩ dX4_add_57 (fun H locs hG hS => ?_)
  refine lv_aload_n hx hb dX4_add_60 rfl (lv_at hl 0 rfl) ?_
  obtain ⟨v23, hv23, hf⟩ := g_bind hf
  refine g_getr hx hb hts hown hK hG hv23 rfl iX4 (by decide) flX4_45 dX4_add_61 ?_
  refine lv_aload_n hx hb dX4_add_64 rfl (lv_at hl 1 rfl) ?_
  obtain ⟨v24, hv24, hf⟩ := g_bind hf
  refine g_getr hx hb hts hown hK hG hv24 rfl iX2 (by decide) flX4_59 dX4_add_65 ?_
  refine lv_aload_n hx hb dX4_add_68 rfl (lv_at hl 0 rfl) ?_
  obtain ⟨v25, hv25, hf⟩ := g_bind hf
  refine g_getr hx hb hts hown hK hG hv25 rfl iX4 (by decide) flX4_42 dX4_add_69 ?_
  obtain ⟨o26, ho26, hf⟩ := g_bind hf
  obtain ⟨r27, hr27, hf⟩ := g_bind hf
  refine g_callV hx hb hml hl.1 hts hown hK hG hS (As := [.ref v24, .ref v25]) (rest := []) (tX3_becomeProduct l D hr27) vX3_becomeProduct mlX4_104 ho26 rfl rfl rfl rfl ⟨Nat.le_of_ble_eq_true rfl, Nat.le_of_ble_eq_true rfl⟩ rfl rfl (Nat.le_of_ble_eq_true rfl) ⟨Nat.le_of_ble_eq_true rfl, Nat.le_of_ble_eq_true rfl⟩ dX4_add_72 (fun H locs hG hS => ?_)
  refine lv_aload_n hx hb dX4_add_75 rfl (lv_at hl 0 rfl) ?_
  obtain ⟨v28, hv28, hf⟩ := g_bind hf
  refine g_getr hx hb hts hown hK hG hv28 rfl iX4 (by decide) flX4_48 dX4_add_76 ?_
  refine lv_aload_n hx hb dX4_add_79 rfl (lv_at hl 2 rfl) ?_
  obtain ⟨v29, hv29, hf⟩ := g_bind hf
  refine g_getr hx hb hts hown hK hG hv29 rfl iX2 (by decide) flX4_59 dX4_add_80 ?_
  refine lv_aload_n hx hb dX4_add_83 rfl (lv_at hl 0 rfl) ?_
  obtain ⟨v30, hv30, hf⟩ := g_bind hf
  refine g_getr hx hb hts hown hK hG hv30 rfl iX4 (by decide) flX4_39 dX4_add_84 ?_
  obtain ⟨o31, ho31, hf⟩ := g_bind hf
  obtain ⟨r32, hr32, hf⟩ := g_bind hf
  refine g_callV hx hb hml hl.1 hts hown hK hG hS (As := [.ref v29, .ref v30]) (rest := []) (tX3_becomeProduct l D hr32) vX3_becomeProduct mlX4_104 ho31 rfl rfl rfl rfl ⟨Nat.le_of_ble_eq_true rfl, Nat.le_of_ble_eq_true rfl⟩ rfl rfl (Nat.le_of_ble_eq_true rfl) ⟨Nat.le_of_ble_eq_true rfl, Nat.le_of_ble_eq_true rfl⟩ dX4_add_87 (fun H locs hG hS => ?_)
  refine lv_aload_n hx hb dX4_add_90 rfl (lv_at hl 0 rfl) ?_
  refine lv_aload_n hx hb dX4_add_91 rfl (lv_at hl 1 rfl) ?_
  obtain ⟨v33, hv33, hf⟩ := g_bind hf
  refine g_geti hx hb hts hown hK hG hv33 rfl iX2 (by decide) flX4_51 dX4_add_92 ?_
  refine lv_iload_n hx hb dX4_add_95 rfl (lv_at hl 3 rfl) ?_
  obtain ⟨o34, ho34, hf⟩ := g_bind hf
  obtain ⟨r35, hr35, hf⟩ := g_bind hf
  refine g_callV hx hb hml hl.1 hts hown hK hG hS (As := [.int v33, .int x3]) (rest := []) (tX4_addSides l D hr35) vX4_addSides mlX4_135 ho34 rfl rfl rfl rfl ⟨Nat.le_of_ble_eq_true rfl, Nat.le_of_ble_eq_true rfl⟩ rfl rfl (Nat.le_of_ble_eq_true rfl) ⟨Nat.le_of_ble_eq_true rfl, Nat.le_of_ble_eq_true rfl⟩ dX4_add_96 (fun H locs hG hS => ?_)
  refine lv_aload_n hx hb dX4_add_99 rfl (lv_at hl 0 rfl) ?_
  obtain ⟨v36, hv36, hf⟩ := g_bind hf
  refine g_getr hx hb hts hown hK hG hv36 rfl iX4 (by decide) flX4_23 dX4_add_100 ?_
  refine lv_aload_n hx hb dX4_add_103 rfl (lv_at hl 0 rfl) ?_
  obtain ⟨v37, hv37, hf⟩ := g_bind hf
  refine g_getr hx hb hts hown hK hG hv37 rfl iX4 (by decide) flX4_14 dX4_add_104 ?_
  obtain ⟨v38, hv38, hf⟩ := g_bind hf
  refine g_getr hx hb hts hown hK hG hv38 rfl iX2 (by decide) flX4_59 dX4_add_107 ?_
  refine lv_aload_n hx hb dX4_add_110 rfl (lv_at hl 0 rfl) ?_
  obtain ⟨v39, hv39, hf⟩ := g_bind hf
  refine g_getr hx hb hts hown hK hG hv39 rfl iX4 (by decide) flX4_35 dX4_add_111 ?_
  obtain ⟨o40, ho40, hf⟩ := g_bind hf
  obtain ⟨r41, hr41, hf⟩ := g_bind hf
  refine g_callV hx hb hml hl.1 hts hown hK hG hS (As := [.ref v38, .ref v39]) (rest := []) (tX0_of l D hr41) vX0_of mlX4_111 ho40 rfl rfl rfl rfl ⟨Nat.le_of_ble_eq_true rfl, Nat.le_of_ble_eq_true rfl⟩ rfl rfl (Nat.le_of_ble_eq_true rfl) ⟨Nat.le_of_ble_eq_true rfl, Nat.le_of_ble_eq_true rfl⟩ dX4_add_114 (fun H locs hG hS => ?_)
  refine lv_astore (lv' := [(4, .ref r41.1), (0, .ref x0), (1, .ref x1), (2, .ref x2), (3, .int x3)]) hx hb dX4_add_117 hl (by decide) rfl (fun ls hl => ?_)
  refine lv_aload_n hx hb dX4_add_119 rfl (lv_at hl 1 rfl) ?_
  obtain ⟨v42, hv42, hf⟩ := g_bind hf
  refine g_getr hx hb hts hown hK hG hv42 rfl iX4 (by decide) flX4_14 dX4_add_120 ?_
  obtain ⟨v43, hv43, hf⟩ := g_bind hf
  refine g_getr hx hb hts hown hK hG hv43 rfl iX2 (by decide) flX4_59 dX4_add_123 ?_
  refine lv_aload_n hx hb dX4_add_126 rfl (lv_at hl 1 rfl) ?_
  refine lv_aload_n hx hb dX4_add_127 rfl (lv_at hl 1 rfl) ?_
  obtain ⟨v44, hv44, hf⟩ := g_bind hf
  refine g_getr hx hb hts hown hK hG hv44 rfl iX4 (by decide) flX4_14 dX4_add_128 ?_
  obtain ⟨v45, hv45, hf⟩ := g_bind hf
  refine g_getr hx hb hts hown hK hG hv45 rfl iX2 (by decide) flX4_59 dX4_add_131 ?_
  refine lv_aload hx hb dX4_add_134 (lv_at hl 0 rfl) ?_
  obtain ⟨o46, ho46, hf⟩ := g_bind hf
  obtain ⟨r47, hr47, hf⟩ := g_bind hf
  refine g_callV hx hb hml hl.1 hts hown hK hG hS (As := [.ref v45, .ref r41.1]) (rest := [.ref v43]) (tX4_over l D hr47) vX4_over mlX4_118 ho46 rfl rfl rfl rfl ⟨Nat.le_of_ble_eq_true rfl, Nat.le_of_ble_eq_true rfl⟩ rfl rfl (Nat.le_of_ble_eq_true rfl) ⟨Nat.le_of_ble_eq_true rfl, Nat.le_of_ble_eq_true rfl⟩ dX4_add_136 (fun H locs hG hS => ?_)
  obtain ⟨o48, ho48, hf⟩ := g_bind hf
  obtain ⟨r49, hr49, hf⟩ := g_bind hf
  refine g_callV hx hb hml hl.1 hts hown hK hG hS (As := [.ref r47.1]) (rest := []) (tX3_become l D hr49) vX3_become mlX4_121 ho48 rfl rfl rfl rfl ⟨Nat.le_of_ble_eq_true rfl, Nat.le_of_ble_eq_true rfl⟩ rfl rfl (Nat.le_of_ble_eq_true rfl) ⟨Nat.le_of_ble_eq_true rfl, Nat.le_of_ble_eq_true rfl⟩ dX4_add_139 (fun H locs hG hS => ?_)
  refine lv_aload_n hx hb dX4_add_142 rfl (lv_at hl 1 rfl) ?_
  obtain ⟨v50, hv50, hf⟩ := g_bind hf
  refine g_getr hx hb hts hown hK hG hv50 rfl iX4 (by decide) flX4_14 dX4_add_143 ?_
  obtain ⟨v51, hv51, hf⟩ := g_bind hf
  refine g_getr hx hb hts hown hK hG hv51 rfl iX2 (by decide) flX4_62 dX4_add_146 ?_
  refine lv_aload_n hx hb dX4_add_149 rfl (lv_at hl 1 rfl) ?_
  obtain ⟨v52, hv52, hf⟩ := g_bind hf
  refine g_getr hx hb hts hown hK hG hv52 rfl iX4 (by decide) flX4_39 dX4_add_150 ?_
  refine lv_aload_n hx hb dX4_add_153 rfl (lv_at hl 1 rfl) ?_
  refine lv_aload_n hx hb dX4_add_154 rfl (lv_at hl 3 rfl) ?_
  obtain ⟨v53, hv53, hf⟩ := g_bind hf
  refine g_getr hx hb hts hown hK hG hv53 rfl iX2 (by decide) flX4_62 dX4_add_155 ?_
  refine lv_aload hx hb dX4_add_158 (lv_at hl 0 rfl) ?_
  obtain ⟨o54, ho54, hf⟩ := g_bind hf
  obtain ⟨r55, hr55, hf⟩ := g_bind hf
  refine g_callV hx hb hml hl.1 hts hown hK hG hS (As := [.ref v53, .ref r41.1]) (rest := [.ref v52, .ref v51]) (tX4_over l D hr55) vX4_over mlX4_118 ho54 rfl rfl rfl rfl ⟨Nat.le_of_ble_eq_true rfl, Nat.le_of_ble_eq_true rfl⟩ rfl rfl (Nat.le_of_ble_eq_true rfl) ⟨Nat.le_of_ble_eq_true rfl, Nat.le_of_ble_eq_true rfl⟩ dX4_add_160 (fun H locs hG hS => ?_)
  obtain ⟨o56, ho56, hf⟩ := g_bind hf
  obtain ⟨r57, hr57, hf⟩ := g_bind hf
  refine g_callV hx hb hml hl.1 hts hown hK hG hS (As := [.ref v52, .ref r55.1]) (rest := []) (tX3_becomeProduct l D hr57) vX3_becomeProduct mlX4_104 ho56 rfl rfl rfl rfl ⟨Nat.le_of_ble_eq_true rfl, Nat.le_of_ble_eq_true rfl⟩ rfl rfl (Nat.le_of_ble_eq_true rfl) ⟨Nat.le_of_ble_eq_true rfl, Nat.le_of_ble_eq_true rfl⟩ dX4_add_163 (fun H locs hG hS => ?_)
  refine lv_aload_n hx hb dX4_add_166 rfl (lv_at hl 1 rfl) ?_
  obtain ⟨o58, ho58, hf⟩ := g_bind hf
  obtain ⟨r59, hr59, hf⟩ := g_bind hf
  refine g_callV hx hb hml hl.1 hts hown hK hG hS (As := []) (rest := []) (tX4_answer l D hr59) vX4_answer mlX4_139 ho58 rfl rfl rfl rfl ⟨Nat.le_of_ble_eq_true rfl, Nat.le_of_ble_eq_true rfl⟩ rfl rfl (Nat.le_of_ble_eq_true rfl) ⟨Nat.le_of_ble_eq_true rfl, Nat.le_of_ble_eq_true rfl⟩ dX4_add_167 (fun H locs hG hS => ?_)
  cases hf
  exact g_iret hx hb hr hlocks hG hS dX4_add_170

def rmX4_choose : Room := { frames := 3, cells := 0, slots := 0, locals := 82 }
noncomputable def fX4_choose (σ : g_S) (x0 : Nat) (x1 : Nat) : Option (Int32 × g_S) := (g_fr σ 4 x0 0).bind fun v1 => (g_o σ 2 v1).bind fun o2 => (fX2_become σ v1 x1).bind fun r3 => some (0, r3)
set_option maxHeartbeats 4000000 in
set_option maxRecDepth 100000 in
theorem tX4_choose (l : Launch) (D : g_D) {σ : g_S} {x0 : Nat} {x1 : Nat} {out : Int32 × g_S} (hf : fX4_choose σ x0 x1 = some out) : Met l yX4_choose (Cond.code yX4_choose cX4_choose 2 (some .int) :: lw_g) rmX4_choose (g_P D σ [.ref x0, .ref x1]) (g_Q D out.2 (some (.int out.1))) 0 0 (g_A D) := by
  refine Met.ofW (cc := cX4_choose) (maxL := 2) (ret := (some .int)) (by decide +kernel) rfl ?_
  intro p e s m args below meth c s₁ B hml hv
  obtain ⟨rfl, hG, hK⟩ := hv
  have hts : ∀ w ∈ lw_g, w.before _ s = true := fun w h => atoms_spec (ws := (Cond.code yX4_choose cX4_choose 2 (some .int) :: lw_g)) B.pre w (List.mem_cons_of_mem _ h)
  have C : g_C RX4 cX4_choose 2 (some .int) True p s m _ meth c := ⟨B.exec, B.bytes, hml, findClass_of_methodNamed B.named, hts, B.returns, B.notSynchronized, trivial⟩
  obtain ⟨hx, hb, hml, hown, hts, hr, hlocks, hin⟩ := id C
  have hS : va_S (g_A D) s.heap s.heap [] := va_S.rf
  have hl := lv_entry ([.ref x0, .ref x1]) (n := 2) (Nat.le_of_ble_eq_true rfl)
  rw [lg_entry_eq]
  generalize (lg_sl ([.ref x0, .ref x1]) ++ List.replicate (2 - (lg_sl ([.ref x0, .ref x1])).length) Slot.unset).toArray = ls at hl ⊢
  have hl : lv_has ls 2 [(0, .ref x0), (1, .ref x1)] := hl
  unfold fX4_choose at hf
  refine lv_aload_n hx hb dX4_choose_0 rfl (lv_at hl 0 rfl) ?_
  obtain ⟨v1, hv1, hf⟩ := g_bind hf
  refine g_getr hx hb hts hown hK hG hv1 rfl iX4 (by decide) flX4_14 dX4_choose_1 ?_
  refine lv_aload_n hx hb dX4_choose_4 rfl (lv_at hl 1 rfl) ?_
  obtain ⟨o2, ho2, hf⟩ := g_bind hf
  obtain ⟨r3, hr3, hf⟩ := g_bind hf
  refine g_callV hx hb hml hl.1 hts hown hK hG hS (As := [.ref x1]) (rest := []) (tX2_become l D hr3) vX2_become mlX4_92 ho2 rfl rfl rfl rfl ⟨Nat.le_of_ble_eq_true rfl, Nat.le_of_ble_eq_true rfl⟩ rfl rfl (Nat.le_of_ble_eq_true rfl) ⟨Nat.le_of_ble_eq_true rfl, Nat.le_of_ble_eq_true rfl⟩ dX4_choose_5 (fun H locs hG hS => ?_)
  refine lv_iconst (v := 0) hx hb dX4_choose_8 (by decide +kernel) ?_
  cases hf
  exact g_iret hx hb hr hlocks hG hS dX4_choose_9

def rmX4_becomeQuotient : Room := { frames := 3, cells := 0, slots := 0, locals := 83 }
noncomputable def BX4_becomeQuotient_16  (σ : g_S) (x0 : Nat) (x2 : Int32) : Option (g_S) := (g_fr σ 4 x0 0).bind fun v2 => (g_fr σ 4 x0 2).bind fun v3 => (g_fr σ 1 v3 0).bind fun v4 => (g_o σ 2 v2).bind fun o5 => (fX2_becomeWhole_ σ v2 v4 x2).bind fun r6 => some r6
noncomputable def fX4_becomeQuotient (σ : g_S) (x0 : Nat) (x1 : Int32) (x2 : Int32) : Option (g_S) := if x1 = 0 then (BX4_becomeQuotient_16 σ x0 x2) else ((g_fr σ 4 x0 2).bind fun v7 => (g_fr σ 1 v7 0).bind fun v8 => (g_o σ 3 v8).bind fun o9 => (fX3_multiplyAndAdd σ v8 1 1).bind fun r10 => BX4_becomeQuotient_16 r10 x0 x2)
set_option maxHeartbeats 4000000 in
set_option maxRecDepth 100000 in
theorem tBX4_becomeQuotient_16 {p : Program} {l : Launch} {e : Env} {s : State} {m : MethodId} {args : Array Value} {below : List Frame} {meth : Method} {c : Code} {D : g_D} {out : g_S} (C : g_C RX4 cX4_becomeQuotient 3 none True p s m args meth c) (hK : g_K D s)  : ∀ (σ : g_S) (x0 : Nat) (x2 : Int32) (H : Heap) (locs : List Loc) (ls : Array Slot), g_H D σ H → va_S (g_A D) s.heap H locs → lv_has ls 3 [(0, .ref x0), (2, .int x2)] → BX4_becomeQuotient_16  σ x0 x2 = some out → W p l e rmX4_becomeQuotient s m args below meth c H locs 0 0 (MQ below (g_Q D out (none)) args s 0 0 (g_A D)) (F0 m 16 ls []) := by
  obtain ⟨hx, hb, hml, hown, hts, hr, hlocks, hin⟩ := id C
  intro σ x0 x2 H locs ls hG hS hl hf
  unfold BX4_becomeQuotient_16 at hf
  refine lv_aload_n hx hb dX4_becomeQuotient_16 rfl (lv_at hl 0 rfl) ?_
  obtain ⟨v2, hv2, hf⟩ := g_bind hf
  refine g_getr hx hb hts hown hK hG hv2 rfl iX4 (by decide) flX4_14 dX4_becomeQuotient_17 ?_
  refine lv_aload_n hx hb dX4_becomeQuotient_20 rfl (lv_at hl 0 rfl) ?_
  obtain ⟨v3, hv3, hf⟩ := g_bind hf
  refine g_getr hx hb hts hown hK hG hv3 rfl iX4 (by decide) flX4_31 dX4_becomeQuotient_21 ?_
  obtain ⟨v4, hv4, hf⟩ := g_bind hf
  refine g_getr hx hb hts hown hK hG hv4 rfl iX1 (by decide) flX4_129 dX4_becomeQuotient_24 ?_
  refine lv_iload_n hx hb dX4_becomeQuotient_27 rfl (lv_at hl 1 rfl) ?_
  obtain ⟨o5, ho5, hf⟩ := g_bind hf
  obtain ⟨r6, hr6, hf⟩ := g_bind hf
  refine g_callV hx hb hml hl.1 hts hown hK hG hS (As := [.ref v4, .int x2]) (rest := []) (tX2_becomeWhole_ l D hr6) vX2_becomeWhole_ mlX4_88 ho5 rfl rfl rfl rfl ⟨Nat.le_of_ble_eq_true rfl, Nat.le_of_ble_eq_true rfl⟩ rfl rfl (Nat.le_of_ble_eq_true rfl) ⟨Nat.le_of_ble_eq_true rfl, Nat.le_of_ble_eq_true rfl⟩ dX4_becomeQuotient_28 (fun H locs hG hS => ?_)
  cases hf
  exact g_vret hx hb hr hlocks hG hS dX4_becomeQuotient_31

set_option maxHeartbeats 4000000 in
set_option maxRecDepth 100000 in
theorem tX4_becomeQuotient (l : Launch) (D : g_D) {σ : g_S} {x0 : Nat} {x1 : Int32} {x2 : Int32} {out : g_S} (hf : fX4_becomeQuotient σ x0 x1 x2 = some out) : Met l yX4_becomeQuotient (Cond.code yX4_becomeQuotient cX4_becomeQuotient 3 none :: lw_g) rmX4_becomeQuotient (g_P D σ [.ref x0, .int x1, .int x2]) (g_Q D out (none)) 0 0 (g_A D) := by
  refine Met.ofW (cc := cX4_becomeQuotient) (maxL := 3) (ret := none) (by decide +kernel) rfl ?_
  intro p e s m args below meth c s₁ B hml hv
  obtain ⟨rfl, hG, hK⟩ := hv
  have hts : ∀ w ∈ lw_g, w.before _ s = true := fun w h => atoms_spec (ws := (Cond.code yX4_becomeQuotient cX4_becomeQuotient 3 none :: lw_g)) B.pre w (List.mem_cons_of_mem _ h)
  have C : g_C RX4 cX4_becomeQuotient 3 none True p s m _ meth c := ⟨B.exec, B.bytes, hml, findClass_of_methodNamed B.named, hts, B.returns, B.notSynchronized, trivial⟩
  obtain ⟨hx, hb, hml, hown, hts, hr, hlocks, hin⟩ := id C
  have hS : va_S (g_A D) s.heap s.heap [] := va_S.rf
  have hl := lv_entry ([.ref x0, .int x1, .int x2]) (n := 3) (Nat.le_of_ble_eq_true rfl)
  rw [lg_entry_eq]
  generalize (lg_sl ([.ref x0, .int x1, .int x2]) ++ List.replicate (3 - (lg_sl ([.ref x0, .int x1, .int x2])).length) Slot.unset).toArray = ls at hl ⊢
  have hl : lv_has ls 3 [(0, .ref x0), (1, .int x1), (2, .int x2)] := hl
  unfold fX4_becomeQuotient at hf
  refine lv_iload_n hx hb dX4_becomeQuotient_0 rfl (lv_at hl 1 rfl) ?_
  refine lv_if_eq (tgt := 16) hx hb dX4_becomeQuotient_1 (by decide) (fun c1 => ?_) (fun c1 => ?_)
  · rw [if_pos c1] at hf
    exact tBX4_becomeQuotient_16 C hK   _ _ _ _ _ _ hG hS (lv_sub hl [0, 2] rfl) hf
  · rw [if_neg c1] at hf
    refine lv_aload_n hx hb dX4_becomeQuotient_4 rfl (lv_at hl 0 rfl) ?_
    obtain ⟨v7, hv7, hf⟩ := g_bind hf
    refine g_getr hx hb hts hown hK hG hv7 rfl iX4 (by decide) flX4_31 dX4_becomeQuotient_5 ?_
    obtain ⟨v8, hv8, hf⟩ := g_bind hf
    refine g_getr hx hb hts hown hK hG hv8 rfl iX1 (by decide) flX4_129 dX4_becomeQuotient_8 ?_
    refine lv_iconst (v := 1) hx hb dX4_becomeQuotient_11 (by decide +kernel) ?_
    refine lv_iconst (v := 1) hx hb dX4_becomeQuotient_12 (by decide +kernel) ?_
    obtain ⟨o9, ho9, hf⟩ := g_bind hf
    obtain ⟨r10, hr10, hf⟩ := g_bind hf
    refine g_callV hx hb hml hl.1 hts hown hK hG hS (As := [.int 1, .int 1]) (rest := []) (tX3_multiplyAndAdd l D hr10) vX3_multiplyAndAdd mlX4_158 ho9 rfl rfl rfl rfl ⟨Nat.le_of_ble_eq_true rfl, Nat.le_of_ble_eq_true rfl⟩ rfl rfl (Nat.le_of_ble_eq_true rfl) ⟨Nat.le_of_ble_eq_true rfl, Nat.le_of_ble_eq_true rfl⟩ dX4_becomeQuotient_13 (fun H locs hG hS => ?_)
    exact tBX4_becomeQuotient_16 C hK   _ _ _ _ _ _ hG hS (lv_sub hl [0, 2] rfl) hf

def rmX4_combineWhole : Room := { frames := 4, cells := 0, slots := 0, locals := 111 }
noncomputable def BX4_combineWhole_14  (σ : g_S)  : Option (Int32 × g_S) := some ((-1), σ)
noncomputable def BX4_combineWhole_195  (σ : g_S)  : Option (Int32 × g_S) := some (0, σ)
noncomputable def BX4_combineWhole_130  (σ : g_S) (y0 : Nat) (y1 : Int32) (y2 : Int32) : Option (Int32 × g_S) := (g_o σ 4 y0).bind fun o42 => (fX4_becomeQuotient σ y0 y1 y2).bind fun r43 => BX4_combineWhole_195 r43
noncomputable def BX4_combineWhole_104  (σ : g_S) (x0 : Nat) (x1 : Nat) (x2 : Nat) (x3 : Int32) (y0 : Int32) : Option (Int32 × g_S) := if x3 = 4 then ((g_fi σ 2 x1 2).bind fun v39 => (g_fi σ 2 x2 2).bind fun v40 => if v39 = v40 then (BX4_combineWhole_130 σ x0 y0 0) else (BX4_combineWhole_130 σ x0 y0 1)) else (if y0 = 0 then ((g_fr σ 4 x0 0).bind fun v22 => (g_fr σ 4 x0 2).bind fun v23 => (g_fr σ 1 v23 1).bind fun v24 => (g_fi σ 2 x2 2).bind fun v25 => (g_o σ 2 v22).bind fun o26 => (fX2_becomeWhole_ σ v22 v24 v25).bind fun r27 => BX4_combineWhole_195 r27) else ((g_fr σ 4 x0 6).bind fun v28 => (g_fr σ 2 x2 0).bind fun v29 => (g_fr σ 4 x0 2).bind fun v30 => (g_fr σ 1 v30 1).bind fun v31 => (g_o σ 3 v28).bind fun o32 => (fX3_becomeDifference σ v28 v29 v31).bind fun r33 => (g_fr r33 4 x0 0).bind fun v34 => (g_fr r33 4 x0 6).bind fun v35 => (g_fi r33 2 x2 2).bind fun v36 => (g_o r33 2 v34).bind fun o37 => (fX2_becomeWhole_ r33 v34 v35 v36).bind fun r38 => BX4_combineWhole_195 r38))
noncomputable def BX4_combineWhole_103  (σ : g_S) (x0 : Nat) (x1 : Nat) (x2 : Nat) (x3 : Int32) : Option (Int32 × g_S) := BX4_combineWhole_104 σ x0 x1 x2 x3 0
noncomputable def fX4_combineWhole (σ : g_S) (x0 : Nat) (x1 : Nat) (x2 : Nat) (x3 : Int32) : Option (Int32 × g_S) := (g_o σ 2 x1).bind fun o1 => (fX2_isWhole σ x1).bind fun r2 => if r2.1 = 0 then (BX4_combineWhole_14 r2.2) else ((g_o r2.2 2 x2).bind fun o4 => (fX2_isWhole r2.2 x2).bind fun r5 => if r5.1 = 0 then (BX4_combineWhole_14 r5.2) else (if x3 = 6 then ((g_fr r5.2 4 x0 0).bind fun v49 => (g_fr r5.2 4 x0 1).bind fun v50 => (g_fr r5.2 2 x1 0).bind fun v51 => (g_fr r5.2 2 x2 0).bind fun v52 => (g_o r5.2 0 v50).bind fun o53 => (fX0_of r5.2 v50 v51 v52).bind fun r54 => (g_o r54.2 2 v49).bind fun o55 => (fX2_becomeWhole_ r54.2 v49 r54.1 0).bind fun r56 => some (0, r56)) else ((g_fr r5.2 2 x2 0).bind fun v8 => (g_o r5.2 3 v8).bind fun o9 => (fX3_isZero r5.2 v8).bind fun r10 => if r10.1 = 0 then ((g_fr r10.2 4 x0 2).bind fun v12 => (g_fr r10.2 2 x1 0).bind fun v13 => (g_fr r10.2 2 x2 0).bind fun v14 => (g_o r10.2 1 v12).bind fun o15 => (fX1_divide r10.2 v12 v13 v14).bind fun r16 => (g_fi r16 2 x1 2).bind fun v17 => (g_fi r16 2 x2 2).bind fun v18 => if v17 = v18 then (BX4_combineWhole_103 r16 x0 x1 x2 x3) else ((g_fr r16 4 x0 2).bind fun v44 => (g_fr r16 1 v44 1).bind fun v45 => (g_o r16 3 v45).bind fun o46 => (fX3_isZero r16 v45).bind fun r47 => if r47.1 = 0 then (BX4_combineWhole_104 r47.2 x0 x1 x2 x3 1) else (BX4_combineWhole_103 r47.2 x0 x1 x2 x3))) else (some ((-2), r10.2)))))
set_option maxHeartbeats 4000000 in
set_option maxRecDepth 100000 in
theorem tBX4_combineWhole_14 {p : Program} {l : Launch} {e : Env} {s : State} {m : MethodId} {args : Array Value} {below : List Frame} {meth : Method} {c : Code} {D : g_D} {out : Int32 × g_S} (C : g_C RX4 cX4_combineWhole 5 (some .int) True p s m args meth c) (hK : g_K D s)  : ∀ (σ : g_S)  (H : Heap) (locs : List Loc) (ls : Array Slot), g_H D σ H → va_S (g_A D) s.heap H locs → lv_has ls 5 [] → BX4_combineWhole_14  σ  = some out → W p l e rmX4_combineWhole s m args below meth c H locs 0 0 (MQ below (g_Q D out.2 (some (.int out.1))) args s 0 0 (g_A D)) (F0 m 14 ls []) := by
  obtain ⟨hx, hb, hml, hown, hts, hr, hlocks, hin⟩ := id C
  intro σ  H locs ls hG hS hl hf
  unfold BX4_combineWhole_14 at hf
  refine lv_iconst (v := (-1)) hx hb dX4_combineWhole_14 (by decide +kernel) ?_
  cases hf
  exact g_iret hx hb hr hlocks hG hS dX4_combineWhole_15

set_option maxHeartbeats 4000000 in
set_option maxRecDepth 100000 in
theorem tBX4_combineWhole_195 {p : Program} {l : Launch} {e : Env} {s : State} {m : MethodId} {args : Array Value} {below : List Frame} {meth : Method} {c : Code} {D : g_D} {out : Int32 × g_S} (C : g_C RX4 cX4_combineWhole 5 (some .int) True p s m args meth c) (hK : g_K D s)  : ∀ (σ : g_S)  (H : Heap) (locs : List Loc) (ls : Array Slot), g_H D σ H → va_S (g_A D) s.heap H locs → lv_has ls 5 [] → BX4_combineWhole_195  σ  = some out → W p l e rmX4_combineWhole s m args below meth c H locs 0 0 (MQ below (g_Q D out.2 (some (.int out.1))) args s 0 0 (g_A D)) (F0 m 195 ls []) := by
  obtain ⟨hx, hb, hml, hown, hts, hr, hlocks, hin⟩ := id C
  intro σ  H locs ls hG hS hl hf
  unfold BX4_combineWhole_195 at hf
  refine lv_iconst (v := 0) hx hb dX4_combineWhole_195 (by decide +kernel) ?_
  cases hf
  exact g_iret hx hb hr hlocks hG hS dX4_combineWhole_196

set_option maxHeartbeats 4000000 in
set_option maxRecDepth 100000 in
theorem tBX4_combineWhole_130 {p : Program} {l : Launch} {e : Env} {s : State} {m : MethodId} {args : Array Value} {below : List Frame} {meth : Method} {c : Code} {D : g_D} {out : Int32 × g_S} (C : g_C RX4 cX4_combineWhole 5 (some .int) True p s m args meth c) (hK : g_K D s)  : ∀ (σ : g_S) (y0 : Nat) (y1 : Int32) (y2 : Int32) (H : Heap) (locs : List Loc) (ls : Array Slot), g_H D σ H → va_S (g_A D) s.heap H locs → lv_has ls 5 [] → BX4_combineWhole_130  σ y0 y1 y2 = some out → W p l e rmX4_combineWhole s m args below meth c H locs 0 0 (MQ below (g_Q D out.2 (some (.int out.1))) args s 0 0 (g_A D)) (F0 m 130 ls [.int y2, .int y1, .ref y0]) := by
  obtain ⟨hx, hb, hml, hown, hts, hr, hlocks, hin⟩ := id C
  intro σ y0 y1 y2 H locs ls hG hS hl hf
  unfold BX4_combineWhole_130 at hf
  obtain ⟨o42, ho42, hf⟩ := g_bind hf
  obtain ⟨r43, hr43, hf⟩ := g_bind hf
  refine g_callV hx hb hml hl.1 hts hown hK hG hS (As := [.int y1, .int y2]) (rest := []) (tX4_becomeQuotient l D hr43) vX4_becomeQuotient mlX4_155 ho42 rfl rfl rfl rfl ⟨Nat.le_of_ble_eq_true rfl, Nat.le_of_ble_eq_true rfl⟩ rfl rfl (Nat.le_of_ble_eq_true rfl) ⟨Nat.le_of_ble_eq_true rfl, Nat.le_of_ble_eq_true rfl⟩ dX4_combineWhole_130 (fun H locs hG hS => ?_)
  refine lv_goto (tgt := 195) hx hb dX4_combineWhole_133 (by decide) ?_
  exact tBX4_combineWhole_195 C hK   _  _ _ _ hG hS (lv_sub hl [] rfl) hf

set_option maxHeartbeats 4000000 in
set_option maxRecDepth 100000 in
theorem tBX4_combineWhole_104 {p : Program} {l : Launch} {e : Env} {s : State} {m : MethodId} {args : Array Value} {below : List Frame} {meth : Method} {c : Code} {D : g_D} {out : Int32 × g_S} (C : g_C RX4 cX4_combineWhole 5 (some .int) True p s m args meth c) (hK : g_K D s)  : ∀ (σ : g_S) (x0 : Nat) (x1 : Nat) (x2 : Nat) (x3 : Int32) (y0 : Int32) (H : Heap) (locs : List Loc) (ls : Array Slot), g_H D σ H → va_S (g_A D) s.heap H locs → lv_has ls 5 [(0, .ref x0), (1, .ref x1), (2, .ref x2), (3, .int x3)] → BX4_combineWhole_104  σ x0 x1 x2 x3 y0 = some out → W p l e rmX4_combineWhole s m args below meth c H locs 0 0 (MQ below (g_Q D out.2 (some (.int out.1))) args s 0 0 (g_A D)) (F0 m 104 ls [.int y0]) := by
  obtain ⟨hx, hb, hml, hown, hts, hr, hlocks, hin⟩ := id C
  intro σ x0 x1 x2 x3 y0 H locs ls hG hS hl hf
  unfold BX4_combineWhole_104 at hf
  refine lv_istore (lv' := [(4, .int y0), (0, .ref x0), (1, .ref x1), (2, .ref x2), (3, .int x3)]) hx hb dX4_combineWhole_104 hl (by decide) rfl (fun ls hl => ?_)
  refine lv_iload_n hx hb dX4_combineWhole_106 rfl (lv_at hl 4 rfl) ?_
  refine lv_iconst (v := 4) hx hb dX4_combineWhole_107 (by decide +kernel) ?_
  refine lv_icmp_ne (tgt := 136) hx hb dX4_combineWhole_108 (by decide) (fun c20 => ?_) (fun c20 => ?_)
  · rw [if_neg c20] at hf
    refine lv_iload hx hb dX4_combineWhole_136 (lv_at hl 0 rfl) ?_
    refine lv_if_eq (tgt := 177) hx hb dX4_combineWhole_138 (by decide) (fun c21 => ?_) (fun c21 => ?_)
    · rw [if_pos c21] at hf
      refine lv_aload_n hx hb dX4_combineWhole_177 rfl (lv_at hl 1 rfl) ?_
      obtain ⟨v22, hv22, hf⟩ := g_bind hf
      refine g_getr hx hb hts hown hK hG hv22 rfl iX4 (by decide) flX4_14 dX4_combineWhole_178 ?_
      refine lv_aload_n hx hb dX4_combineWhole_181 rfl (lv_at hl 1 rfl) ?_
      obtain ⟨v23, hv23, hf⟩ := g_bind hf
      refine g_getr hx hb hts hown hK hG hv23 rfl iX4 (by decide) flX4_31 dX4_combineWhole_182 ?_
      obtain ⟨v24, hv24, hf⟩ := g_bind hf
      refine g_getr hx hb hts hown hK hG hv24 rfl iX1 (by decide) flX4_152 dX4_combineWhole_185 ?_
      refine lv_aload_n hx hb dX4_combineWhole_188 rfl (lv_at hl 3 rfl) ?_
      obtain ⟨v25, hv25, hf⟩ := g_bind hf
      refine g_geti hx hb hts hown hK hG hv25 rfl iX2 (by decide) flX4_51 dX4_combineWhole_189 ?_
      obtain ⟨o26, ho26, hf⟩ := g_bind hf
      obtain ⟨r27, hr27, hf⟩ := g_bind hf
      refine g_callV hx hb hml hl.1 hts hown hK hG hS (As := [.ref v24, .int v25]) (rest := []) (tX2_becomeWhole_ l D hr27) vX2_becomeWhole_ mlX4_88 ho26 rfl rfl rfl rfl ⟨Nat.le_of_ble_eq_true rfl, Nat.le_of_ble_eq_true rfl⟩ rfl rfl (Nat.le_of_ble_eq_true rfl) ⟨Nat.le_of_ble_eq_true rfl, Nat.le_of_ble_eq_true rfl⟩ dX4_combineWhole_192 (fun H locs hG hS => ?_)
      exact tBX4_combineWhole_195 C hK   _  _ _ _ hG hS (lv_sub hl [] rfl) hf
    · rw [if_neg c21] at hf
      refine lv_aload_n hx hb dX4_combineWhole_141 rfl (lv_at hl 1 rfl) ?_
      obtain ⟨v28, hv28, hf⟩ := g_bind hf
      refine g_getr hx hb hts hown hK hG hv28 rfl iX4 (by decide) flX4_45 dX4_combineWhole_142 ?_
      refine lv_aload_n hx hb dX4_combineWhole_145 rfl (lv_at hl 3 rfl) ?_
      obtain ⟨v29, hv29, hf⟩ := g_bind hf
      refine g_getr hx hb hts hown hK hG hv29 rfl iX2 (by decide) flX4_59 dX4_combineWhole_146 ?_
      refine lv_aload_n hx hb dX4_combineWhole_149 rfl (lv_at hl 1 rfl) ?_
      obtain ⟨v30, hv30, hf⟩ := g_bind hf
      refine g_getr hx hb hts hown hK hG hv30 rfl iX4 (by decide) flX4_31 dX4_combineWhole_150 ?_
      obtain ⟨v31, hv31, hf⟩ := g_bind hf
      refine g_getr hx hb hts hown hK hG hv31 rfl iX1 (by decide) flX4_152 dX4_combineWhole_153 ?_
      obtain ⟨o32, ho32, hf⟩ := g_bind hf
      obtain ⟨r33, hr33, hf⟩ := g_bind hf
      refine g_callV hx hb hml hl.1 hts hown hK hG hS (As := [.ref v29, .ref v31]) (rest := []) (tX3_becomeDifference l D hr33) vX3_becomeDifference mlX4_146 ho32 rfl rfl rfl rfl ⟨Nat.le_of_ble_eq_true rfl, Nat.le_of_ble_eq_true rfl⟩ rfl rfl (Nat.le_of_ble_eq_true rfl) ⟨Nat.le_of_ble_eq_true rfl, Nat.le_of_ble_eq_true rfl⟩ dX4_combineWhole_156 (fun H locs hG hS => ?_)
      refine lv_aload_n hx hb dX4_combineWhole_159 rfl (lv_at hl 1 rfl) ?_
      obtain ⟨v34, hv34, hf⟩ := g_bind hf
      refine g_getr hx hb hts hown hK hG hv34 rfl iX4 (by decide) flX4_14 dX4_combineWhole_160 ?_
      refine lv_aload_n hx hb dX4_combineWhole_163 rfl (lv_at hl 1 rfl) ?_
      obtain ⟨v35, hv35, hf⟩ := g_bind hf
      refine g_getr hx hb hts hown hK hG hv35 rfl iX4 (by decide) flX4_45 dX4_combineWhole_164 ?_
      refine lv_aload_n hx hb dX4_combineWhole_167 rfl (lv_at hl 3 rfl) ?_
      obtain ⟨v36, hv36, hf⟩ := g_bind hf
      refine g_geti hx hb hts hown hK hG hv36 rfl iX2 (by decide) flX4_51 dX4_combineWhole_168 ?_
      obtain ⟨o37, ho37, hf⟩ := g_bind hf
      obtain ⟨r38, hr38, hf⟩ := g_bind hf
      refine g_callV hx hb hml hl.1 hts hown hK hG hS (As := [.ref v35, .int v36]) (rest := []) (tX2_becomeWhole_ l D hr38) vX2_becomeWhole_ mlX4_88 ho37 rfl rfl rfl rfl ⟨Nat.le_of_ble_eq_true rfl, Nat.le_of_ble_eq_true rfl⟩ rfl rfl (Nat.le_of_ble_eq_true rfl) ⟨Nat.le_of_ble_eq_true rfl, Nat.le_of_ble_eq_true rfl⟩ dX4_combineWhole_171 (fun H locs hG hS => ?_)
      refine lv_goto (tgt := 195) hx hb dX4_combineWhole_174 (by decide) ?_
      exact tBX4_combineWhole_195 C hK   _  _ _ _ hG hS (lv_sub hl [] rfl) hf
  · rw [if_pos c20] at hf
    refine lv_aload_n hx hb dX4_combineWhole_111 rfl (lv_at hl 1 rfl) ?_
    refine lv_iload hx hb dX4_combineWhole_112 (lv_at hl 0 rfl) ?_
    refine lv_aload_n hx hb dX4_combineWhole_114 rfl (lv_at hl 2 rfl) ?_
    obtain ⟨v39, hv39, hf⟩ := g_bind hf
    refine g_geti hx hb hts hown hK hG hv39 rfl iX2 (by decide) flX4_51 dX4_combineWhole_115 ?_
    refine lv_aload_n hx hb dX4_combineWhole_118 rfl (lv_at hl 3 rfl) ?_
    obtain ⟨v40, hv40, hf⟩ := g_bind hf
    refine g_geti hx hb hts hown hK hG hv40 rfl iX2 (by decide) flX4_51 dX4_combineWhole_119 ?_
    refine lv_icmp_eq (tgt := 129) hx hb dX4_combineWhole_122 (by decide) (fun c41 => ?_) (fun c41 => ?_)
    · rw [if_pos c41] at hf
      refine lv_iconst (v := 0) hx hb dX4_combineWhole_129 (by decide +kernel) ?_
      exact tBX4_combineWhole_130 C hK   _ _ _ _ _ _ _ hG hS (lv_sub hl [] rfl) hf
    · rw [if_neg c41] at hf
      refine lv_iconst (v := 1) hx hb dX4_combineWhole_125 (by decide +kernel) ?_
      refine lv_goto (tgt := 130) hx hb dX4_combineWhole_126 (by decide) ?_
      exact tBX4_combineWhole_130 C hK   _ _ _ _ _ _ _ hG hS (lv_sub hl [] rfl) hf

set_option maxHeartbeats 4000000 in
set_option maxRecDepth 100000 in
theorem tBX4_combineWhole_103 {p : Program} {l : Launch} {e : Env} {s : State} {m : MethodId} {args : Array Value} {below : List Frame} {meth : Method} {c : Code} {D : g_D} {out : Int32 × g_S} (C : g_C RX4 cX4_combineWhole 5 (some .int) True p s m args meth c) (hK : g_K D s)  : ∀ (σ : g_S) (x0 : Nat) (x1 : Nat) (x2 : Nat) (x3 : Int32) (H : Heap) (locs : List Loc) (ls : Array Slot), g_H D σ H → va_S (g_A D) s.heap H locs → lv_has ls 5 [(0, .ref x0), (1, .ref x1), (2, .ref x2), (3, .int x3)] → BX4_combineWhole_103  σ x0 x1 x2 x3 = some out → W p l e rmX4_combineWhole s m args below meth c H locs 0 0 (MQ below (g_Q D out.2 (some (.int out.1))) args s 0 0 (g_A D)) (F0 m 103 ls []) := by
  obtain ⟨hx, hb, hml, hown, hts, hr, hlocks, hin⟩ := id C
  intro σ x0 x1 x2 x3 H locs ls hG hS hl hf
  unfold BX4_combineWhole_103 at hf
  refine lv_iconst (v := 0) hx hb dX4_combineWhole_103 (by decide +kernel) ?_
  exact tBX4_combineWhole_104 C hK   _ _ _ _ _ _ _ _ _ hG hS (lv_sub hl [0, 1, 2, 3] rfl) hf

set_option maxHeartbeats 4000000 in
set_option maxRecDepth 100000 in
theorem tX4_combineWhole (l : Launch) (D : g_D) {σ : g_S} {x0 : Nat} {x1 : Nat} {x2 : Nat} {x3 : Int32} {out : Int32 × g_S} (hf : fX4_combineWhole σ x0 x1 x2 x3 = some out) : Met l yX4_combineWhole (Cond.code yX4_combineWhole cX4_combineWhole 5 (some .int) :: lw_g) rmX4_combineWhole (g_P D σ [.ref x0, .ref x1, .ref x2, .int x3]) (g_Q D out.2 (some (.int out.1))) 0 0 (g_A D) := by
  refine Met.ofW (cc := cX4_combineWhole) (maxL := 5) (ret := (some .int)) (by decide +kernel) rfl ?_
  intro p e s m args below meth c s₁ B hml hv
  obtain ⟨rfl, hG, hK⟩ := hv
  have hts : ∀ w ∈ lw_g, w.before _ s = true := fun w h => atoms_spec (ws := (Cond.code yX4_combineWhole cX4_combineWhole 5 (some .int) :: lw_g)) B.pre w (List.mem_cons_of_mem _ h)
  have C : g_C RX4 cX4_combineWhole 5 (some .int) True p s m _ meth c := ⟨B.exec, B.bytes, hml, findClass_of_methodNamed B.named, hts, B.returns, B.notSynchronized, trivial⟩
  obtain ⟨hx, hb, hml, hown, hts, hr, hlocks, hin⟩ := id C
  have hS : va_S (g_A D) s.heap s.heap [] := va_S.rf
  have hl := lv_entry ([.ref x0, .ref x1, .ref x2, .int x3]) (n := 5) (Nat.le_of_ble_eq_true rfl)
  rw [lg_entry_eq]
  generalize (lg_sl ([.ref x0, .ref x1, .ref x2, .int x3]) ++ List.replicate (5 - (lg_sl ([.ref x0, .ref x1, .ref x2, .int x3])).length) Slot.unset).toArray = ls at hl ⊢
  have hl : lv_has ls 5 [(0, .ref x0), (1, .ref x1), (2, .ref x2), (3, .int x3)] := hl
  unfold fX4_combineWhole at hf
  refine lv_aload_n hx hb dX4_combineWhole_0 rfl (lv_at hl 1 rfl) ?_
  obtain ⟨o1, ho1, hf⟩ := g_bind hf
  obtain ⟨r2, hr2, hf⟩ := g_bind hf
  refine g_callV hx hb hml hl.1 hts hown hK hG hS (As := []) (rest := []) (tX2_isWhole l D hr2) vX2_isWhole mlX4_149 ho1 rfl rfl rfl rfl ⟨Nat.le_of_ble_eq_true rfl, Nat.le_of_ble_eq_true rfl⟩ rfl rfl (Nat.le_of_ble_eq_true rfl) ⟨Nat.le_of_ble_eq_true rfl, Nat.le_of_ble_eq_true rfl⟩ dX4_combineWhole_1 (fun H locs hG hS => ?_)
  refine lv_if_eq (tgt := 14) hx hb dX4_combineWhole_4 (by decide) (fun c3 => ?_) (fun c3 => ?_)
  · rw [if_pos c3] at hf
    exact tBX4_combineWhole_14 C hK   _  _ _ _ hG hS (lv_sub hl [] rfl) hf
  · rw [if_neg c3] at hf
    refine lv_aload_n hx hb dX4_combineWhole_7 rfl (lv_at hl 2 rfl) ?_
    obtain ⟨o4, ho4, hf⟩ := g_bind hf
    obtain ⟨r5, hr5, hf⟩ := g_bind hf
    refine g_callV hx hb hml hl.1 hts hown hK hG hS (As := []) (rest := []) (tX2_isWhole l D hr5) vX2_isWhole mlX4_149 ho4 rfl rfl rfl rfl ⟨Nat.le_of_ble_eq_true rfl, Nat.le_of_ble_eq_true rfl⟩ rfl rfl (Nat.le_of_ble_eq_true rfl) ⟨Nat.le_of_ble_eq_true rfl, Nat.le_of_ble_eq_true rfl⟩ dX4_combineWhole_8 (fun H locs hG hS => ?_)
    refine lv_if_ne (tgt := 16) hx hb dX4_combineWhole_11 (by decide) (fun c6 => ?_) (fun c6 => ?_)
    · rw [if_neg c6] at hf
      refine lv_iload_n hx hb dX4_combineWhole_16 rfl (lv_at hl 3 rfl) ?_
      refine lv_bipush (v := 6) hx hb dX4_combineWhole_17 (by decide +kernel) ?_
      refine lv_icmp_ne (tgt := 47) hx hb dX4_combineWhole_19 (by decide) (fun c7 => ?_) (fun c7 => ?_)
      · rw [if_neg c7] at hf
        refine lv_aload_n hx hb dX4_combineWhole_47 rfl (lv_at hl 2 rfl) ?_
        obtain ⟨v8, hv8, hf⟩ := g_bind hf
        refine g_getr hx hb hts hown hK hG hv8 rfl iX2 (by decide) flX4_59 dX4_combineWhole_48 ?_
        obtain ⟨o9, ho9, hf⟩ := g_bind hf
        obtain ⟨r10, hr10, hf⟩ := g_bind hf
        refine g_callV hx hb hml hl.1 hts hown hK hG hS (As := []) (rest := []) (tX3_isZero l D hr10) vX3_isZero mlX4_69 ho9 rfl rfl rfl rfl ⟨Nat.le_of_ble_eq_true rfl, Nat.le_of_ble_eq_true rfl⟩ rfl rfl (Nat.le_of_ble_eq_true rfl) ⟨Nat.le_of_ble_eq_true rfl, Nat.le_of_ble_eq_true rfl⟩ dX4_combineWhole_51 (fun H locs hG hS => ?_)
        refine lv_if_eq (tgt := 60) hx hb dX4_combineWhole_54 (by decide) (fun c11 => ?_) (fun c11 => ?_)
        · rw [if_pos c11] at hf
          refine lv_aload_n hx hb dX4_combineWhole_60 rfl (lv_at hl 0 rfl) ?_
          obtain ⟨v12, hv12, hf⟩ := g_bind hf
          refine g_getr hx hb hts hown hK hG hv12 rfl iX4 (by decide) flX4_31 dX4_combineWhole_61 ?_
          refine lv_aload_n hx hb dX4_combineWhole_64 rfl (lv_at hl 1 rfl) ?_
          obtain ⟨v13, hv13, hf⟩ := g_bind hf
          refine g_getr hx hb hts hown hK hG hv13 rfl iX2 (by decide) flX4_59 dX4_combineWhole_65 ?_
          refine lv_aload_n hx hb dX4_combineWhole_68 rfl (lv_at hl 2 rfl) ?_
          obtain ⟨v14, hv14, hf⟩ := g_bind hf
          refine g_getr hx hb hts hown hK hG hv14 rfl iX2 (by decide) flX4_59 dX4_combineWhole_69 ?_
          obtain ⟨o15, ho15, hf⟩ := g_bind hf
          obtain ⟨r16, hr16, hf⟩ := g_bind hf
          refine g_callV hx hb hml hl.1 hts hown hK hG hS (As := [.ref v13, .ref v14]) (rest := []) (tX1_divide l D hr16) vX1_divide mlX4_124 ho15 rfl rfl rfl rfl ⟨Nat.le_of_ble_eq_true rfl, Nat.le_of_ble_eq_true rfl⟩ rfl rfl (Nat.le_of_ble_eq_true rfl) ⟨Nat.le_of_ble_eq_true rfl, Nat.le_of_ble_eq_true rfl⟩ dX4_combineWhole_72 (fun H locs hG hS => ?_)
          refine lv_aload_n hx hb dX4_combineWhole_75 rfl (lv_at hl 1 rfl) ?_
          obtain ⟨v17, hv17, hf⟩ := g_bind hf
          refine g_geti hx hb hts hown hK hG hv17 rfl iX2 (by decide) flX4_51 dX4_combineWhole_76 ?_
          refine lv_aload_n hx hb dX4_combineWhole_79 rfl (lv_at hl 2 rfl) ?_
          obtain ⟨v18, hv18, hf⟩ := g_bind hf
          refine g_geti hx hb hts hown hK hG hv18 rfl iX2 (by decide) flX4_51 dX4_combineWhole_80 ?_
          refine lv_icmp_eq (tgt := 103) hx hb dX4_combineWhole_83 (by decide) (fun c19 => ?_) (fun c19 => ?_)
          · rw [if_pos c19] at hf
            exact tBX4_combineWhole_103 C hK   _ _ _ _ _ _ _ _ hG hS (lv_sub hl [0, 1, 2, 3] rfl) hf
          · rw [if_neg c19] at hf
            refine lv_aload_n hx hb dX4_combineWhole_86 rfl (lv_at hl 0 rfl) ?_
            obtain ⟨v44, hv44, hf⟩ := g_bind hf
            refine g_getr hx hb hts hown hK hG hv44 rfl iX4 (by decide) flX4_31 dX4_combineWhole_87 ?_
            obtain ⟨v45, hv45, hf⟩ := g_bind hf
            refine g_getr hx hb hts hown hK hG hv45 rfl iX1 (by decide) flX4_152 dX4_combineWhole_90 ?_
            obtain ⟨o46, ho46, hf⟩ := g_bind hf
            obtain ⟨r47, hr47, hf⟩ := g_bind hf
            refine g_callV hx hb hml hl.1 hts hown hK hG hS (As := []) (rest := []) (tX3_isZero l D hr47) vX3_isZero mlX4_69 ho46 rfl rfl rfl rfl ⟨Nat.le_of_ble_eq_true rfl, Nat.le_of_ble_eq_true rfl⟩ rfl rfl (Nat.le_of_ble_eq_true rfl) ⟨Nat.le_of_ble_eq_true rfl, Nat.le_of_ble_eq_true rfl⟩ dX4_combineWhole_93 (fun H locs hG hS => ?_)
            refine lv_if_ne (tgt := 103) hx hb dX4_combineWhole_96 (by decide) (fun c48 => ?_) (fun c48 => ?_)
            · rw [if_neg c48] at hf
              exact tBX4_combineWhole_103 C hK   _ _ _ _ _ _ _ _ hG hS (lv_sub hl [0, 1, 2, 3] rfl) hf
            · rw [if_pos c48] at hf
              refine lv_iconst (v := 1) hx hb dX4_combineWhole_99 (by decide +kernel) ?_
              refine lv_goto (tgt := 104) hx hb dX4_combineWhole_100 (by decide) ?_
              exact tBX4_combineWhole_104 C hK   _ _ _ _ _ _ _ _ _ hG hS (lv_sub hl [0, 1, 2, 3] rfl) hf
        · rw [if_neg c11] at hf
          refine lv_bipush (v := (-2)) hx hb dX4_combineWhole_57 (by decide +kernel) ?_
          cases hf
          exact g_iret hx hb hr hlocks hG hS dX4_combineWhole_59
      · rw [if_pos c7] at hf
        refine lv_aload_n hx hb dX4_combineWhole_22 rfl (lv_at hl 0 rfl) ?_
        obtain ⟨v49, hv49, hf⟩ := g_bind hf
        refine g_getr hx hb hts hown hK hG hv49 rfl iX4 (by decide) flX4_14 dX4_combineWhole_23 ?_
        refine lv_aload_n hx hb dX4_combineWhole_26 rfl (lv_at hl 0 rfl) ?_
        obtain ⟨v50, hv50, hf⟩ := g_bind hf
        refine g_getr hx hb hts hown hK hG hv50 rfl iX4 (by decide) flX4_23 dX4_combineWhole_27 ?_
        refine lv_aload_n hx hb dX4_combineWhole_30 rfl (lv_at hl 1 rfl) ?_
        obtain ⟨v51, hv51, hf⟩ := g_bind hf
        refine g_getr hx hb hts hown hK hG hv51 rfl iX2 (by decide) flX4_59 dX4_combineWhole_31 ?_
        refine lv_aload_n hx hb dX4_combineWhole_34 rfl (lv_at hl 2 rfl) ?_
        obtain ⟨v52, hv52, hf⟩ := g_bind hf
        refine g_getr hx hb hts hown hK hG hv52 rfl iX2 (by decide) flX4_59 dX4_combineWhole_35 ?_
        obtain ⟨o53, ho53, hf⟩ := g_bind hf
        obtain ⟨r54, hr54, hf⟩ := g_bind hf
        refine g_callV hx hb hml hl.1 hts hown hK hG hS (As := [.ref v51, .ref v52]) (rest := [.ref v49]) (tX0_of l D hr54) vX0_of mlX4_111 ho53 rfl rfl rfl rfl ⟨Nat.le_of_ble_eq_true rfl, Nat.le_of_ble_eq_true rfl⟩ rfl rfl (Nat.le_of_ble_eq_true rfl) ⟨Nat.le_of_ble_eq_true rfl, Nat.le_of_ble_eq_true rfl⟩ dX4_combineWhole_38 (fun H locs hG hS => ?_)
        refine lv_iconst (v := 0) hx hb dX4_combineWhole_41 (by decide +kernel) ?_
        obtain ⟨o55, ho55, hf⟩ := g_bind hf
        obtain ⟨r56, hr56, hf⟩ := g_bind hf
        refine g_callV hx hb hml hl.1 hts hown hK hG hS (As := [.ref r54.1, .int 0]) (rest := []) (tX2_becomeWhole_ l D hr56) vX2_becomeWhole_ mlX4_88 ho55 rfl rfl rfl rfl ⟨Nat.le_of_ble_eq_true rfl, Nat.le_of_ble_eq_true rfl⟩ rfl rfl (Nat.le_of_ble_eq_true rfl) ⟨Nat.le_of_ble_eq_true rfl, Nat.le_of_ble_eq_true rfl⟩ dX4_combineWhole_42 (fun H locs hG hS => ?_)
        refine lv_iconst (v := 0) hx hb dX4_combineWhole_45 (by decide +kernel) ?_
        cases hf
        exact g_iret hx hb hr hlocks hG hS dX4_combineWhole_46
    · rw [if_pos c6] at hf
      exact tBX4_combineWhole_14 C hK   _  _ _ _ hG hS (lv_sub hl [] rfl) hf

def rmX4_multiply : Room := { frames := 4, cells := 0, slots := 0, locals := 111 }
noncomputable def BX4_multiply_144  (σ : g_S) (x0 : Nat) (y0 : Nat) (y1 : Int32) : Option (Int32 × g_S) := (g_o σ 2 y0).bind fun o46 => (fX2_sign σ y0 y1).bind fun r47 => (g_o r47 4 x0).bind fun o48 => (fX4_answer r47 x0).bind fun r49 => some (r49.1, r49.2)
noncomputable def fX4_multiply (σ : g_S) (x0 : Nat) (x1 : Nat) (x2 : Nat) (x3 : Nat) (x4 : Int32) : Option (Int32 × g_S) := (g_fr σ 4 x0 1).bind fun v1 => (g_fr σ 2 x1 0).bind fun v2 => (g_o σ 0 v1).bind fun o3 => (fX0_of σ v1 v2 x3).bind fun r4 => (g_fr r4.2 4 x0 4).bind fun v5 => (g_fr r4.2 2 x1 0).bind fun v6 => (g_o r4.2 4 x0).bind fun o7 => (fX4_over r4.2 x0 v6 r4.1).bind fun r8 => (g_o r8.2 3 v5).bind fun o9 => (fX3_become r8.2 v5 r8.1).bind fun r10 => (g_fr r10 4 x0 5).bind fun v11 => (g_o r10 4 x0).bind fun o12 => (fX4_over r10 x0 x3 r4.1).bind fun r13 => (g_o r13.2 3 v11).bind fun o14 => (fX3_become r13.2 v11 r13.1).bind fun r15 => (g_fr r15 4 x0 1).bind fun v16 => (g_fr r15 2 x1 1).bind fun v17 => (g_o r15 0 v16).bind fun o18 => (fX0_of r15 v16 x2 v17).bind fun r19 => (g_fr r19.2 4 x0 6).bind fun v20 => (g_o r19.2 4 x0).bind fun o21 => (fX4_over r19.2 x0 x2 r19.1).bind fun r22 => (g_o r22.2 3 v20).bind fun o23 => (fX3_become r22.2 v20 r22.1).bind fun r24 => (g_fr r24 4 x0 7).bind fun v25 => (g_fr r24 2 x1 1).bind fun v26 => (g_o r24 4 x0).bind fun o27 => (fX4_over r24 x0 v26 r19.1).bind fun r28 => (g_o r28.2 3 v25).bind fun o29 => (fX3_become r28.2 v25 r28.1).bind fun r30 => (g_fr r30 4 x0 0).bind fun v31 => (g_fr r30 2 v31 0).bind fun v32 => (g_fr r30 4 x0 4).bind fun v33 => (g_fr r30 4 x0 6).bind fun v34 => (g_o r30 3 v32).bind fun o35 => (fX3_becomeProduct r30 v32 v33 v34).bind fun r36 => (g_fr r36 4 x0 0).bind fun v37 => (g_fr r36 2 v37 1).bind fun v38 => (g_fr r36 4 x0 5).bind fun v39 => (g_fr r36 4 x0 7).bind fun v40 => (g_o r36 3 v38).bind fun o41 => (fX3_becomeProduct r36 v38 v39 v40).bind fun r42 => (g_fr r42 4 x0 0).bind fun v43 => (g_fi r42 2 x1 2).bind fun v44 => if v44 = x4 then (BX4_multiply_144 r42 x0 v43 0) else (BX4_multiply_144 r42 x0 v43 1)
set_option maxHeartbeats 4000000 in
set_option maxRecDepth 100000 in
theorem tBX4_multiply_144 {p : Program} {l : Launch} {e : Env} {s : State} {m : MethodId} {args : Array Value} {below : List Frame} {meth : Method} {c : Code} {D : g_D} {out : Int32 × g_S} (C : g_C RX4 cX4_multiply 6 (some .int) True p s m args meth c) (hK : g_K D s)  : ∀ (σ : g_S) (x0 : Nat) (y0 : Nat) (y1 : Int32) (H : Heap) (locs : List Loc) (ls : Array Slot), g_H D σ H → va_S (g_A D) s.heap H locs → lv_has ls 6 [(0, .ref x0)] → BX4_multiply_144  σ x0 y0 y1 = some out → W p l e rmX4_multiply s m args below meth c H locs 0 0 (MQ below (g_Q D out.2 (some (.int out.1))) args s 0 0 (g_A D)) (F0 m 144 ls [.int y1, .ref y0]) := by
  obtain ⟨hx, hb, hml, hown, hts, hr, hlocks, hin⟩ := id C
  intro σ x0 y0 y1 H locs ls hG hS hl hf
  unfold BX4_multiply_144 at hf
  obtain ⟨o46, ho46, hf⟩ := g_bind hf
  obtain ⟨r47, hr47, hf⟩ := g_bind hf
  refine g_callV hx hb hml hl.1 hts hown hK hG hS (As := [.int y1]) (rest := []) (tX2_sign l D hr47) vX2_sign mlX4_96 ho46 rfl rfl rfl rfl ⟨Nat.le_of_ble_eq_true rfl, Nat.le_of_ble_eq_true rfl⟩ rfl rfl (Nat.le_of_ble_eq_true rfl) ⟨Nat.le_of_ble_eq_true rfl, Nat.le_of_ble_eq_true rfl⟩ dX4_multiply_144 (fun H locs hG hS => ?_)
  refine lv_aload_n hx hb dX4_multiply_147 rfl (lv_at hl 0 rfl) ?_
  obtain ⟨o48, ho48, hf⟩ := g_bind hf
  obtain ⟨r49, hr49, hf⟩ := g_bind hf
  refine g_callV hx hb hml hl.1 hts hown hK hG hS (As := []) (rest := []) (tX4_answer l D hr49) vX4_answer mlX4_139 ho48 rfl rfl rfl rfl ⟨Nat.le_of_ble_eq_true rfl, Nat.le_of_ble_eq_true rfl⟩ rfl rfl (Nat.le_of_ble_eq_true rfl) ⟨Nat.le_of_ble_eq_true rfl, Nat.le_of_ble_eq_true rfl⟩ dX4_multiply_148 (fun H locs hG hS => ?_)
  cases hf
  exact g_iret hx hb hr hlocks hG hS dX4_multiply_151

set_option maxHeartbeats 4000000 in
set_option maxRecDepth 100000 in
theorem tX4_multiply (l : Launch) (D : g_D) {σ : g_S} {x0 : Nat} {x1 : Nat} {x2 : Nat} {x3 : Nat} {x4 : Int32} {out : Int32 × g_S} (hf : fX4_multiply σ x0 x1 x2 x3 x4 = some out) : Met l yX4_multiply (Cond.code yX4_multiply cX4_multiply 6 (some .int) :: lw_g) rmX4_multiply (g_P D σ [.ref x0, .ref x1, .ref x2, .ref x3, .int x4]) (g_Q D out.2 (some (.int out.1))) 0 0 (g_A D) := by
  refine Met.ofW (cc := cX4_multiply) (maxL := 6) (ret := (some .int)) (by decide +kernel) rfl ?_
  intro p e s m args below meth c s₁ B hml hv
  obtain ⟨rfl, hG, hK⟩ := hv
  have hts : ∀ w ∈ lw_g, w.before _ s = true := fun w h => atoms_spec (ws := (Cond.code yX4_multiply cX4_multiply 6 (some .int) :: lw_g)) B.pre w (List.mem_cons_of_mem _ h)
  have C : g_C RX4 cX4_multiply 6 (some .int) True p s m _ meth c := ⟨B.exec, B.bytes, hml, findClass_of_methodNamed B.named, hts, B.returns, B.notSynchronized, trivial⟩
  obtain ⟨hx, hb, hml, hown, hts, hr, hlocks, hin⟩ := id C
  have hS : va_S (g_A D) s.heap s.heap [] := va_S.rf
  have hl := lv_entry ([.ref x0, .ref x1, .ref x2, .ref x3, .int x4]) (n := 6) (Nat.le_of_ble_eq_true rfl)
  rw [lg_entry_eq]
  generalize (lg_sl ([.ref x0, .ref x1, .ref x2, .ref x3, .int x4]) ++ List.replicate (6 - (lg_sl ([.ref x0, .ref x1, .ref x2, .ref x3, .int x4])).length) Slot.unset).toArray = ls at hl ⊢
  have hl : lv_has ls 6 [(0, .ref x0), (1, .ref x1), (2, .ref x2), (3, .ref x3), (4, .int x4)] := hl
  unfold fX4_multiply at hf
  refine lv_aload_n hx hb dX4_multiply_0 rfl (lv_at hl 0 rfl) ?_
  obtain ⟨v1, hv1, hf⟩ := g_bind hf
  refine g_getr hx hb hts hown hK hG hv1 rfl iX4 (by decide) flX4_23 dX4_multiply_1 ?_
  refine lv_aload_n hx hb dX4_multiply_4 rfl (lv_at hl 1 rfl) ?_
  obtain ⟨v2, hv2, hf⟩ := g_bind hf
  refine g_getr hx hb hts hown hK hG hv2 rfl iX2 (by decide) flX4_59 dX4_multiply_5 ?_
  refine lv_aload_n hx hb dX4_multiply_8 rfl (lv_at hl 3 rfl) ?_
  obtain ⟨o3, ho3, hf⟩ := g_bind hf
  obtain ⟨r4, hr4, hf⟩ := g_bind hf
  refine g_callV hx hb hml hl.1 hts hown hK hG hS (As := [.ref v2, .ref x3]) (rest := []) (tX0_of l D hr4) vX0_of mlX4_111 ho3 rfl rfl rfl rfl ⟨Nat.le_of_ble_eq_true rfl, Nat.le_of_ble_eq_true rfl⟩ rfl rfl (Nat.le_of_ble_eq_true rfl) ⟨Nat.le_of_ble_eq_true rfl, Nat.le_of_ble_eq_true rfl⟩ dX4_multiply_9 (fun H locs hG hS => ?_)
  refine lv_astore (lv' := [(5, .ref r4.1), (0, .ref x0), (1, .ref x1), (2, .ref x2), (3, .ref x3), (4, .int x4)]) hx hb dX4_multiply_12 hl (by decide) rfl (fun ls hl => ?_)
  refine lv_aload_n hx hb dX4_multiply_14 rfl (lv_at hl 1 rfl) ?_
  obtain ⟨v5, hv5, hf⟩ := g_bind hf
  refine g_getr hx hb hts hown hK hG hv5 rfl iX4 (by decide) flX4_39 dX4_multiply_15 ?_
  refine lv_aload_n hx hb dX4_multiply_18 rfl (lv_at hl 1 rfl) ?_
  refine lv_aload_n hx hb dX4_multiply_19 rfl (lv_at hl 2 rfl) ?_
  obtain ⟨v6, hv6, hf⟩ := g_bind hf
  refine g_getr hx hb hts hown hK hG hv6 rfl iX2 (by decide) flX4_59 dX4_multiply_20 ?_
  refine lv_aload hx hb dX4_multiply_23 (lv_at hl 0 rfl) ?_
  obtain ⟨o7, ho7, hf⟩ := g_bind hf
  obtain ⟨r8, hr8, hf⟩ := g_bind hf
  refine g_callV hx hb hml hl.1 hts hown hK hG hS (As := [.ref v6, .ref r4.1]) (rest := [.ref v5]) (tX4_over l D hr8) vX4_over mlX4_118 ho7 rfl rfl rfl rfl ⟨Nat.le_of_ble_eq_true rfl, Nat.le_of_ble_eq_true rfl⟩ rfl rfl (Nat.le_of_ble_eq_true rfl) ⟨Nat.le_of_ble_eq_true rfl, Nat.le_of_ble_eq_true rfl⟩ dX4_multiply_25 (fun H locs hG hS => ?_)
  obtain ⟨o9, ho9, hf⟩ := g_bind hf
  obtain ⟨r10, hr10, hf⟩ := g_bind hf
  refine g_callV hx hb hml hl.1 hts hown hK hG hS (As := [.ref r8.1]) (rest := []) (tX3_become l D hr10) vX3_become mlX4_121 ho9 rfl rfl rfl rfl ⟨Nat.le_of_ble_eq_true rfl, Nat.le_of_ble_eq_true rfl⟩ rfl rfl (Nat.le_of_ble_eq_true rfl) ⟨Nat.le_of_ble_eq_true rfl, Nat.le_of_ble_eq_true rfl⟩ dX4_multiply_28 (fun H locs hG hS => ?_)
  refine lv_aload_n hx hb dX4_multiply_31 rfl (lv_at hl 1 rfl) ?_
  obtain ⟨v11, hv11, hf⟩ := g_bind hf
  refine g_getr hx hb hts hown hK hG hv11 rfl iX4 (by decide) flX4_42 dX4_multiply_32 ?_
  refine lv_aload_n hx hb dX4_multiply_35 rfl (lv_at hl 1 rfl) ?_
  refine lv_aload_n hx hb dX4_multiply_36 rfl (lv_at hl 4 rfl) ?_
  refine lv_aload hx hb dX4_multiply_37 (lv_at hl 0 rfl) ?_
  obtain ⟨o12, ho12, hf⟩ := g_bind hf
  obtain ⟨r13, hr13, hf⟩ := g_bind hf
  refine g_callV hx hb hml hl.1 hts hown hK hG hS (As := [.ref x3, .ref r4.1]) (rest := [.ref v11]) (tX4_over l D hr13) vX4_over mlX4_118 ho12 rfl rfl rfl rfl ⟨Nat.le_of_ble_eq_true rfl, Nat.le_of_ble_eq_true rfl⟩ rfl rfl (Nat.le_of_ble_eq_true rfl) ⟨Nat.le_of_ble_eq_true rfl, Nat.le_of_ble_eq_true rfl⟩ dX4_multiply_39 (fun H locs hG hS => ?_)
  obtain ⟨o14, ho14, hf⟩ := g_bind hf
  obtain ⟨r15, hr15, hf⟩ := g_bind hf
  refine g_callV hx hb hml hl.1 hts hown hK hG hS (As := [.ref r13.1]) (rest := []) (tX3_become l D hr15) vX3_become mlX4_121 ho14 rfl rfl rfl rfl ⟨Nat.le_of_ble_eq_true rfl, Nat.le_of_ble_eq_true rfl⟩ rfl rfl (Nat.le_of_ble_eq_true rfl) ⟨Nat.le_of_ble_eq_true rfl, Nat.le_of_ble_eq_true rfl⟩ dX4_multiply_42 (fun H locs hG hS => ?_)
  refine lv_aload_n hx hb dX4_multiply_45 rfl (lv_at hl 1 rfl) ?_
  obtain ⟨v16, hv16, hf⟩ := g_bind hf
  refine g_getr hx hb hts hown hK hG hv16 rfl iX4 (by decide) flX4_23 dX4_multiply_46 ?_
  refine lv_aload_n hx hb dX4_multiply_49 rfl (lv_at hl 3 rfl) ?_
  refine lv_aload_n hx hb dX4_multiply_50 rfl (lv_at hl 2 rfl) ?_
  obtain ⟨v17, hv17, hf⟩ := g_bind hf
  refine g_getr hx hb hts hown hK hG hv17 rfl iX2 (by decide) flX4_62 dX4_multiply_51 ?_
  obtain ⟨o18, ho18, hf⟩ := g_bind hf
  obtain ⟨r19, hr19, hf⟩ := g_bind hf
  refine g_callV hx hb hml hl.1 hts hown hK hG hS (As := [.ref x2, .ref v17]) (rest := []) (tX0_of l D hr19) vX0_of mlX4_111 ho18 rfl rfl rfl rfl ⟨Nat.le_of_ble_eq_true rfl, Nat.le_of_ble_eq_true rfl⟩ rfl rfl (Nat.le_of_ble_eq_true rfl) ⟨Nat.le_of_ble_eq_true rfl, Nat.le_of_ble_eq_true rfl⟩ dX4_multiply_54 (fun H locs hG hS => ?_)
  refine lv_astore (lv' := [(5, .ref r19.1), (0, .ref x0), (1, .ref x1), (2, .ref x2), (3, .ref x3), (4, .int x4)]) hx hb dX4_multiply_57 hl (by decide) rfl (fun ls hl => ?_)
  refine lv_aload_n hx hb dX4_multiply_59 rfl (lv_at hl 1 rfl) ?_
  obtain ⟨v20, hv20, hf⟩ := g_bind hf
  refine g_getr hx hb hts hown hK hG hv20 rfl iX4 (by decide) flX4_45 dX4_multiply_60 ?_
  refine lv_aload_n hx hb dX4_multiply_63 rfl (lv_at hl 1 rfl) ?_
  refine lv_aload_n hx hb dX4_multiply_64 rfl (lv_at hl 3 rfl) ?_
  refine lv_aload hx hb dX4_multiply_65 (lv_at hl 0 rfl) ?_
  obtain ⟨o21, ho21, hf⟩ := g_bind hf
  obtain ⟨r22, hr22, hf⟩ := g_bind hf
  refine g_callV hx hb hml hl.1 hts hown hK hG hS (As := [.ref x2, .ref r19.1]) (rest := [.ref v20]) (tX4_over l D hr22) vX4_over mlX4_118 ho21 rfl rfl rfl rfl ⟨Nat.le_of_ble_eq_true rfl, Nat.le_of_ble_eq_true rfl⟩ rfl rfl (Nat.le_of_ble_eq_true rfl) ⟨Nat.le_of_ble_eq_true rfl, Nat.le_of_ble_eq_true rfl⟩ dX4_multiply_67 (fun H locs hG hS => ?_)
  obtain ⟨o23, ho23, hf⟩ := g_bind hf
  obtain ⟨r24, hr24, hf⟩ := g_bind hf
  refine g_callV hx hb hml hl.1 hts hown hK hG hS (As := [.ref r22.1]) (rest := []) (tX3_become l D hr24) vX3_become mlX4_121 ho23 rfl rfl rfl rfl ⟨Nat.le_of_ble_eq_true rfl, Nat.le_of_ble_eq_true rfl⟩ rfl rfl (Nat.le_of_ble_eq_true rfl) ⟨Nat.le_of_ble_eq_true rfl, Nat.le_of_ble_eq_true rfl⟩ dX4_multiply_70 (fun H locs hG hS => ?_)
  refine lv_aload_n hx hb dX4_multiply_73 rfl (lv_at hl 1 rfl) ?_
  obtain ⟨v25, hv25, hf⟩ := g_bind hf
  refine g_getr hx hb hts hown hK hG hv25 rfl iX4 (by decide) flX4_48 dX4_multiply_74 ?_
  refine lv_aload_n hx hb dX4_multiply_77 rfl (lv_at hl 1 rfl) ?_
  refine lv_aload_n hx hb dX4_multiply_78 rfl (lv_at hl 2 rfl) ?_
  obtain ⟨v26, hv26, hf⟩ := g_bind hf
  refine g_getr hx hb hts hown hK hG hv26 rfl iX2 (by decide) flX4_62 dX4_multiply_79 ?_
  refine lv_aload hx hb dX4_multiply_82 (lv_at hl 0 rfl) ?_
  obtain ⟨o27, ho27, hf⟩ := g_bind hf
  obtain ⟨r28, hr28, hf⟩ := g_bind hf
  refine g_callV hx hb hml hl.1 hts hown hK hG hS (As := [.ref v26, .ref r19.1]) (rest := [.ref v25]) (tX4_over l D hr28) vX4_over mlX4_118 ho27 rfl rfl rfl rfl ⟨Nat.le_of_ble_eq_true rfl, Nat.le_of_ble_eq_true rfl⟩ rfl rfl (Nat.le_of_ble_eq_true rfl) ⟨Nat.le_of_ble_eq_true rfl, Nat.le_of_ble_eq_true rfl⟩ dX4_multiply_84 (fun H locs hG hS => ?_)
  obtain ⟨o29, ho29, hf⟩ := g_bind hf
  obtain ⟨r30, hr30, hf⟩ := g_bind hf
  refine g_callV hx hb hml hl.1 hts hown hK hG hS (As := [.ref r28.1]) (rest := []) (tX3_become l D hr30) vX3_become mlX4_121 ho29 rfl rfl rfl rfl ⟨Nat.le_of_ble_eq_true rfl, Nat.le_of_ble_eq_true rfl⟩ rfl rfl (Nat.le_of_ble_eq_true rfl) ⟨Nat.le_of_ble_eq_true rfl, Nat.le_of_ble_eq_true rfl⟩ dX4_multiply_87 (fun H locs hG hS => ?_)
  refine lv_aload_n hx hb dX4_multiply_90 rfl (lv_at hl 1 rfl) ?_
  obtain ⟨v31, hv31, hf⟩ := g_bind hf
  refine g_getr hx hb hts hown hK hG hv31 rfl iX4 (by decide) flX4_14 dX4_multiply_91 ?_
  obtain ⟨v32, hv32, hf⟩ := g_bind hf
  refine g_getr hx hb hts hown hK hG hv32 rfl iX2 (by decide) flX4_59 dX4_multiply_94 ?_
  refine lv_aload_n hx hb dX4_multiply_97 rfl (lv_at hl 1 rfl) ?_
  obtain ⟨v33, hv33, hf⟩ := g_bind hf
  refine g_getr hx hb hts hown hK hG hv33 rfl iX4 (by decide) flX4_39 dX4_multiply_98 ?_
  refine lv_aload_n hx hb dX4_multiply_101 rfl (lv_at hl 1 rfl) ?_
  obtain ⟨v34, hv34, hf⟩ := g_bind hf
  refine g_getr hx hb hts hown hK hG hv34 rfl iX4 (by decide) flX4_45 dX4_multiply_102 ?_
  obtain ⟨o35, ho35, hf⟩ := g_bind hf
  obtain ⟨r36, hr36, hf⟩ := g_bind hf
  refine g_callV hx hb hml hl.1 hts hown hK hG hS (As := [.ref v33, .ref v34]) (rest := []) (tX3_becomeProduct l D hr36) vX3_becomeProduct mlX4_104 ho35 rfl rfl rfl rfl ⟨Nat.le_of_ble_eq_true rfl, Nat.le_of_ble_eq_true rfl⟩ rfl rfl (Nat.le_of_ble_eq_true rfl) ⟨Nat.le_of_ble_eq_true rfl, Nat.le_of_ble_eq_true rfl⟩ dX4_multiply_105 (fun H locs hG hS => ?_)
  refine lv_aload_n hx hb dX4_multiply_108 rfl (lv_at hl 1 rfl) ?_
  obtain ⟨v37, hv37, hf⟩ := g_bind hf
  refine g_getr hx hb hts hown hK hG hv37 rfl iX4 (by decide) flX4_14 dX4_multiply_109 ?_
  obtain ⟨v38, hv38, hf⟩ := g_bind hf
  refine g_getr hx hb hts hown hK hG hv38 rfl iX2 (by decide) flX4_62 dX4_multiply_112 ?_
  refine lv_aload_n hx hb dX4_multiply_115 rfl (lv_at hl 1 rfl) ?_
  obtain ⟨v39, hv39, hf⟩ := g_bind hf
  refine g_getr hx hb hts hown hK hG hv39 rfl iX4 (by decide) flX4_42 dX4_multiply_116 ?_
  refine lv_aload_n hx hb dX4_multiply_119 rfl (lv_at hl 1 rfl) ?_
  obtain ⟨v40, hv40, hf⟩ := g_bind hf
  refine g_getr hx hb hts hown hK hG hv40 rfl iX4 (by decide) flX4_48 dX4_multiply_120 ?_
  obtain ⟨o41, ho41, hf⟩ := g_bind hf
  obtain ⟨r42, hr42, hf⟩ := g_bind hf
  refine g_callV hx hb hml hl.1 hts hown hK hG hS (As := [.ref v39, .ref v40]) (rest := []) (tX3_becomeProduct l D hr42) vX3_becomeProduct mlX4_104 ho41 rfl rfl rfl rfl ⟨Nat.le_of_ble_eq_true rfl, Nat.le_of_ble_eq_true rfl⟩ rfl rfl (Nat.le_of_ble_eq_true rfl) ⟨Nat.le_of_ble_eq_true rfl, Nat.le_of_ble_eq_true rfl⟩ dX4_multiply_123 (fun H locs hG hS => ?_)
  refine lv_aload_n hx hb dX4_multiply_126 rfl (lv_at hl 1 rfl) ?_
  obtain ⟨v43, hv43, hf⟩ := g_bind hf
  refine g_getr hx hb hts hown hK hG hv43 rfl iX4 (by decide) flX4_14 dX4_multiply_127 ?_
  refine lv_aload_n hx hb dX4_multiply_130 rfl (lv_at hl 2 rfl) ?_
  obtain ⟨v44, hv44, hf⟩ := g_bind hf
  refine g_geti hx hb hts hown hK hG hv44 rfl iX2 (by decide) flX4_51 dX4_multiply_131 ?_
  refine lv_iload hx hb dX4_multiply_134 (lv_at hl 5 rfl) ?_
  refine lv_icmp_eq (tgt := 143) hx hb dX4_multiply_136 (by decide) (fun c45 => ?_) (fun c45 => ?_)
  · rw [if_pos c45] at hf
    refine lv_iconst (v := 0) hx hb dX4_multiply_143 (by decide +kernel) ?_
    exact tBX4_multiply_144 C hK   _ _ _ _ _ _ _ hG hS (lv_sub hl [1] rfl) hf
  · rw [if_neg c45] at hf
    refine lv_iconst (v := 1) hx hb dX4_multiply_139 (by decide +kernel) ?_
    refine lv_goto (tgt := 144) hx hb dX4_multiply_140 (by decide) ?_
    exact tBX4_multiply_144 C hK   _ _ _ _ _ _ _ hG hS (lv_sub hl [1] rfl) hf

def rmX4_order : Room := { frames := 2, cells := 0, slots := 0, locals := 51 }
noncomputable def BX4_order_86  (σ : g_S) (y0 : Int32) : Option (Int32 × g_S) := some (y0, σ)
noncomputable def BX4_order_23  (σ : g_S) (y0 : Int32) : Option (Int32 × g_S) := some (y0, σ)
noncomputable def fX4_order (σ : g_S) (x0 : Nat) (x1 : Nat) (x2 : Nat) : Option (Int32 × g_S) := (g_fi σ 2 x1 2).bind fun v1 => (g_fi σ 2 x2 2).bind fun v2 => if v1 = v2 then ((g_fr σ 4 x0 6).bind fun v4 => (g_fr σ 2 x1 0).bind fun v5 => (g_fr σ 2 x2 1).bind fun v6 => (g_o σ 3 v4).bind fun o7 => (fX3_becomeProduct σ v4 v5 v6).bind fun r8 => (g_fr r8 4 x0 7).bind fun v9 => (g_fr r8 2 x2 0).bind fun v10 => (g_fr r8 2 x1 1).bind fun v11 => (g_o r8 3 v9).bind fun o12 => (fX3_becomeProduct r8 v9 v10 v11).bind fun r13 => (g_fi r13 2 x1 2).bind fun v14 => if v14 = 0 then ((g_fr r13 4 x0 6).bind fun v16 => (g_fr r13 4 x0 7).bind fun v17 => (g_o r13 3 v16).bind fun o18 => (fX3_order r13 v16 v17).bind fun r19 => BX4_order_86 r19.2 r19.1) else ((g_fr r13 4 x0 7).bind fun v20 => (g_fr r13 4 x0 6).bind fun v21 => (g_o r13 3 v20).bind fun o22 => (fX3_order r13 v20 v21).bind fun r23 => BX4_order_86 r23.2 r23.1)) else ((g_fi σ 2 x1 2).bind fun v24 => if v24 = 0 then (BX4_order_23 σ 1) else (BX4_order_23 σ (-1)))
set_option maxHeartbeats 4000000 in
set_option maxRecDepth 100000 in
theorem tBX4_order_86 {p : Program} {l : Launch} {e : Env} {s : State} {m : MethodId} {args : Array Value} {below : List Frame} {meth : Method} {c : Code} {D : g_D} {out : Int32 × g_S} (C : g_C RX4 cX4_order 3 (some .int) True p s m args meth c) (hK : g_K D s)  : ∀ (σ : g_S) (y0 : Int32) (H : Heap) (locs : List Loc) (ls : Array Slot), g_H D σ H → va_S (g_A D) s.heap H locs → lv_has ls 3 [] → BX4_order_86  σ y0 = some out → W p l e rmX4_order s m args below meth c H locs 0 0 (MQ below (g_Q D out.2 (some (.int out.1))) args s 0 0 (g_A D)) (F0 m 86 ls [.int y0]) := by
  obtain ⟨hx, hb, hml, hown, hts, hr, hlocks, hin⟩ := id C
  intro σ y0 H locs ls hG hS hl hf
  unfold BX4_order_86 at hf
  cases hf
  exact g_iret hx hb hr hlocks hG hS dX4_order_86

set_option maxHeartbeats 4000000 in
set_option maxRecDepth 100000 in
theorem tBX4_order_23 {p : Program} {l : Launch} {e : Env} {s : State} {m : MethodId} {args : Array Value} {below : List Frame} {meth : Method} {c : Code} {D : g_D} {out : Int32 × g_S} (C : g_C RX4 cX4_order 3 (some .int) True p s m args meth c) (hK : g_K D s)  : ∀ (σ : g_S) (y0 : Int32) (H : Heap) (locs : List Loc) (ls : Array Slot), g_H D σ H → va_S (g_A D) s.heap H locs → lv_has ls 3 [] → BX4_order_23  σ y0 = some out → W p l e rmX4_order s m args below meth c H locs 0 0 (MQ below (g_Q D out.2 (some (.int out.1))) args s 0 0 (g_A D)) (F0 m 23 ls [.int y0]) := by
  obtain ⟨hx, hb, hml, hown, hts, hr, hlocks, hin⟩ := id C
  intro σ y0 H locs ls hG hS hl hf
  unfold BX4_order_23 at hf
  cases hf
  exact g_iret hx hb hr hlocks hG hS dX4_order_23

set_option maxHeartbeats 4000000 in
set_option maxRecDepth 100000 in
theorem tX4_order (l : Launch) (D : g_D) {σ : g_S} {x0 : Nat} {x1 : Nat} {x2 : Nat} {out : Int32 × g_S} (hf : fX4_order σ x0 x1 x2 = some out) : Met l yX4_order (Cond.code yX4_order cX4_order 3 (some .int) :: lw_g) rmX4_order (g_P D σ [.ref x0, .ref x1, .ref x2]) (g_Q D out.2 (some (.int out.1))) 0 0 (g_A D) := by
  refine Met.ofW (cc := cX4_order) (maxL := 3) (ret := (some .int)) (by decide +kernel) rfl ?_
  intro p e s m args below meth c s₁ B hml hv
  obtain ⟨rfl, hG, hK⟩ := hv
  have hts : ∀ w ∈ lw_g, w.before _ s = true := fun w h => atoms_spec (ws := (Cond.code yX4_order cX4_order 3 (some .int) :: lw_g)) B.pre w (List.mem_cons_of_mem _ h)
  have C : g_C RX4 cX4_order 3 (some .int) True p s m _ meth c := ⟨B.exec, B.bytes, hml, findClass_of_methodNamed B.named, hts, B.returns, B.notSynchronized, trivial⟩
  obtain ⟨hx, hb, hml, hown, hts, hr, hlocks, hin⟩ := id C
  have hS : va_S (g_A D) s.heap s.heap [] := va_S.rf
  have hl := lv_entry ([.ref x0, .ref x1, .ref x2]) (n := 3) (Nat.le_of_ble_eq_true rfl)
  rw [lg_entry_eq]
  generalize (lg_sl ([.ref x0, .ref x1, .ref x2]) ++ List.replicate (3 - (lg_sl ([.ref x0, .ref x1, .ref x2])).length) Slot.unset).toArray = ls at hl ⊢
  have hl : lv_has ls 3 [(0, .ref x0), (1, .ref x1), (2, .ref x2)] := hl
  unfold fX4_order at hf
  refine lv_aload_n hx hb dX4_order_0 rfl (lv_at hl 1 rfl) ?_
  obtain ⟨v1, hv1, hf⟩ := g_bind hf
  refine g_geti hx hb hts hown hK hG hv1 rfl iX2 (by decide) flX4_51 dX4_order_1 ?_
  refine lv_aload_n hx hb dX4_order_4 rfl (lv_at hl 2 rfl) ?_
  obtain ⟨v2, hv2, hf⟩ := g_bind hf
  refine g_geti hx hb hts hown hK hG hv2 rfl iX2 (by decide) flX4_51 dX4_order_5 ?_
  refine lv_icmp_eq (tgt := 24) hx hb dX4_order_8 (by decide) (fun c3 => ?_) (fun c3 => ?_)
  · rw [if_pos c3] at hf
    refine lv_aload_n hx hb dX4_order_24 rfl (lv_at hl 0 rfl) ?_
    obtain ⟨v4, hv4, hf⟩ := g_bind hf
    refine g_getr hx hb hts hown hK hG hv4 rfl iX4 (by decide) flX4_45 dX4_order_25 ?_
    refine lv_aload_n hx hb dX4_order_28 rfl (lv_at hl 1 rfl) ?_
    obtain ⟨v5, hv5, hf⟩ := g_bind hf
    refine g_getr hx hb hts hown hK hG hv5 rfl iX2 (by decide) flX4_59 dX4_order_29 ?_
    refine lv_aload_n hx hb dX4_order_32 rfl (lv_at hl 2 rfl) ?_
    obtain ⟨v6, hv6, hf⟩ := g_bind hf
    refine g_getr hx hb hts hown hK hG hv6 rfl iX2 (by decide) flX4_62 dX4_order_33 ?_
    obtain ⟨o7, ho7, hf⟩ := g_bind hf
    obtain ⟨r8, hr8, hf⟩ := g_bind hf
    refine g_callV hx hb hml hl.1 hts hown hK hG hS (As := [.ref v5, .ref v6]) (rest := []) (tX3_becomeProduct l D hr8) vX3_becomeProduct mlX4_104 ho7 rfl rfl rfl rfl ⟨Nat.le_of_ble_eq_true rfl, Nat.le_of_ble_eq_true rfl⟩ rfl rfl (Nat.le_of_ble_eq_true rfl) ⟨Nat.le_of_ble_eq_true rfl, Nat.le_of_ble_eq_true rfl⟩ dX4_order_36 (fun H locs hG hS => ?_)
    refine lv_aload_n hx hb dX4_order_39 rfl (lv_at hl 0 rfl) ?_
    obtain ⟨v9, hv9, hf⟩ := g_bind hf
    refine g_getr hx hb hts hown hK hG hv9 rfl iX4 (by decide) flX4_48 dX4_order_40 ?_
    refine lv_aload_n hx hb dX4_order_43 rfl (lv_at hl 2 rfl) ?_
    obtain ⟨v10, hv10, hf⟩ := g_bind hf
    refine g_getr hx hb hts hown hK hG hv10 rfl iX2 (by decide) flX4_59 dX4_order_44 ?_
    refine lv_aload_n hx hb dX4_order_47 rfl (lv_at hl 1 rfl) ?_
    obtain ⟨v11, hv11, hf⟩ := g_bind hf
    refine g_getr hx hb hts hown hK hG hv11 rfl iX2 (by decide) flX4_62 dX4_order_48 ?_
    obtain ⟨o12, ho12, hf⟩ := g_bind hf
    obtain ⟨r13, hr13, hf⟩ := g_bind hf
    refine g_callV hx hb hml hl.1 hts hown hK hG hS (As := [.ref v10, .ref v11]) (rest := []) (tX3_becomeProduct l D hr13) vX3_becomeProduct mlX4_104 ho12 rfl rfl rfl rfl ⟨Nat.le_of_ble_eq_true rfl, Nat.le_of_ble_eq_true rfl⟩ rfl rfl (Nat.le_of_ble_eq_true rfl) ⟨Nat.le_of_ble_eq_true rfl, Nat.le_of_ble_eq_true rfl⟩ dX4_order_51 (fun H locs hG hS => ?_)
    refine lv_aload_n hx hb dX4_order_54 rfl (lv_at hl 1 rfl) ?_
    obtain ⟨v14, hv14, hf⟩ := g_bind hf
    refine g_geti hx hb hts hown hK hG hv14 rfl iX2 (by decide) flX4_51 dX4_order_55 ?_
    refine lv_if_eq (tgt := 75) hx hb dX4_order_58 (by decide) (fun c15 => ?_) (fun c15 => ?_)
    · rw [if_pos c15] at hf
      refine lv_aload_n hx hb dX4_order_75 rfl (lv_at hl 0 rfl) ?_
      obtain ⟨v16, hv16, hf⟩ := g_bind hf
      refine g_getr hx hb hts hown hK hG hv16 rfl iX4 (by decide) flX4_45 dX4_order_76 ?_
      refine lv_aload_n hx hb dX4_order_79 rfl (lv_at hl 0 rfl) ?_
      obtain ⟨v17, hv17, hf⟩ := g_bind hf
      refine g_getr hx hb hts hown hK hG hv17 rfl iX4 (by decide) flX4_48 dX4_order_80 ?_
      obtain ⟨o18, ho18, hf⟩ := g_bind hf
      obtain ⟨r19, hr19, hf⟩ := g_bind hf
      refine g_callV hx hb hml hl.1 hts hown hK hG hS (As := [.ref v17]) (rest := []) (tX3_order l D hr19) vX3_order mlX4_108 ho18 rfl rfl rfl rfl ⟨Nat.le_of_ble_eq_true rfl, Nat.le_of_ble_eq_true rfl⟩ rfl rfl (Nat.le_of_ble_eq_true rfl) ⟨Nat.le_of_ble_eq_true rfl, Nat.le_of_ble_eq_true rfl⟩ dX4_order_83 (fun H locs hG hS => ?_)
      exact tBX4_order_86 C hK   _ _ _ _ _ hG hS (lv_sub hl [] rfl) hf
    · rw [if_neg c15] at hf
      refine lv_aload_n hx hb dX4_order_61 rfl (lv_at hl 0 rfl) ?_
      obtain ⟨v20, hv20, hf⟩ := g_bind hf
      refine g_getr hx hb hts hown hK hG hv20 rfl iX4 (by decide) flX4_48 dX4_order_62 ?_
      refine lv_aload_n hx hb dX4_order_65 rfl (lv_at hl 0 rfl) ?_
      obtain ⟨v21, hv21, hf⟩ := g_bind hf
      refine g_getr hx hb hts hown hK hG hv21 rfl iX4 (by decide) flX4_45 dX4_order_66 ?_
      obtain ⟨o22, ho22, hf⟩ := g_bind hf
      obtain ⟨r23, hr23, hf⟩ := g_bind hf
      refine g_callV hx hb hml hl.1 hts hown hK hG hS (As := [.ref v21]) (rest := []) (tX3_order l D hr23) vX3_order mlX4_108 ho22 rfl rfl rfl rfl ⟨Nat.le_of_ble_eq_true rfl, Nat.le_of_ble_eq_true rfl⟩ rfl rfl (Nat.le_of_ble_eq_true rfl) ⟨Nat.le_of_ble_eq_true rfl, Nat.le_of_ble_eq_true rfl⟩ dX4_order_69 (fun H locs hG hS => ?_)
      refine lv_goto (tgt := 86) hx hb dX4_order_72 (by decide) ?_
      exact tBX4_order_86 C hK   _ _ _ _ _ hG hS (lv_sub hl [] rfl) hf
  · rw [if_neg c3] at hf
    refine lv_aload_n hx hb dX4_order_11 rfl (lv_at hl 1 rfl) ?_
    obtain ⟨v24, hv24, hf⟩ := g_bind hf
    refine g_geti hx hb hts hown hK hG hv24 rfl iX2 (by decide) flX4_51 dX4_order_12 ?_
    refine lv_if_eq (tgt := 22) hx hb dX4_order_15 (by decide) (fun c25 => ?_) (fun c25 => ?_)
    · rw [if_pos c25] at hf
      refine lv_iconst (v := 1) hx hb dX4_order_22 (by decide +kernel) ?_
      exact tBX4_order_23 C hK   _ _ _ _ _ hG hS (lv_sub hl [] rfl) hf
    · rw [if_neg c25] at hf
      refine lv_iconst (v := (-1)) hx hb dX4_order_18 (by decide +kernel) ?_
      refine lv_goto (tgt := 23) hx hb dX4_order_19 (by decide) ?_
      exact tBX4_order_23 C hK   _ _ _ _ _ hG hS (lv_sub hl [] rfl) hf

def rmX4_growBy : Room := { frames := 3, cells := 0, slots := 0, locals := 62 }
noncomputable def BX4_growBy_87  (σ : g_S) (x0 : Nat) (y0 : Nat) (y1 : Int32) : Option (Int32 × g_S) := (g_o σ 2 y0).bind fun o28 => (fX2_sign σ y0 y1).bind fun r29 => (g_fr r29 4 x0 0).bind fun v30 => (g_o r29 2 v30).bind fun o31 => (fX2_fits r29 v30).bind fun r32 => g_if (r32.1 = 0 ∨ r32.1 = 1) <| some (r32.1, r32.2)
noncomputable def fX4_growBy (σ : g_S) (x0 : Nat) (x1 : Nat) : Option (Int32 × g_S) := (g_fr σ 4 x0 6).bind fun v1 => (g_fr σ 4 x0 0).bind fun v2 => (g_fr σ 2 v2 0).bind fun v3 => (g_fr σ 2 x1 0).bind fun v4 => (g_o σ 3 v1).bind fun o5 => (fX3_becomeProduct σ v1 v3 v4).bind fun r6 => (g_fr r6 4 x0 7).bind fun v7 => (g_fr r6 4 x0 0).bind fun v8 => (g_fr r6 2 v8 1).bind fun v9 => (g_fr r6 2 x1 1).bind fun v10 => (g_o r6 3 v7).bind fun o11 => (fX3_becomeProduct r6 v7 v9 v10).bind fun r12 => (g_fr r12 4 x0 0).bind fun v13 => (g_fr r12 2 v13 0).bind fun v14 => (g_fr r12 4 x0 6).bind fun v15 => (g_o r12 3 v14).bind fun o16 => (fX3_become r12 v14 v15).bind fun r17 => (g_fr r17 4 x0 0).bind fun v18 => (g_fr r17 2 v18 1).bind fun v19 => (g_fr r17 4 x0 7).bind fun v20 => (g_o r17 3 v19).bind fun o21 => (fX3_become r17 v19 v20).bind fun r22 => (g_fr r22 4 x0 0).bind fun v23 => (g_fr r22 4 x0 0).bind fun v24 => (g_fi r22 2 v24 2).bind fun v25 => (g_fi r22 2 x1 2).bind fun v26 => if v25 = v26 then (BX4_growBy_87 r22 x0 v23 0) else (BX4_growBy_87 r22 x0 v23 1)
set_option maxHeartbeats 4000000 in
set_option maxRecDepth 100000 in
theorem tBX4_growBy_87 {p : Program} {l : Launch} {e : Env} {s : State} {m : MethodId} {args : Array Value} {below : List Frame} {meth : Method} {c : Code} {D : g_D} {out : Int32 × g_S} (C : g_C RX4 cX4_growBy 2 (some .boolean) True p s m args meth c) (hK : g_K D s)  : ∀ (σ : g_S) (x0 : Nat) (y0 : Nat) (y1 : Int32) (H : Heap) (locs : List Loc) (ls : Array Slot), g_H D σ H → va_S (g_A D) s.heap H locs → lv_has ls 2 [(0, .ref x0)] → BX4_growBy_87  σ x0 y0 y1 = some out → W p l e rmX4_growBy s m args below meth c H locs 0 0 (MQ below (g_Q D out.2 (some (.int out.1))) args s 0 0 (g_A D)) (F0 m 87 ls [.int y1, .ref y0]) := by
  obtain ⟨hx, hb, hml, hown, hts, hr, hlocks, hin⟩ := id C
  intro σ x0 y0 y1 H locs ls hG hS hl hf
  unfold BX4_growBy_87 at hf
  obtain ⟨o28, ho28, hf⟩ := g_bind hf
  obtain ⟨r29, hr29, hf⟩ := g_bind hf
  refine g_callV hx hb hml hl.1 hts hown hK hG hS (As := [.int y1]) (rest := []) (tX2_sign l D hr29) vX2_sign mlX4_96 ho28 rfl rfl rfl rfl ⟨Nat.le_of_ble_eq_true rfl, Nat.le_of_ble_eq_true rfl⟩ rfl rfl (Nat.le_of_ble_eq_true rfl) ⟨Nat.le_of_ble_eq_true rfl, Nat.le_of_ble_eq_true rfl⟩ dX4_growBy_87 (fun H locs hG hS => ?_)
  refine lv_aload_n hx hb dX4_growBy_90 rfl (lv_at hl 0 rfl) ?_
  obtain ⟨v30, hv30, hf⟩ := g_bind hf
  refine g_getr hx hb hts hown hK hG hv30 rfl iX4 (by decide) flX4_14 dX4_growBy_91 ?_
  obtain ⟨o31, ho31, hf⟩ := g_bind hf
  obtain ⟨r32, hr32, hf⟩ := g_bind hf
  refine g_callV hx hb hml hl.1 hts hown hK hG hS (As := []) (rest := []) (tX2_fits l D hr32) vX2_fits mlX4_132 ho31 rfl rfl rfl rfl ⟨Nat.le_of_ble_eq_true rfl, Nat.le_of_ble_eq_true rfl⟩ rfl rfl (Nat.le_of_ble_eq_true rfl) ⟨Nat.le_of_ble_eq_true rfl, Nat.le_of_ble_eq_true rfl⟩ dX4_growBy_94 (fun H locs hG hS => ?_)
  obtain ⟨z33, hf⟩ := g_if_spec hf
  cases hf
  exact g_zret hx hb hr hlocks z33 hG hS dX4_growBy_97

set_option maxHeartbeats 4000000 in
set_option maxRecDepth 100000 in
theorem tX4_growBy (l : Launch) (D : g_D) {σ : g_S} {x0 : Nat} {x1 : Nat} {out : Int32 × g_S} (hf : fX4_growBy σ x0 x1 = some out) : Met l yX4_growBy (Cond.code yX4_growBy cX4_growBy 2 (some .boolean) :: lw_g) rmX4_growBy (g_P D σ [.ref x0, .ref x1]) (g_Q D out.2 (some (.int out.1))) 0 0 (g_A D) := by
  refine Met.ofW (cc := cX4_growBy) (maxL := 2) (ret := (some .boolean)) (by decide +kernel) rfl ?_
  intro p e s m args below meth c s₁ B hml hv
  obtain ⟨rfl, hG, hK⟩ := hv
  have hts : ∀ w ∈ lw_g, w.before _ s = true := fun w h => atoms_spec (ws := (Cond.code yX4_growBy cX4_growBy 2 (some .boolean) :: lw_g)) B.pre w (List.mem_cons_of_mem _ h)
  have C : g_C RX4 cX4_growBy 2 (some .boolean) True p s m _ meth c := ⟨B.exec, B.bytes, hml, findClass_of_methodNamed B.named, hts, B.returns, B.notSynchronized, trivial⟩
  obtain ⟨hx, hb, hml, hown, hts, hr, hlocks, hin⟩ := id C
  have hS : va_S (g_A D) s.heap s.heap [] := va_S.rf
  have hl := lv_entry ([.ref x0, .ref x1]) (n := 2) (Nat.le_of_ble_eq_true rfl)
  rw [lg_entry_eq]
  generalize (lg_sl ([.ref x0, .ref x1]) ++ List.replicate (2 - (lg_sl ([.ref x0, .ref x1])).length) Slot.unset).toArray = ls at hl ⊢
  have hl : lv_has ls 2 [(0, .ref x0), (1, .ref x1)] := hl
  unfold fX4_growBy at hf
  refine lv_aload_n hx hb dX4_growBy_0 rfl (lv_at hl 0 rfl) ?_
  obtain ⟨v1, hv1, hf⟩ := g_bind hf
  refine g_getr hx hb hts hown hK hG hv1 rfl iX4 (by decide) flX4_45 dX4_growBy_1 ?_
  refine lv_aload_n hx hb dX4_growBy_4 rfl (lv_at hl 0 rfl) ?_
  obtain ⟨v2, hv2, hf⟩ := g_bind hf
  refine g_getr hx hb hts hown hK hG hv2 rfl iX4 (by decide) flX4_14 dX4_growBy_5 ?_
  obtain ⟨v3, hv3, hf⟩ := g_bind hf
  refine g_getr hx hb hts hown hK hG hv3 rfl iX2 (by decide) flX4_59 dX4_growBy_8 ?_
  refine lv_aload_n hx hb dX4_growBy_11 rfl (lv_at hl 1 rfl) ?_
  obtain ⟨v4, hv4, hf⟩ := g_bind hf
  refine g_getr hx hb hts hown hK hG hv4 rfl iX2 (by decide) flX4_59 dX4_growBy_12 ?_
  obtain ⟨o5, ho5, hf⟩ := g_bind hf
  obtain ⟨r6, hr6, hf⟩ := g_bind hf
  refine g_callV hx hb hml hl.1 hts hown hK hG hS (As := [.ref v3, .ref v4]) (rest := []) (tX3_becomeProduct l D hr6) vX3_becomeProduct mlX4_104 ho5 rfl rfl rfl rfl ⟨Nat.le_of_ble_eq_true rfl, Nat.le_of_ble_eq_true rfl⟩ rfl rfl (Nat.le_of_ble_eq_true rfl) ⟨Nat.le_of_ble_eq_true rfl, Nat.le_of_ble_eq_true rfl⟩ dX4_growBy_15 (fun H locs hG hS => ?_)
  refine lv_aload_n hx hb dX4_growBy_18 rfl (lv_at hl 0 rfl) ?_
  obtain ⟨v7, hv7, hf⟩ := g_bind hf
  refine g_getr hx hb hts hown hK hG hv7 rfl iX4 (by decide) flX4_48 dX4_growBy_19 ?_
  refine lv_aload_n hx hb dX4_growBy_22 rfl (lv_at hl 0 rfl) ?_
  obtain ⟨v8, hv8, hf⟩ := g_bind hf
  refine g_getr hx hb hts hown hK hG hv8 rfl iX4 (by decide) flX4_14 dX4_growBy_23 ?_
  obtain ⟨v9, hv9, hf⟩ := g_bind hf
  refine g_getr hx hb hts hown hK hG hv9 rfl iX2 (by decide) flX4_62 dX4_growBy_26 ?_
  refine lv_aload_n hx hb dX4_growBy_29 rfl (lv_at hl 1 rfl) ?_
  obtain ⟨v10, hv10, hf⟩ := g_bind hf
  refine g_getr hx hb hts hown hK hG hv10 rfl iX2 (by decide) flX4_62 dX4_growBy_30 ?_
  obtain ⟨o11, ho11, hf⟩ := g_bind hf
  obtain ⟨r12, hr12, hf⟩ := g_bind hf
  refine g_callV hx hb hml hl.1 hts hown hK hG hS (As := [.ref v9, .ref v10]) (rest := []) (tX3_becomeProduct l D hr12) vX3_becomeProduct mlX4_104 ho11 rfl rfl rfl rfl ⟨Nat.le_of_ble_eq_true rfl, Nat.le_of_ble_eq_true rfl⟩ rfl rfl (Nat.le_of_ble_eq_true rfl) ⟨Nat.le_of_ble_eq_true rfl, Nat.le_of_ble_eq_true rfl⟩ dX4_growBy_33 (fun H locs hG hS => ?_)
  refine lv_aload_n hx hb dX4_growBy_36 rfl (lv_at hl 0 rfl) ?_
  obtain ⟨v13, hv13, hf⟩ := g_bind hf
  refine g_getr hx hb hts hown hK hG hv13 rfl iX4 (by decide) flX4_14 dX4_growBy_37 ?_
  obtain ⟨v14, hv14, hf⟩ := g_bind hf
  refine g_getr hx hb hts hown hK hG hv14 rfl iX2 (by decide) flX4_59 dX4_growBy_40 ?_
  refine lv_aload_n hx hb dX4_growBy_43 rfl (lv_at hl 0 rfl) ?_
  obtain ⟨v15, hv15, hf⟩ := g_bind hf
  refine g_getr hx hb hts hown hK hG hv15 rfl iX4 (by decide) flX4_45 dX4_growBy_44 ?_
  obtain ⟨o16, ho16, hf⟩ := g_bind hf
  obtain ⟨r17, hr17, hf⟩ := g_bind hf
  refine g_callV hx hb hml hl.1 hts hown hK hG hS (As := [.ref v15]) (rest := []) (tX3_become l D hr17) vX3_become mlX4_121 ho16 rfl rfl rfl rfl ⟨Nat.le_of_ble_eq_true rfl, Nat.le_of_ble_eq_true rfl⟩ rfl rfl (Nat.le_of_ble_eq_true rfl) ⟨Nat.le_of_ble_eq_true rfl, Nat.le_of_ble_eq_true rfl⟩ dX4_growBy_47 (fun H locs hG hS => ?_)
  refine lv_aload_n hx hb dX4_growBy_50 rfl (lv_at hl 0 rfl) ?_
  obtain ⟨v18, hv18, hf⟩ := g_bind hf
  refine g_getr hx hb hts hown hK hG hv18 rfl iX4 (by decide) flX4_14 dX4_growBy_51 ?_
  obtain ⟨v19, hv19, hf⟩ := g_bind hf
  refine g_getr hx hb hts hown hK hG hv19 rfl iX2 (by decide) flX4_62 dX4_growBy_54 ?_
  refine lv_aload_n hx hb dX4_growBy_57 rfl (lv_at hl 0 rfl) ?_
  obtain ⟨v20, hv20, hf⟩ := g_bind hf
  refine g_getr hx hb hts hown hK hG hv20 rfl iX4 (by decide) flX4_48 dX4_growBy_58 ?_
  obtain ⟨o21, ho21, hf⟩ := g_bind hf
  obtain ⟨r22, hr22, hf⟩ := g_bind hf
  refine g_callV hx hb hml hl.1 hts hown hK hG hS (As := [.ref v20]) (rest := []) (tX3_become l D hr22) vX3_become mlX4_121 ho21 rfl rfl rfl rfl ⟨Nat.le_of_ble_eq_true rfl, Nat.le_of_ble_eq_true rfl⟩ rfl rfl (Nat.le_of_ble_eq_true rfl) ⟨Nat.le_of_ble_eq_true rfl, Nat.le_of_ble_eq_true rfl⟩ dX4_growBy_61 (fun H locs hG hS => ?_)
  refine lv_aload_n hx hb dX4_growBy_64 rfl (lv_at hl 0 rfl) ?_
  obtain ⟨v23, hv23, hf⟩ := g_bind hf
  refine g_getr hx hb hts hown hK hG hv23 rfl iX4 (by decide) flX4_14 dX4_growBy_65 ?_
  refine lv_aload_n hx hb dX4_growBy_68 rfl (lv_at hl 0 rfl) ?_
  obtain ⟨v24, hv24, hf⟩ := g_bind hf
  refine g_getr hx hb hts hown hK hG hv24 rfl iX4 (by decide) flX4_14 dX4_growBy_69 ?_
  obtain ⟨v25, hv25, hf⟩ := g_bind hf
  refine g_geti hx hb hts hown hK hG hv25 rfl iX2 (by decide) flX4_51 dX4_growBy_72 ?_
  refine lv_aload_n hx hb dX4_growBy_75 rfl (lv_at hl 1 rfl) ?_
  obtain ⟨v26, hv26, hf⟩ := g_bind hf
  refine g_geti hx hb hts hown hK hG hv26 rfl iX2 (by decide) flX4_51 dX4_growBy_76 ?_
  refine lv_icmp_eq (tgt := 86) hx hb dX4_growBy_79 (by decide) (fun c27 => ?_) (fun c27 => ?_)
  · rw [if_pos c27] at hf
    refine lv_iconst (v := 0) hx hb dX4_growBy_86 (by decide +kernel) ?_
    exact tBX4_growBy_87 C hK   _ _ _ _ _ _ _ hG hS (lv_sub hl [0] rfl) hf
  · rw [if_neg c27] at hf
    refine lv_iconst (v := 1) hx hb dX4_growBy_82 (by decide +kernel) ?_
    refine lv_goto (tgt := 87) hx hb dX4_growBy_83 (by decide) ?_
    exact tBX4_growBy_87 C hK   _ _ _ _ _ _ _ hG hS (lv_sub hl [0] rfl) hf

def rmX4_raise : Room := { frames := 4, cells := 0, slots := 0, locals := 83 }
noncomputable def BX4_raise_39  (σ : g_S)  : Option (Int32 × g_S) := some ((-1), σ)
noncomputable def BX4_raise_102 (k62 : g_S → Nat → Nat → Int32 → Int32 → Option (Int32 × g_S)) (σ : g_S) (x0 : Nat) (x1 : Nat) (x3 : Int32) (x4 : Int32) : Option (Int32 × g_S) := g_let (x4 + (-1)) fun v25 => k62 σ x0 x1 x3 v25
noncomputable def LX4_raise_62  : Nat → g_S → Nat → Nat → Int32 → Int32 → Option (Int32 × g_S)
  | 0, _, _, _, _, _ => none
  | n + 1, σ, x0, x1, x3, x4 => if x4 < 0 then (some (0, σ)) else ((g_fr σ 4 x0 0).bind fun v20 => (g_o σ 4 x0).bind fun o21 => (fX4_growBy σ x0 v20).bind fun r22 => if r22.1 = 0 then (some ((-3), r22.2)) else (if (g_ishr x3 x4) &&& 1 = 1 then ((g_o r22.2 4 x0).bind fun o26 => (fX4_growBy r22.2 x0 x1).bind fun r27 => if r27.1 = 0 then (some ((-3), r27.2)) else (BX4_raise_102 (LX4_raise_62  n) r27.2 x0 x1 x3 x4)) else (BX4_raise_102 (LX4_raise_62  n) r22.2 x0 x1 x3 x4)))
noncomputable def fX4_raise (σ : g_S) (x0 : Nat) (x1 : Nat) (x2 : Nat) : Option (Int32 × g_S) := (g_o σ 2 x2).bind fun o1 => (fX2_isWhole σ x2).bind fun r2 => if r2.1 = 0 then (BX4_raise_39 r2.2) else ((g_fi r2.2 2 x2 2).bind fun v4 => if v4 = 0 then ((g_fr r2.2 2 x2 0).bind fun v6 => (g_fi r2.2 3 v6 1).bind fun v7 => if 1 < v7 then (BX4_raise_39 r2.2) else ((g_fr r2.2 2 x2 0).bind fun v9 => (g_o r2.2 3 v9).bind fun o10 => (fX3_limbAt r2.2 v9 0).bind fun r11 => if r11.1 ≤ 10000 then ((g_fr r11.2 2 x2 0).bind fun v13 => (g_o r11.2 3 v13).bind fun o14 => (fX3_limbAt r11.2 v13 0).bind fun r15 => (g_fr r15.2 4 x0 0).bind fun v16 => (g_o r15.2 2 v16).bind fun o17 => (fX2_becomeWhole r15.2 v16 1).bind fun r18 => LX4_raise_62 g_fuel r18 x0 x1 r15.1 13) else (BX4_raise_39 r11.2))) else (BX4_raise_39 r2.2))
set_option maxHeartbeats 4000000 in
set_option maxRecDepth 100000 in
theorem tBX4_raise_39 {p : Program} {l : Launch} {e : Env} {s : State} {m : MethodId} {args : Array Value} {below : List Frame} {meth : Method} {c : Code} {D : g_D} {out : Int32 × g_S} (C : g_C RX4 cX4_raise 5 (some .int) True p s m args meth c) (hK : g_K D s)  : ∀ (σ : g_S)  (H : Heap) (locs : List Loc) (ls : Array Slot), g_H D σ H → va_S (g_A D) s.heap H locs → lv_has ls 5 [] → BX4_raise_39  σ  = some out → W p l e rmX4_raise s m args below meth c H locs 0 0 (MQ below (g_Q D out.2 (some (.int out.1))) args s 0 0 (g_A D)) (F0 m 39 ls []) := by
  obtain ⟨hx, hb, hml, hown, hts, hr, hlocks, hin⟩ := id C
  intro σ  H locs ls hG hS hl hf
  unfold BX4_raise_39 at hf
  refine lv_iconst (v := (-1)) hx hb dX4_raise_39 (by decide +kernel) ?_
  cases hf
  exact g_iret hx hb hr hlocks hG hS dX4_raise_40

set_option maxHeartbeats 4000000 in
set_option maxRecDepth 100000 in
theorem tBX4_raise_102 {p : Program} {l : Launch} {e : Env} {s : State} {m : MethodId} {args : Array Value} {below : List Frame} {meth : Method} {c : Code} {D : g_D} {out : Int32 × g_S} (C : g_C RX4 cX4_raise 5 (some .int) True p s m args meth c) (hK : g_K D s) (k62 : g_S → Nat → Nat → Int32 → Int32 → Option (Int32 × g_S)) (hk62 : ∀ (σ : g_S) (x0 : Nat) (x1 : Nat) (x3 : Int32) (x4 : Int32) (H : Heap) (locs : List Loc) (ls : Array Slot), g_H D σ H → va_S (g_A D) s.heap H locs → lv_has ls 5 [(0, .ref x0), (1, .ref x1), (3, .int x3), (4, .int x4)] → k62 σ x0 x1 x3 x4 = some out → W p l e rmX4_raise s m args below meth c H locs 0 0 (MQ below (g_Q D out.2 (some (.int out.1))) args s 0 0 (g_A D)) (F0 m 62 ls [])) : ∀ (σ : g_S) (x0 : Nat) (x1 : Nat) (x3 : Int32) (x4 : Int32) (H : Heap) (locs : List Loc) (ls : Array Slot), g_H D σ H → va_S (g_A D) s.heap H locs → lv_has ls 5 [(0, .ref x0), (1, .ref x1), (3, .int x3), (4, .int x4)] → BX4_raise_102 k62 σ x0 x1 x3 x4 = some out → W p l e rmX4_raise s m args below meth c H locs 0 0 (MQ below (g_Q D out.2 (some (.int out.1))) args s 0 0 (g_A D)) (F0 m 102 ls []) := by
  obtain ⟨hx, hb, hml, hown, hts, hr, hlocks, hin⟩ := id C
  intro σ x0 x1 x3 x4 H locs ls hG hS hl hf
  unfold BX4_raise_102 at hf
  obtain ⟨v25, ev25, hf⟩ := g_let_spec hf
  refine lv_iinc (v := v25) (lv' := [(4, .int v25), (0, .ref x0), (1, .ref x1), (3, .int x3)]) hx hb dX4_raise_102 hl (k := 3) rfl (by rw [← ev25]; rfl) (by decide) rfl (fun ls hl => ?_)
  refine lv_goto (tgt := 62) hx hb dX4_raise_105 (by decide) ?_
  exact hk62 _ _ _ _ _ _ _ _ hG hS (lv_sub hl [1, 2, 3, 0] rfl) hf

set_option maxHeartbeats 4000000 in
set_option maxRecDepth 100000 in
theorem tLX4_raise_62 {p : Program} {l : Launch} {e : Env} {s : State} {m : MethodId} {args : Array Value} {below : List Frame} {meth : Method} {c : Code} {D : g_D} {out : Int32 × g_S} (C : g_C RX4 cX4_raise 5 (some .int) True p s m args meth c) (hK : g_K D s)  : ∀ (n : Nat) (σ : g_S) (x0 : Nat) (x1 : Nat) (x3 : Int32) (x4 : Int32) (H : Heap) (locs : List Loc) (ls : Array Slot), g_H D σ H → va_S (g_A D) s.heap H locs → lv_has ls 5 [(0, .ref x0), (1, .ref x1), (3, .int x3), (4, .int x4)] → LX4_raise_62  n σ x0 x1 x3 x4 = some out → W p l e rmX4_raise s m args below meth c H locs 0 0 (MQ below (g_Q D out.2 (some (.int out.1))) args s 0 0 (g_A D)) (F0 m 62 ls [])  := by
  obtain ⟨hx, hb, hml, hown, hts, hr, hlocks, hin⟩ := id C
  intro n
  induction n with
  | zero => intro σ x0 x1 x3 x4 H locs ls hG hS hl hf; cases hf
  | succ n ih =>
    intro σ x0 x1 x3 x4 H locs ls hG hS hl hf
    have hf : (if x4 < 0 then (some (0, σ)) else ((g_fr σ 4 x0 0).bind fun v20 => (g_o σ 4 x0).bind fun o21 => (fX4_growBy σ x0 v20).bind fun r22 => if r22.1 = 0 then (some ((-3), r22.2)) else (if (g_ishr x3 x4) &&& 1 = 1 then ((g_o r22.2 4 x0).bind fun o26 => (fX4_growBy r22.2 x0 x1).bind fun r27 => if r27.1 = 0 then (some ((-3), r27.2)) else (BX4_raise_102 (LX4_raise_62  n) r27.2 x0 x1 x3 x4)) else (BX4_raise_102 (LX4_raise_62  n) r22.2 x0 x1 x3 x4)))) = some out := hf
    have hk62 := ih
    refine lv_iload hx hb dX4_raise_62 (lv_at hl 3 rfl) ?_
    refine lv_if_lt (tgt := 108) hx hb dX4_raise_64 (by decide) (fun c19 => ?_) (fun c19 => ?_)
    · rw [if_pos c19] at hf
      refine lv_iconst (v := 0) hx hb dX4_raise_108 (by decide +kernel) ?_
      cases hf
      exact g_iret hx hb hr hlocks hG hS dX4_raise_109
    · rw [if_neg c19] at hf
      refine lv_aload_n hx hb dX4_raise_67 rfl (lv_at hl 0 rfl) ?_
      refine lv_aload_n hx hb dX4_raise_68 rfl (lv_at hl 0 rfl) ?_
      obtain ⟨v20, hv20, hf⟩ := g_bind hf
      refine g_getr hx hb hts hown hK hG hv20 rfl iX4 (by decide) flX4_14 dX4_raise_69 ?_
      obtain ⟨o21, ho21, hf⟩ := g_bind hf
      obtain ⟨r22, hr22, hf⟩ := g_bind hf
      refine g_callV hx hb hml hl.1 hts hown hK hG hS (As := [.ref v20]) (rest := []) (tX4_growBy l D hr22) vX4_growBy mlX4_173 ho21 rfl rfl rfl rfl ⟨Nat.le_of_ble_eq_true rfl, Nat.le_of_ble_eq_true rfl⟩ rfl rfl (Nat.le_of_ble_eq_true rfl) ⟨Nat.le_of_ble_eq_true rfl, Nat.le_of_ble_eq_true rfl⟩ dX4_raise_72 (fun H locs hG hS => ?_)
      refine lv_if_ne (tgt := 81) hx hb dX4_raise_75 (by decide) (fun c23 => ?_) (fun c23 => ?_)
      · rw [if_neg c23] at hf
        refine lv_iload_n hx hb dX4_raise_81 rfl (lv_at hl 2 rfl) ?_
        refine lv_iload hx hb dX4_raise_82 (lv_at hl 3 rfl) ?_
        refine lv_ishr hx hb dX4_raise_84 ?_
        refine g_topi (y := g_ishr x3 x4) rfl ?_
        refine lv_iconst (v := 1) hx hb dX4_raise_85 (by decide +kernel) ?_
        refine lv_iand hx hb dX4_raise_86 ?_
        refine lv_iconst (v := 1) hx hb dX4_raise_87 (by decide +kernel) ?_
        refine lv_icmp_ne (tgt := 102) hx hb dX4_raise_88 (by decide) (fun c24 => ?_) (fun c24 => ?_)
        · rw [if_neg c24] at hf
          exact tBX4_raise_102 C hK (LX4_raise_62  n) hk62  _ _ _ _ _ _ _ _ hG hS (lv_sub hl [0, 1, 2, 3] rfl) hf
        · rw [if_pos c24] at hf
          refine lv_aload_n hx hb dX4_raise_91 rfl (lv_at hl 0 rfl) ?_
          refine lv_aload_n hx hb dX4_raise_92 rfl (lv_at hl 1 rfl) ?_
          obtain ⟨o26, ho26, hf⟩ := g_bind hf
          obtain ⟨r27, hr27, hf⟩ := g_bind hf
          refine g_callV hx hb hml hl.1 hts hown hK hG hS (As := [.ref x1]) (rest := []) (tX4_growBy l D hr27) vX4_growBy mlX4_173 ho26 rfl rfl rfl rfl ⟨Nat.le_of_ble_eq_true rfl, Nat.le_of_ble_eq_true rfl⟩ rfl rfl (Nat.le_of_ble_eq_true rfl) ⟨Nat.le_of_ble_eq_true rfl, Nat.le_of_ble_eq_true rfl⟩ dX4_raise_93 (fun H locs hG hS => ?_)
          refine lv_if_ne (tgt := 102) hx hb dX4_raise_96 (by decide) (fun c28 => ?_) (fun c28 => ?_)
          · rw [if_neg c28] at hf
            exact tBX4_raise_102 C hK (LX4_raise_62  n) hk62  _ _ _ _ _ _ _ _ hG hS (lv_sub hl [0, 1, 2, 3] rfl) hf
          · rw [if_pos c28] at hf
            refine lv_bipush (v := (-3)) hx hb dX4_raise_99 (by decide +kernel) ?_
            cases hf
            exact g_iret hx hb hr hlocks hG hS dX4_raise_101
      · rw [if_pos c23] at hf
        refine lv_bipush (v := (-3)) hx hb dX4_raise_78 (by decide +kernel) ?_
        cases hf
        exact g_iret hx hb hr hlocks hG hS dX4_raise_80

set_option maxHeartbeats 4000000 in
set_option maxRecDepth 100000 in
theorem tX4_raise (l : Launch) (D : g_D) {σ : g_S} {x0 : Nat} {x1 : Nat} {x2 : Nat} {out : Int32 × g_S} (hf : fX4_raise σ x0 x1 x2 = some out) : Met l yX4_raise (Cond.code yX4_raise cX4_raise 5 (some .int) :: lw_g) rmX4_raise (g_P D σ [.ref x0, .ref x1, .ref x2]) (g_Q D out.2 (some (.int out.1))) 0 0 (g_A D) := by
  refine Met.ofW (cc := cX4_raise) (maxL := 5) (ret := (some .int)) (by decide +kernel) rfl ?_
  intro p e s m args below meth c s₁ B hml hv
  obtain ⟨rfl, hG, hK⟩ := hv
  have hts : ∀ w ∈ lw_g, w.before _ s = true := fun w h => atoms_spec (ws := (Cond.code yX4_raise cX4_raise 5 (some .int) :: lw_g)) B.pre w (List.mem_cons_of_mem _ h)
  have C : g_C RX4 cX4_raise 5 (some .int) True p s m _ meth c := ⟨B.exec, B.bytes, hml, findClass_of_methodNamed B.named, hts, B.returns, B.notSynchronized, trivial⟩
  obtain ⟨hx, hb, hml, hown, hts, hr, hlocks, hin⟩ := id C
  have hS : va_S (g_A D) s.heap s.heap [] := va_S.rf
  have hl := lv_entry ([.ref x0, .ref x1, .ref x2]) (n := 5) (Nat.le_of_ble_eq_true rfl)
  rw [lg_entry_eq]
  generalize (lg_sl ([.ref x0, .ref x1, .ref x2]) ++ List.replicate (5 - (lg_sl ([.ref x0, .ref x1, .ref x2])).length) Slot.unset).toArray = ls at hl ⊢
  have hl : lv_has ls 5 [(0, .ref x0), (1, .ref x1), (2, .ref x2)] := hl
  unfold fX4_raise at hf
  refine lv_aload_n hx hb dX4_raise_0 rfl (lv_at hl 2 rfl) ?_
  obtain ⟨o1, ho1, hf⟩ := g_bind hf
  obtain ⟨r2, hr2, hf⟩ := g_bind hf
  refine g_callV hx hb hml hl.1 hts hown hK hG hS (As := []) (rest := []) (tX2_isWhole l D hr2) vX2_isWhole mlX4_149 ho1 rfl rfl rfl rfl ⟨Nat.le_of_ble_eq_true rfl, Nat.le_of_ble_eq_true rfl⟩ rfl rfl (Nat.le_of_ble_eq_true rfl) ⟨Nat.le_of_ble_eq_true rfl, Nat.le_of_ble_eq_true rfl⟩ dX4_raise_1 (fun H locs hG hS => ?_)
  refine lv_if_eq (tgt := 39) hx hb dX4_raise_4 (by decide) (fun c3 => ?_) (fun c3 => ?_)
  · rw [if_pos c3] at hf
    exact tBX4_raise_39 C hK   _  _ _ _ hG hS (lv_sub hl [] rfl) hf
  · rw [if_neg c3] at hf
    refine lv_aload_n hx hb dX4_raise_7 rfl (lv_at hl 2 rfl) ?_
    obtain ⟨v4, hv4, hf⟩ := g_bind hf
    refine g_geti hx hb hts hown hK hG hv4 rfl iX2 (by decide) flX4_51 dX4_raise_8 ?_
    refine lv_if_ne (tgt := 39) hx hb dX4_raise_11 (by decide) (fun c5 => ?_) (fun c5 => ?_)
    · rw [if_neg c5] at hf
      exact tBX4_raise_39 C hK   _  _ _ _ hG hS (lv_sub hl [] rfl) hf
    · rw [if_pos c5] at hf
      refine lv_aload_n hx hb dX4_raise_14 rfl (lv_at hl 2 rfl) ?_
      obtain ⟨v6, hv6, hf⟩ := g_bind hf
      refine g_getr hx hb hts hown hK hG hv6 rfl iX2 (by decide) flX4_59 dX4_raise_15 ?_
      obtain ⟨v7, hv7, hf⟩ := g_bind hf
      refine g_geti hx hb hts hown hK hG hv7 rfl iX3 (by decide) flX4_162 dX4_raise_18 ?_
      refine lv_iconst (v := 1) hx hb dX4_raise_21 (by decide +kernel) ?_
      refine lv_icmp_gt (tgt := 39) hx hb dX4_raise_22 (by decide) (fun c8 => ?_) (fun c8 => ?_)
      · rw [if_pos c8] at hf
        exact tBX4_raise_39 C hK   _  _ _ _ hG hS (lv_sub hl [] rfl) hf
      · rw [if_neg c8] at hf
        refine lv_aload_n hx hb dX4_raise_25 rfl (lv_at hl 2 rfl) ?_
        obtain ⟨v9, hv9, hf⟩ := g_bind hf
        refine g_getr hx hb hts hown hK hG hv9 rfl iX2 (by decide) flX4_59 dX4_raise_26 ?_
        refine lv_iconst (v := 0) hx hb dX4_raise_29 (by decide +kernel) ?_
        obtain ⟨o10, ho10, hf⟩ := g_bind hf
        obtain ⟨r11, hr11, hf⟩ := g_bind hf
        refine g_callV hx hb hml hl.1 hts hown hK hG hS (As := [.int 0]) (rest := []) (tX3_limbAt l D hr11) vX3_limbAt mlX4_166 ho10 rfl rfl rfl rfl ⟨Nat.le_of_ble_eq_true rfl, Nat.le_of_ble_eq_true rfl⟩ rfl rfl (Nat.le_of_ble_eq_true rfl) ⟨Nat.le_of_ble_eq_true rfl, Nat.le_of_ble_eq_true rfl⟩ dX4_raise_30 (fun H locs hG hS => ?_)
        refine lv_sipush (v := 10000) hx hb dX4_raise_33 (by decide +kernel) ?_
        refine lv_icmp_le (tgt := 41) hx hb dX4_raise_36 (by decide) (fun c12 => ?_) (fun c12 => ?_)
        · rw [if_pos c12] at hf
          refine lv_aload_n hx hb dX4_raise_41 rfl (lv_at hl 2 rfl) ?_
          obtain ⟨v13, hv13, hf⟩ := g_bind hf
          refine g_getr hx hb hts hown hK hG hv13 rfl iX2 (by decide) flX4_59 dX4_raise_42 ?_
          refine lv_iconst (v := 0) hx hb dX4_raise_45 (by decide +kernel) ?_
          obtain ⟨o14, ho14, hf⟩ := g_bind hf
          obtain ⟨r15, hr15, hf⟩ := g_bind hf
          refine g_callV hx hb hml hl.1 hts hown hK hG hS (As := [.int 0]) (rest := []) (tX3_limbAt l D hr15) vX3_limbAt mlX4_166 ho14 rfl rfl rfl rfl ⟨Nat.le_of_ble_eq_true rfl, Nat.le_of_ble_eq_true rfl⟩ rfl rfl (Nat.le_of_ble_eq_true rfl) ⟨Nat.le_of_ble_eq_true rfl, Nat.le_of_ble_eq_true rfl⟩ dX4_raise_46 (fun H locs hG hS => ?_)
          refine lv_istore_n (lv' := [(3, .int r15.1), (0, .ref x0), (1, .ref x1), (2, .ref x2)]) hx hb dX4_raise_49 rfl hl (by decide) rfl (fun ls hl => ?_)
          refine lv_aload_n hx hb dX4_raise_50 rfl (lv_at hl 1 rfl) ?_
          obtain ⟨v16, hv16, hf⟩ := g_bind hf
          refine g_getr hx hb hts hown hK hG hv16 rfl iX4 (by decide) flX4_14 dX4_raise_51 ?_
          refine lv_lconst (v := 1) hx hb dX4_raise_54 (by decide +kernel) ?_
          obtain ⟨o17, ho17, hf⟩ := g_bind hf
          obtain ⟨r18, hr18, hf⟩ := g_bind hf
          refine g_callV hx hb hml hl.1 hts hown hK hG hS (As := [.long 1]) (rest := []) (tX2_becomeWhole l D hr18) vX2_becomeWhole mlX4_170 ho17 rfl rfl rfl rfl ⟨Nat.le_of_ble_eq_true rfl, Nat.le_of_ble_eq_true rfl⟩ rfl rfl (Nat.le_of_ble_eq_true rfl) ⟨Nat.le_of_ble_eq_true rfl, Nat.le_of_ble_eq_true rfl⟩ dX4_raise_55 (fun H locs hG hS => ?_)
          refine lv_bipush (v := 13) hx hb dX4_raise_58 (by decide +kernel) ?_
          refine lv_istore (lv' := [(4, .int 13), (3, .int r15.1), (0, .ref x0), (1, .ref x1), (2, .ref x2)]) hx hb dX4_raise_60 hl (by decide) rfl (fun ls hl => ?_)
          exact tLX4_raise_62 C hK  g_fuel _ _ _ _ _ _ _ _ hG hS (lv_sub hl [2, 3, 1, 0] rfl) hf
        · rw [if_neg c12] at hf
          exact tBX4_raise_39 C hK   _  _ _ _ hG hS (lv_sub hl [] rfl) hf

def rmX4_combine : Room := { frames := 5, cells := 0, slots := 0, locals := 136 }
noncomputable def BX4_combine_82  (σ : g_S) (y0 : Nat) (y1 : Nat) (y2 : Nat) (y3 : Int32) : Option (Int32 × g_S) := (g_o σ 4 y0).bind fun o6 => (fX4_add σ y0 y1 y2 y3).bind fun r7 => some (r7.1, r7.2)
noncomputable def BX4_combine_136  (σ : g_S) (y0 : Int32) : Option (Int32 × g_S) := some (y0, σ)
noncomputable def BX4_combine_167  (σ : g_S) (y0 : Nat) (y1 : Nat) : Option (Int32 × g_S) := (g_o σ 4 y0).bind fun o33 => (fX4_choose σ y0 y1).bind fun r34 => some (r34.1, r34.2)
noncomputable def BX4_combine_186  (σ : g_S) (y0 : Nat) (y1 : Nat) : Option (Int32 × g_S) := (g_o σ 4 y0).bind fun o38 => (fX4_choose σ y0 y1).bind fun r39 => some (r39.1, r39.2)
noncomputable def fX4_combine (σ : g_S) (x0 : Nat) (x1 : Nat) (x2 : Nat) (x3 : Int32) : Option (Int32 × g_S) := if x3 = 0 then ((g_fi σ 2 x2 2).bind fun v1 => (g_o σ 4 x0).bind fun o2 => (fX4_add σ x0 x1 x2 v1).bind fun r3 => some (r3.1, r3.2)) else (if x3 = 1 then ((g_fi σ 2 x2 2).bind fun v4 => if v4 = 0 then (BX4_combine_82 σ x0 x1 x2 1) else (BX4_combine_82 σ x0 x1 x2 0)) else (if x3 = 2 then ((g_fr σ 2 x2 0).bind fun v8 => (g_fr σ 2 x2 1).bind fun v9 => (g_fi σ 2 x2 2).bind fun v10 => (g_o σ 4 x0).bind fun o11 => (fX4_multiply σ x0 x1 v8 v9 v10).bind fun r12 => some (r12.1, r12.2)) else (if x3 = 3 then ((g_fr σ 2 x2 0).bind fun v13 => (g_o σ 3 v13).bind fun o14 => (fX3_isZero σ v13).bind fun r15 => if r15.1 = 0 then ((g_fr r15.2 2 x2 1).bind fun v17 => (g_fr r15.2 2 x2 0).bind fun v18 => (g_fi r15.2 2 x2 2).bind fun v19 => (g_o r15.2 4 x0).bind fun o20 => (fX4_multiply r15.2 x0 x1 v17 v18 v19).bind fun r21 => BX4_combine_136 r21.2 r21.1) else (BX4_combine_136 r15.2 (-2))) else (if x3 = 4 then ((g_o σ 4 x0).bind fun o22 => (fX4_combineWhole σ x0 x1 x2 x3).bind fun r23 => some (r23.1, r23.2)) else (if x3 = 5 then ((g_o σ 4 x0).bind fun o24 => (fX4_combineWhole σ x0 x1 x2 x3).bind fun r25 => some (r25.1, r25.2)) else (if x3 = 6 then ((g_o σ 4 x0).bind fun o26 => (fX4_combineWhole σ x0 x1 x2 x3).bind fun r27 => some (r27.1, r27.2)) else (if x3 = 7 then ((g_o σ 4 x0).bind fun o28 => (fX4_raise σ x0 x1 x2).bind fun r29 => some (r29.1, r29.2)) else (if x3 = 8 then ((g_o σ 4 x0).bind fun o30 => (fX4_order σ x0 x1 x2).bind fun r31 => if 0 < r31.1 then (BX4_combine_167 r31.2 x0 x2) else (BX4_combine_167 r31.2 x0 x1)) else (if x3 = 9 then ((g_o σ 4 x0).bind fun o35 => (fX4_order σ x0 x1 x2).bind fun r36 => if r36.1 < 0 then (BX4_combine_186 r36.2 x0 x2) else (BX4_combine_186 r36.2 x0 x1)) else ((some ((-1), σ))))))))))))
set_option maxHeartbeats 4000000 in
set_option maxRecDepth 100000 in
theorem tBX4_combine_82 {p : Program} {l : Launch} {e : Env} {s : State} {m : MethodId} {args : Array Value} {below : List Frame} {meth : Method} {c : Code} {D : g_D} {out : Int32 × g_S} (C : g_C RX4 cX4_combine 4 (some .int) True p s m args meth c) (hK : g_K D s)  : ∀ (σ : g_S) (y0 : Nat) (y1 : Nat) (y2 : Nat) (y3 : Int32) (H : Heap) (locs : List Loc) (ls : Array Slot), g_H D σ H → va_S (g_A D) s.heap H locs → lv_has ls 4 [] → BX4_combine_82  σ y0 y1 y2 y3 = some out → W p l e rmX4_combine s m args below meth c H locs 0 0 (MQ below (g_Q D out.2 (some (.int out.1))) args s 0 0 (g_A D)) (F0 m 82 ls [.int y3, .ref y2, .ref y1, .ref y0]) := by
  obtain ⟨hx, hb, hml, hown, hts, hr, hlocks, hin⟩ := id C
  intro σ y0 y1 y2 y3 H locs ls hG hS hl hf
  unfold BX4_combine_82 at hf
  obtain ⟨o6, ho6, hf⟩ := g_bind hf
  obtain ⟨r7, hr7, hf⟩ := g_bind hf
  refine g_callV hx hb hml hl.1 hts hown hK hG hS (As := [.ref y1, .ref y2, .int y3]) (rest := []) (tX4_add l D hr7) vX4_add mlX4_55 ho6 rfl rfl rfl rfl ⟨Nat.le_of_ble_eq_true rfl, Nat.le_of_ble_eq_true rfl⟩ rfl rfl (Nat.le_of_ble_eq_true rfl) ⟨Nat.le_of_ble_eq_true rfl, Nat.le_of_ble_eq_true rfl⟩ dX4_combine_82 (fun H locs hG hS => ?_)
  cases hf
  exact g_iret hx hb hr hlocks hG hS dX4_combine_85

set_option maxHeartbeats 4000000 in
set_option maxRecDepth 100000 in
theorem tBX4_combine_136 {p : Program} {l : Launch} {e : Env} {s : State} {m : MethodId} {args : Array Value} {below : List Frame} {meth : Method} {c : Code} {D : g_D} {out : Int32 × g_S} (C : g_C RX4 cX4_combine 4 (some .int) True p s m args meth c) (hK : g_K D s)  : ∀ (σ : g_S) (y0 : Int32) (H : Heap) (locs : List Loc) (ls : Array Slot), g_H D σ H → va_S (g_A D) s.heap H locs → lv_has ls 4 [] → BX4_combine_136  σ y0 = some out → W p l e rmX4_combine s m args below meth c H locs 0 0 (MQ below (g_Q D out.2 (some (.int out.1))) args s 0 0 (g_A D)) (F0 m 136 ls [.int y0]) := by
  obtain ⟨hx, hb, hml, hown, hts, hr, hlocks, hin⟩ := id C
  intro σ y0 H locs ls hG hS hl hf
  unfold BX4_combine_136 at hf
  cases hf
  exact g_iret hx hb hr hlocks hG hS dX4_combine_136

set_option maxHeartbeats 4000000 in
set_option maxRecDepth 100000 in
theorem tBX4_combine_167 {p : Program} {l : Launch} {e : Env} {s : State} {m : MethodId} {args : Array Value} {below : List Frame} {meth : Method} {c : Code} {D : g_D} {out : Int32 × g_S} (C : g_C RX4 cX4_combine 4 (some .int) True p s m args meth c) (hK : g_K D s)  : ∀ (σ : g_S) (y0 : Nat) (y1 : Nat) (H : Heap) (locs : List Loc) (ls : Array Slot), g_H D σ H → va_S (g_A D) s.heap H locs → lv_has ls 4 [] → BX4_combine_167  σ y0 y1 = some out → W p l e rmX4_combine s m args below meth c H locs 0 0 (MQ below (g_Q D out.2 (some (.int out.1))) args s 0 0 (g_A D)) (F0 m 167 ls [.ref y1, .ref y0]) := by
  obtain ⟨hx, hb, hml, hown, hts, hr, hlocks, hin⟩ := id C
  intro σ y0 y1 H locs ls hG hS hl hf
  unfold BX4_combine_167 at hf
  obtain ⟨o33, ho33, hf⟩ := g_bind hf
  obtain ⟨r34, hr34, hf⟩ := g_bind hf
  refine g_callV hx hb hml hl.1 hts hown hK hG hS (As := [.ref y1]) (rest := []) (tX4_choose l D hr34) vX4_choose mlX4_84 ho33 rfl rfl rfl rfl ⟨Nat.le_of_ble_eq_true rfl, Nat.le_of_ble_eq_true rfl⟩ rfl rfl (Nat.le_of_ble_eq_true rfl) ⟨Nat.le_of_ble_eq_true rfl, Nat.le_of_ble_eq_true rfl⟩ dX4_combine_167 (fun H locs hG hS => ?_)
  cases hf
  exact g_iret hx hb hr hlocks hG hS dX4_combine_170

set_option maxHeartbeats 4000000 in
set_option maxRecDepth 100000 in
theorem tBX4_combine_186 {p : Program} {l : Launch} {e : Env} {s : State} {m : MethodId} {args : Array Value} {below : List Frame} {meth : Method} {c : Code} {D : g_D} {out : Int32 × g_S} (C : g_C RX4 cX4_combine 4 (some .int) True p s m args meth c) (hK : g_K D s)  : ∀ (σ : g_S) (y0 : Nat) (y1 : Nat) (H : Heap) (locs : List Loc) (ls : Array Slot), g_H D σ H → va_S (g_A D) s.heap H locs → lv_has ls 4 [] → BX4_combine_186  σ y0 y1 = some out → W p l e rmX4_combine s m args below meth c H locs 0 0 (MQ below (g_Q D out.2 (some (.int out.1))) args s 0 0 (g_A D)) (F0 m 186 ls [.ref y1, .ref y0]) := by
  obtain ⟨hx, hb, hml, hown, hts, hr, hlocks, hin⟩ := id C
  intro σ y0 y1 H locs ls hG hS hl hf
  unfold BX4_combine_186 at hf
  obtain ⟨o38, ho38, hf⟩ := g_bind hf
  obtain ⟨r39, hr39, hf⟩ := g_bind hf
  refine g_callV hx hb hml hl.1 hts hown hK hG hS (As := [.ref y1]) (rest := []) (tX4_choose l D hr39) vX4_choose mlX4_84 ho38 rfl rfl rfl rfl ⟨Nat.le_of_ble_eq_true rfl, Nat.le_of_ble_eq_true rfl⟩ rfl rfl (Nat.le_of_ble_eq_true rfl) ⟨Nat.le_of_ble_eq_true rfl, Nat.le_of_ble_eq_true rfl⟩ dX4_combine_186 (fun H locs hG hS => ?_)
  cases hf
  exact g_iret hx hb hr hlocks hG hS dX4_combine_189

set_option maxHeartbeats 4000000 in
set_option maxRecDepth 100000 in
theorem tX4_combine (l : Launch) (D : g_D) {σ : g_S} {x0 : Nat} {x1 : Nat} {x2 : Nat} {x3 : Int32} {out : Int32 × g_S} (hf : fX4_combine σ x0 x1 x2 x3 = some out) : Met l yX4_combine (Cond.code yX4_combine cX4_combine 4 (some .int) :: lw_g) rmX4_combine (g_P D σ [.ref x0, .ref x1, .ref x2, .int x3]) (g_Q D out.2 (some (.int out.1))) 0 0 (g_A D) := by
  refine Met.ofW (cc := cX4_combine) (maxL := 4) (ret := (some .int)) (by decide +kernel) rfl ?_
  intro p e s m args below meth c s₁ B hml hv
  obtain ⟨rfl, hG, hK⟩ := hv
  have hts : ∀ w ∈ lw_g, w.before _ s = true := fun w h => atoms_spec (ws := (Cond.code yX4_combine cX4_combine 4 (some .int) :: lw_g)) B.pre w (List.mem_cons_of_mem _ h)
  have C : g_C RX4 cX4_combine 4 (some .int) True p s m _ meth c := ⟨B.exec, B.bytes, hml, findClass_of_methodNamed B.named, hts, B.returns, B.notSynchronized, trivial⟩
  obtain ⟨hx, hb, hml, hown, hts, hr, hlocks, hin⟩ := id C
  have hS : va_S (g_A D) s.heap s.heap [] := va_S.rf
  have hl := lv_entry ([.ref x0, .ref x1, .ref x2, .int x3]) (n := 4) (Nat.le_of_ble_eq_true rfl)
  rw [lg_entry_eq]
  generalize (lg_sl ([.ref x0, .ref x1, .ref x2, .int x3]) ++ List.replicate (4 - (lg_sl ([.ref x0, .ref x1, .ref x2, .int x3])).length) Slot.unset).toArray = ls at hl ⊢
  have hl : lv_has ls 4 [(0, .ref x0), (1, .ref x1), (2, .ref x2), (3, .int x3)] := hl
  unfold fX4_combine at hf
  refine lv_iload_n hx hb dX4_combine_0 rfl (lv_at hl 3 rfl) ?_
  by_cases n0 : x3 = 0
  · rw [if_pos n0] at hf
    refine lv_tableIn (tgt := 56) hx hb dX4_combine_1 (by rw [n0]; decide) (by rw [n0]; decide) (by rw [n0]; rfl) (by decide) ?_
    refine lv_aload_n hx hb dX4_combine_56 rfl (lv_at hl 0 rfl) ?_
    refine lv_aload_n hx hb dX4_combine_57 rfl (lv_at hl 1 rfl) ?_
    refine lv_aload_n hx hb dX4_combine_58 rfl (lv_at hl 2 rfl) ?_
    refine lv_aload_n hx hb dX4_combine_59 rfl (lv_at hl 2 rfl) ?_
    obtain ⟨v1, hv1, hf⟩ := g_bind hf
    refine g_geti hx hb hts hown hK hG hv1 rfl iX2 (by decide) flX4_51 dX4_combine_60 ?_
    obtain ⟨o2, ho2, hf⟩ := g_bind hf
    obtain ⟨r3, hr3, hf⟩ := g_bind hf
    refine g_callV hx hb hml hl.1 hts hown hK hG hS (As := [.ref x1, .ref x2, .int v1]) (rest := []) (tX4_add l D hr3) vX4_add mlX4_55 ho2 rfl rfl rfl rfl ⟨Nat.le_of_ble_eq_true rfl, Nat.le_of_ble_eq_true rfl⟩ rfl rfl (Nat.le_of_ble_eq_true rfl) ⟨Nat.le_of_ble_eq_true rfl, Nat.le_of_ble_eq_true rfl⟩ dX4_combine_63 (fun H locs hG hS => ?_)
    cases hf
    exact g_iret hx hb hr hlocks hG hS dX4_combine_66
  · rw [if_neg n0] at hf
    by_cases n1 : x3 = 1
    · rw [if_pos n1] at hf
      refine lv_tableIn (tgt := 67) hx hb dX4_combine_1 (by rw [n1]; decide) (by rw [n1]; decide) (by rw [n1]; rfl) (by decide) ?_
      refine lv_aload_n hx hb dX4_combine_67 rfl (lv_at hl 0 rfl) ?_
      refine lv_aload_n hx hb dX4_combine_68 rfl (lv_at hl 1 rfl) ?_
      refine lv_aload_n hx hb dX4_combine_69 rfl (lv_at hl 2 rfl) ?_
      refine lv_aload_n hx hb dX4_combine_70 rfl (lv_at hl 2 rfl) ?_
      obtain ⟨v4, hv4, hf⟩ := g_bind hf
      refine g_geti hx hb hts hown hK hG hv4 rfl iX2 (by decide) flX4_51 dX4_combine_71 ?_
      refine lv_if_ne (tgt := 81) hx hb dX4_combine_74 (by decide) (fun c5 => ?_) (fun c5 => ?_)
      · rw [if_neg c5] at hf
        refine lv_iconst (v := 0) hx hb dX4_combine_81 (by decide +kernel) ?_
        exact tBX4_combine_82 C hK   _ _ _ _ _ _ _ _ hG hS (lv_sub hl [] rfl) hf
      · rw [if_pos c5] at hf
        refine lv_iconst (v := 1) hx hb dX4_combine_77 (by decide +kernel) ?_
        refine lv_goto (tgt := 82) hx hb dX4_combine_78 (by decide) ?_
        exact tBX4_combine_82 C hK   _ _ _ _ _ _ _ _ hG hS (lv_sub hl [] rfl) hf
    · rw [if_neg n1] at hf
      by_cases n2 : x3 = 2
      · rw [if_pos n2] at hf
        refine lv_tableIn (tgt := 86) hx hb dX4_combine_1 (by rw [n2]; decide) (by rw [n2]; decide) (by rw [n2]; rfl) (by decide) ?_
        refine lv_aload_n hx hb dX4_combine_86 rfl (lv_at hl 0 rfl) ?_
        refine lv_aload_n hx hb dX4_combine_87 rfl (lv_at hl 1 rfl) ?_
        refine lv_aload_n hx hb dX4_combine_88 rfl (lv_at hl 2 rfl) ?_
        obtain ⟨v8, hv8, hf⟩ := g_bind hf
        refine g_getr hx hb hts hown hK hG hv8 rfl iX2 (by decide) flX4_59 dX4_combine_89 ?_
        refine lv_aload_n hx hb dX4_combine_92 rfl (lv_at hl 2 rfl) ?_
        obtain ⟨v9, hv9, hf⟩ := g_bind hf
        refine g_getr hx hb hts hown hK hG hv9 rfl iX2 (by decide) flX4_62 dX4_combine_93 ?_
        refine lv_aload_n hx hb dX4_combine_96 rfl (lv_at hl 2 rfl) ?_
        obtain ⟨v10, hv10, hf⟩ := g_bind hf
        refine g_geti hx hb hts hown hK hG hv10 rfl iX2 (by decide) flX4_51 dX4_combine_97 ?_
        obtain ⟨o11, ho11, hf⟩ := g_bind hf
        obtain ⟨r12, hr12, hf⟩ := g_bind hf
        refine g_callV hx hb hml hl.1 hts hown hK hG hS (As := [.ref x1, .ref v8, .ref v9, .int v10]) (rest := []) (tX4_multiply l D hr12) vX4_multiply mlX4_65 ho11 rfl rfl rfl rfl ⟨Nat.le_of_ble_eq_true rfl, Nat.le_of_ble_eq_true rfl⟩ rfl rfl (Nat.le_of_ble_eq_true rfl) ⟨Nat.le_of_ble_eq_true rfl, Nat.le_of_ble_eq_true rfl⟩ dX4_combine_100 (fun H locs hG hS => ?_)
        cases hf
        exact g_iret hx hb hr hlocks hG hS dX4_combine_103
      · rw [if_neg n2] at hf
        by_cases n3 : x3 = 3
        · rw [if_pos n3] at hf
          refine lv_tableIn (tgt := 104) hx hb dX4_combine_1 (by rw [n3]; decide) (by rw [n3]; decide) (by rw [n3]; rfl) (by decide) ?_
          refine lv_aload_n hx hb dX4_combine_104 rfl (lv_at hl 2 rfl) ?_
          obtain ⟨v13, hv13, hf⟩ := g_bind hf
          refine g_getr hx hb hts hown hK hG hv13 rfl iX2 (by decide) flX4_59 dX4_combine_105 ?_
          obtain ⟨o14, ho14, hf⟩ := g_bind hf
          obtain ⟨r15, hr15, hf⟩ := g_bind hf
          refine g_callV hx hb hml hl.1 hts hown hK hG hS (As := []) (rest := []) (tX3_isZero l D hr15) vX3_isZero mlX4_69 ho14 rfl rfl rfl rfl ⟨Nat.le_of_ble_eq_true rfl, Nat.le_of_ble_eq_true rfl⟩ rfl rfl (Nat.le_of_ble_eq_true rfl) ⟨Nat.le_of_ble_eq_true rfl, Nat.le_of_ble_eq_true rfl⟩ dX4_combine_108 (fun H locs hG hS => ?_)
          refine lv_if_eq (tgt := 119) hx hb dX4_combine_111 (by decide) (fun c16 => ?_) (fun c16 => ?_)
          · rw [if_pos c16] at hf
            refine lv_aload_n hx hb dX4_combine_119 rfl (lv_at hl 0 rfl) ?_
            refine lv_aload_n hx hb dX4_combine_120 rfl (lv_at hl 1 rfl) ?_
            refine lv_aload_n hx hb dX4_combine_121 rfl (lv_at hl 2 rfl) ?_
            obtain ⟨v17, hv17, hf⟩ := g_bind hf
            refine g_getr hx hb hts hown hK hG hv17 rfl iX2 (by decide) flX4_62 dX4_combine_122 ?_
            refine lv_aload_n hx hb dX4_combine_125 rfl (lv_at hl 2 rfl) ?_
            obtain ⟨v18, hv18, hf⟩ := g_bind hf
            refine g_getr hx hb hts hown hK hG hv18 rfl iX2 (by decide) flX4_59 dX4_combine_126 ?_
            refine lv_aload_n hx hb dX4_combine_129 rfl (lv_at hl 2 rfl) ?_
            obtain ⟨v19, hv19, hf⟩ := g_bind hf
            refine g_geti hx hb hts hown hK hG hv19 rfl iX2 (by decide) flX4_51 dX4_combine_130 ?_
            obtain ⟨o20, ho20, hf⟩ := g_bind hf
            obtain ⟨r21, hr21, hf⟩ := g_bind hf
            refine g_callV hx hb hml hl.1 hts hown hK hG hS (As := [.ref x1, .ref v17, .ref v18, .int v19]) (rest := []) (tX4_multiply l D hr21) vX4_multiply mlX4_65 ho20 rfl rfl rfl rfl ⟨Nat.le_of_ble_eq_true rfl, Nat.le_of_ble_eq_true rfl⟩ rfl rfl (Nat.le_of_ble_eq_true rfl) ⟨Nat.le_of_ble_eq_true rfl, Nat.le_of_ble_eq_true rfl⟩ dX4_combine_133 (fun H locs hG hS => ?_)
            exact tBX4_combine_136 C hK   _ _ _ _ _ hG hS (lv_sub hl [] rfl) hf
          · rw [if_neg c16] at hf
            refine lv_bipush (v := (-2)) hx hb dX4_combine_114 (by decide +kernel) ?_
            refine lv_goto (tgt := 136) hx hb dX4_combine_116 (by decide) ?_
            exact tBX4_combine_136 C hK   _ _ _ _ _ hG hS (lv_sub hl [] rfl) hf
        · rw [if_neg n3] at hf
          by_cases n4 : x3 = 4
          · rw [if_pos n4] at hf
            refine lv_tableIn (tgt := 137) hx hb dX4_combine_1 (by rw [n4]; decide) (by rw [n4]; decide) (by rw [n4]; rfl) (by decide) ?_
            refine lv_aload_n hx hb dX4_combine_137 rfl (lv_at hl 0 rfl) ?_
            refine lv_aload_n hx hb dX4_combine_138 rfl (lv_at hl 1 rfl) ?_
            refine lv_aload_n hx hb dX4_combine_139 rfl (lv_at hl 2 rfl) ?_
            refine lv_iload_n hx hb dX4_combine_140 rfl (lv_at hl 3 rfl) ?_
            obtain ⟨o22, ho22, hf⟩ := g_bind hf
            obtain ⟨r23, hr23, hf⟩ := g_bind hf
            refine g_callV hx hb hml hl.1 hts hown hK hG hS (As := [.ref x1, .ref x2, .int x3]) (rest := []) (tX4_combineWhole l D hr23) vX4_combineWhole mlX4_73 ho22 rfl rfl rfl rfl ⟨Nat.le_of_ble_eq_true rfl, Nat.le_of_ble_eq_true rfl⟩ rfl rfl (Nat.le_of_ble_eq_true rfl) ⟨Nat.le_of_ble_eq_true rfl, Nat.le_of_ble_eq_true rfl⟩ dX4_combine_141 (fun H locs hG hS => ?_)
            cases hf
            exact g_iret hx hb hr hlocks hG hS dX4_combine_144
          · rw [if_neg n4] at hf
            by_cases n5 : x3 = 5
            · rw [if_pos n5] at hf
              refine lv_tableIn (tgt := 137) hx hb dX4_combine_1 (by rw [n5]; decide) (by rw [n5]; decide) (by rw [n5]; rfl) (by decide) ?_
              refine lv_aload_n hx hb dX4_combine_137 rfl (lv_at hl 0 rfl) ?_
              refine lv_aload_n hx hb dX4_combine_138 rfl (lv_at hl 1 rfl) ?_
              refine lv_aload_n hx hb dX4_combine_139 rfl (lv_at hl 2 rfl) ?_
              refine lv_iload_n hx hb dX4_combine_140 rfl (lv_at hl 3 rfl) ?_
              obtain ⟨o24, ho24, hf⟩ := g_bind hf
              obtain ⟨r25, hr25, hf⟩ := g_bind hf
              refine g_callV hx hb hml hl.1 hts hown hK hG hS (As := [.ref x1, .ref x2, .int x3]) (rest := []) (tX4_combineWhole l D hr25) vX4_combineWhole mlX4_73 ho24 rfl rfl rfl rfl ⟨Nat.le_of_ble_eq_true rfl, Nat.le_of_ble_eq_true rfl⟩ rfl rfl (Nat.le_of_ble_eq_true rfl) ⟨Nat.le_of_ble_eq_true rfl, Nat.le_of_ble_eq_true rfl⟩ dX4_combine_141 (fun H locs hG hS => ?_)
              cases hf
              exact g_iret hx hb hr hlocks hG hS dX4_combine_144
            · rw [if_neg n5] at hf
              by_cases n6 : x3 = 6
              · rw [if_pos n6] at hf
                refine lv_tableIn (tgt := 137) hx hb dX4_combine_1 (by rw [n6]; decide) (by rw [n6]; decide) (by rw [n6]; rfl) (by decide) ?_
                refine lv_aload_n hx hb dX4_combine_137 rfl (lv_at hl 0 rfl) ?_
                refine lv_aload_n hx hb dX4_combine_138 rfl (lv_at hl 1 rfl) ?_
                refine lv_aload_n hx hb dX4_combine_139 rfl (lv_at hl 2 rfl) ?_
                refine lv_iload_n hx hb dX4_combine_140 rfl (lv_at hl 3 rfl) ?_
                obtain ⟨o26, ho26, hf⟩ := g_bind hf
                obtain ⟨r27, hr27, hf⟩ := g_bind hf
                refine g_callV hx hb hml hl.1 hts hown hK hG hS (As := [.ref x1, .ref x2, .int x3]) (rest := []) (tX4_combineWhole l D hr27) vX4_combineWhole mlX4_73 ho26 rfl rfl rfl rfl ⟨Nat.le_of_ble_eq_true rfl, Nat.le_of_ble_eq_true rfl⟩ rfl rfl (Nat.le_of_ble_eq_true rfl) ⟨Nat.le_of_ble_eq_true rfl, Nat.le_of_ble_eq_true rfl⟩ dX4_combine_141 (fun H locs hG hS => ?_)
                cases hf
                exact g_iret hx hb hr hlocks hG hS dX4_combine_144
              · rw [if_neg n6] at hf
                by_cases n7 : x3 = 7
                · rw [if_pos n7] at hf
                  refine lv_tableIn (tgt := 145) hx hb dX4_combine_1 (by rw [n7]; decide) (by rw [n7]; decide) (by rw [n7]; rfl) (by decide) ?_
                  refine lv_aload_n hx hb dX4_combine_145 rfl (lv_at hl 0 rfl) ?_
                  refine lv_aload_n hx hb dX4_combine_146 rfl (lv_at hl 1 rfl) ?_
                  refine lv_aload_n hx hb dX4_combine_147 rfl (lv_at hl 2 rfl) ?_
                  obtain ⟨o28, ho28, hf⟩ := g_bind hf
                  obtain ⟨r29, hr29, hf⟩ := g_bind hf
                  refine g_callV hx hb hml hl.1 hts hown hK hG hS (As := [.ref x1, .ref x2]) (rest := []) (tX4_raise l D hr29) vX4_raise mlX4_77 ho28 rfl rfl rfl rfl ⟨Nat.le_of_ble_eq_true rfl, Nat.le_of_ble_eq_true rfl⟩ rfl rfl (Nat.le_of_ble_eq_true rfl) ⟨Nat.le_of_ble_eq_true rfl, Nat.le_of_ble_eq_true rfl⟩ dX4_combine_148 (fun H locs hG hS => ?_)
                  cases hf
                  exact g_iret hx hb hr hlocks hG hS dX4_combine_151
                · rw [if_neg n7] at hf
                  by_cases n8 : x3 = 8
                  · rw [if_pos n8] at hf
                    refine lv_tableIn (tgt := 152) hx hb dX4_combine_1 (by rw [n8]; decide) (by rw [n8]; decide) (by rw [n8]; rfl) (by decide) ?_
                    refine lv_aload_n hx hb dX4_combine_152 rfl (lv_at hl 0 rfl) ?_
                    refine lv_aload_n hx hb dX4_combine_153 rfl (lv_at hl 0 rfl) ?_
                    refine lv_aload_n hx hb dX4_combine_154 rfl (lv_at hl 1 rfl) ?_
                    refine lv_aload_n hx hb dX4_combine_155 rfl (lv_at hl 2 rfl) ?_
                    obtain ⟨o30, ho30, hf⟩ := g_bind hf
                    obtain ⟨r31, hr31, hf⟩ := g_bind hf
                    refine g_callV hx hb hml hl.1 hts hown hK hG hS (As := [.ref x1, .ref x2]) (rest := [.ref x0]) (tX4_order l D hr31) vX4_order mlX4_81 ho30 rfl rfl rfl rfl ⟨Nat.le_of_ble_eq_true rfl, Nat.le_of_ble_eq_true rfl⟩ rfl rfl (Nat.le_of_ble_eq_true rfl) ⟨Nat.le_of_ble_eq_true rfl, Nat.le_of_ble_eq_true rfl⟩ dX4_combine_156 (fun H locs hG hS => ?_)
                    refine lv_if_gt (tgt := 166) hx hb dX4_combine_159 (by decide) (fun c32 => ?_) (fun c32 => ?_)
                    · rw [if_pos c32] at hf
                      refine lv_aload_n hx hb dX4_combine_166 rfl (lv_at hl 2 rfl) ?_
                      exact tBX4_combine_167 C hK   _ _ _ _ _ _ hG hS (lv_sub hl [] rfl) hf
                    · rw [if_neg c32] at hf
                      refine lv_aload_n hx hb dX4_combine_162 rfl (lv_at hl 1 rfl) ?_
                      refine lv_goto (tgt := 167) hx hb dX4_combine_163 (by decide) ?_
                      exact tBX4_combine_167 C hK   _ _ _ _ _ _ hG hS (lv_sub hl [] rfl) hf
                  · rw [if_neg n8] at hf
                    by_cases n9 : x3 = 9
                    · rw [if_pos n9] at hf
                      refine lv_tableIn (tgt := 171) hx hb dX4_combine_1 (by rw [n9]; decide) (by rw [n9]; decide) (by rw [n9]; rfl) (by decide) ?_
                      refine lv_aload_n hx hb dX4_combine_171 rfl (lv_at hl 0 rfl) ?_
                      refine lv_aload_n hx hb dX4_combine_172 rfl (lv_at hl 0 rfl) ?_
                      refine lv_aload_n hx hb dX4_combine_173 rfl (lv_at hl 1 rfl) ?_
                      refine lv_aload_n hx hb dX4_combine_174 rfl (lv_at hl 2 rfl) ?_
                      obtain ⟨o35, ho35, hf⟩ := g_bind hf
                      obtain ⟨r36, hr36, hf⟩ := g_bind hf
                      refine g_callV hx hb hml hl.1 hts hown hK hG hS (As := [.ref x1, .ref x2]) (rest := [.ref x0]) (tX4_order l D hr36) vX4_order mlX4_81 ho35 rfl rfl rfl rfl ⟨Nat.le_of_ble_eq_true rfl, Nat.le_of_ble_eq_true rfl⟩ rfl rfl (Nat.le_of_ble_eq_true rfl) ⟨Nat.le_of_ble_eq_true rfl, Nat.le_of_ble_eq_true rfl⟩ dX4_combine_175 (fun H locs hG hS => ?_)
                      refine lv_if_lt (tgt := 185) hx hb dX4_combine_178 (by decide) (fun c37 => ?_) (fun c37 => ?_)
                      · rw [if_pos c37] at hf
                        refine lv_aload_n hx hb dX4_combine_185 rfl (lv_at hl 2 rfl) ?_
                        exact tBX4_combine_186 C hK   _ _ _ _ _ _ hG hS (lv_sub hl [] rfl) hf
                      · rw [if_neg c37] at hf
                        refine lv_aload_n hx hb dX4_combine_181 rfl (lv_at hl 1 rfl) ?_
                        refine lv_goto (tgt := 186) hx hb dX4_combine_182 (by decide) ?_
                        exact tBX4_combine_186 C hK   _ _ _ _ _ _ hG hS (lv_sub hl [] rfl) hf
                    · rw [if_neg n9] at hf
                      refine lv_tableOut (tgt := 190) hx hb dX4_combine_1 (g_out (hi := 9) (fun k h => match k, h with | 0, _ => n0 | 1, _ => n1 | 2, _ => n2 | 3, _ => n3 | 4, _ => n4 | 5, _ => n5 | 6, _ => n6 | 7, _ => n7 | 8, _ => n8 | 9, _ => n9 | k + 10, h => absurd h (by omega))) (by decide) ?_
                      refine lv_iconst (v := (-1)) hx hb dX4_combine_190 (by decide +kernel) ?_
                      cases hf
                      exact g_iret hx hb hr hlocks hG hS dX4_combine_191

def rmX4_isAwayFromZero : Room := { frames := 2, cells := 0, slots := 0, locals := 47 }
noncomputable def BX4_isAwayFromZero_18  (σ : g_S)  : Option (Int32 × g_S) := some (0, σ)
noncomputable def BX4_isAwayFromZero_108  (σ : g_S) (y0 : Int32) : Option (Int32 × g_S) := g_if (y0 = 0 ∨ y0 = 1) <| some (y0, σ)
noncomputable def BX4_isAwayFromZero_103  (σ : g_S)  : Option (Int32 × g_S) := BX4_isAwayFromZero_108 σ 1
noncomputable def BX4_isAwayFromZero_107  (σ : g_S)  : Option (Int32 × g_S) := BX4_isAwayFromZero_108 σ 0
noncomputable def BX4_isAwayFromZero_48  (σ : g_S) (y0 : Int32) : Option (Int32 × g_S) := g_if (y0 = 0 ∨ y0 = 1) <| some (y0, σ)
noncomputable def BX4_isAwayFromZero_40  (σ : g_S) (y0 : Int32) (y1 : Int32) : Option (Int32 × g_S) := if y0 = y1 then (BX4_isAwayFromZero_48 σ 1) else (BX4_isAwayFromZero_48 σ 0)
noncomputable def fX4_isAwayFromZero (σ : g_S) (x0 : Nat) (x1 : Nat) (x2 : Int32) : Option (Int32 × g_S) := (g_fr σ 4 x0 2).bind fun v1 => (g_fr σ 1 v1 1).bind fun v2 => (g_o σ 3 v2).bind fun o3 => (fX3_isZero σ v2).bind fun r4 => if r4.1 = 0 then (if x2 = 5 then (BX4_isAwayFromZero_18 r4.2) else (if x2 = 6 then ((g_fr r4.2 4 x0 6).bind fun v8 => (g_fr r4.2 4 x0 2).bind fun v9 => (g_fr r4.2 1 v9 1).bind fun v10 => (g_fr r4.2 4 x0 2).bind fun v11 => (g_fr r4.2 1 v11 1).bind fun v12 => (g_o r4.2 3 v8).bind fun o13 => (fX3_becomeSum r4.2 v8 v10 v12).bind fun r14 => (g_fr r14 4 x0 6).bind fun v15 => (g_fr r14 2 x1 1).bind fun v16 => (g_o r14 3 v15).bind fun o17 => (fX3_order r14 v15 v16).bind fun r18 => if 0 < r18.1 then (BX4_isAwayFromZero_103 r18.2) else (if r18.1 = 0 then ((g_fr r18.2 4 x0 2).bind fun v22 => (g_fr r18.2 1 v22 0).bind fun v23 => (g_o r18.2 3 v23).bind fun o24 => (fX3_isOdd r18.2 v23).bind fun r25 => if r25.1 = 0 then (BX4_isAwayFromZero_107 r25.2) else (BX4_isAwayFromZero_103 r25.2)) else (BX4_isAwayFromZero_107 r18.2))) else ((g_fi r4.2 2 x1 2).bind fun v27 => if x2 = 3 then (BX4_isAwayFromZero_40 r4.2 v27 1) else (BX4_isAwayFromZero_40 r4.2 v27 0)))) else (BX4_isAwayFromZero_18 r4.2)
set_option maxHeartbeats 4000000 in
set_option maxRecDepth 100000 in
theorem tBX4_isAwayFromZero_18 {p : Program} {l : Launch} {e : Env} {s : State} {m : MethodId} {args : Array Value} {below : List Frame} {meth : Method} {c : Code} {D : g_D} {out : Int32 × g_S} (C : g_C RX4 cX4_isAwayFromZero 4 (some .boolean) True p s m args meth c) (hK : g_K D s)  : ∀ (σ : g_S)  (H : Heap) (locs : List Loc) (ls : Array Slot), g_H D σ H → va_S (g_A D) s.heap H locs → lv_has ls 4 [] → BX4_isAwayFromZero_18  σ  = some out → W p l e rmX4_isAwayFromZero s m args below meth c H locs 0 0 (MQ below (g_Q D out.2 (some (.int out.1))) args s 0 0 (g_A D)) (F0 m 18 ls []) := by
  obtain ⟨hx, hb, hml, hown, hts, hr, hlocks, hin⟩ := id C
  intro σ  H locs ls hG hS hl hf
  unfold BX4_isAwayFromZero_18 at hf
  refine lv_iconst (v := 0) hx hb dX4_isAwayFromZero_18 (by decide +kernel) ?_
  cases hf
  exact g_zret hx hb hr hlocks (Or.inl rfl) hG hS dX4_isAwayFromZero_19

set_option maxHeartbeats 4000000 in
set_option maxRecDepth 100000 in
theorem tBX4_isAwayFromZero_108 {p : Program} {l : Launch} {e : Env} {s : State} {m : MethodId} {args : Array Value} {below : List Frame} {meth : Method} {c : Code} {D : g_D} {out : Int32 × g_S} (C : g_C RX4 cX4_isAwayFromZero 4 (some .boolean) True p s m args meth c) (hK : g_K D s)  : ∀ (σ : g_S) (y0 : Int32) (H : Heap) (locs : List Loc) (ls : Array Slot), g_H D σ H → va_S (g_A D) s.heap H locs → lv_has ls 4 [] → BX4_isAwayFromZero_108  σ y0 = some out → W p l e rmX4_isAwayFromZero s m args below meth c H locs 0 0 (MQ below (g_Q D out.2 (some (.int out.1))) args s 0 0 (g_A D)) (F0 m 108 ls [.int y0]) := by
  obtain ⟨hx, hb, hml, hown, hts, hr, hlocks, hin⟩ := id C
  intro σ y0 H locs ls hG hS hl hf
  unfold BX4_isAwayFromZero_108 at hf
  obtain ⟨z20, hf⟩ := g_if_spec hf
  cases hf
  exact g_zret hx hb hr hlocks z20 hG hS dX4_isAwayFromZero_108

set_option maxHeartbeats 4000000 in
set_option maxRecDepth 100000 in
theorem tBX4_isAwayFromZero_103 {p : Program} {l : Launch} {e : Env} {s : State} {m : MethodId} {args : Array Value} {below : List Frame} {meth : Method} {c : Code} {D : g_D} {out : Int32 × g_S} (C : g_C RX4 cX4_isAwayFromZero 4 (some .boolean) True p s m args meth c) (hK : g_K D s)  : ∀ (σ : g_S)  (H : Heap) (locs : List Loc) (ls : Array Slot), g_H D σ H → va_S (g_A D) s.heap H locs → lv_has ls 4 [] → BX4_isAwayFromZero_103  σ  = some out → W p l e rmX4_isAwayFromZero s m args below meth c H locs 0 0 (MQ below (g_Q D out.2 (some (.int out.1))) args s 0 0 (g_A D)) (F0 m 103 ls []) := by
  obtain ⟨hx, hb, hml, hown, hts, hr, hlocks, hin⟩ := id C
  intro σ  H locs ls hG hS hl hf
  unfold BX4_isAwayFromZero_103 at hf
  refine lv_iconst (v := 1) hx hb dX4_isAwayFromZero_103 (by decide +kernel) ?_
  refine lv_goto (tgt := 108) hx hb dX4_isAwayFromZero_104 (by decide) ?_
  exact tBX4_isAwayFromZero_108 C hK   _ _ _ _ _ hG hS (lv_sub hl [] rfl) hf

set_option maxHeartbeats 4000000 in
set_option maxRecDepth 100000 in
theorem tBX4_isAwayFromZero_107 {p : Program} {l : Launch} {e : Env} {s : State} {m : MethodId} {args : Array Value} {below : List Frame} {meth : Method} {c : Code} {D : g_D} {out : Int32 × g_S} (C : g_C RX4 cX4_isAwayFromZero 4 (some .boolean) True p s m args meth c) (hK : g_K D s)  : ∀ (σ : g_S)  (H : Heap) (locs : List Loc) (ls : Array Slot), g_H D σ H → va_S (g_A D) s.heap H locs → lv_has ls 4 [] → BX4_isAwayFromZero_107  σ  = some out → W p l e rmX4_isAwayFromZero s m args below meth c H locs 0 0 (MQ below (g_Q D out.2 (some (.int out.1))) args s 0 0 (g_A D)) (F0 m 107 ls []) := by
  obtain ⟨hx, hb, hml, hown, hts, hr, hlocks, hin⟩ := id C
  intro σ  H locs ls hG hS hl hf
  unfold BX4_isAwayFromZero_107 at hf
  refine lv_iconst (v := 0) hx hb dX4_isAwayFromZero_107 (by decide +kernel) ?_
  exact tBX4_isAwayFromZero_108 C hK   _ _ _ _ _ hG hS (lv_sub hl [] rfl) hf

set_option maxHeartbeats 4000000 in
set_option maxRecDepth 100000 in
theorem tBX4_isAwayFromZero_48 {p : Program} {l : Launch} {e : Env} {s : State} {m : MethodId} {args : Array Value} {below : List Frame} {meth : Method} {c : Code} {D : g_D} {out : Int32 × g_S} (C : g_C RX4 cX4_isAwayFromZero 4 (some .boolean) True p s m args meth c) (hK : g_K D s)  : ∀ (σ : g_S) (y0 : Int32) (H : Heap) (locs : List Loc) (ls : Array Slot), g_H D σ H → va_S (g_A D) s.heap H locs → lv_has ls 4 [] → BX4_isAwayFromZero_48  σ y0 = some out → W p l e rmX4_isAwayFromZero s m args below meth c H locs 0 0 (MQ below (g_Q D out.2 (some (.int out.1))) args s 0 0 (g_A D)) (F0 m 48 ls [.int y0]) := by
  obtain ⟨hx, hb, hml, hown, hts, hr, hlocks, hin⟩ := id C
  intro σ y0 H locs ls hG hS hl hf
  unfold BX4_isAwayFromZero_48 at hf
  obtain ⟨z30, hf⟩ := g_if_spec hf
  cases hf
  exact g_zret hx hb hr hlocks z30 hG hS dX4_isAwayFromZero_48

set_option maxHeartbeats 4000000 in
set_option maxRecDepth 100000 in
theorem tBX4_isAwayFromZero_40 {p : Program} {l : Launch} {e : Env} {s : State} {m : MethodId} {args : Array Value} {below : List Frame} {meth : Method} {c : Code} {D : g_D} {out : Int32 × g_S} (C : g_C RX4 cX4_isAwayFromZero 4 (some .boolean) True p s m args meth c) (hK : g_K D s)  : ∀ (σ : g_S) (y0 : Int32) (y1 : Int32) (H : Heap) (locs : List Loc) (ls : Array Slot), g_H D σ H → va_S (g_A D) s.heap H locs → lv_has ls 4 [] → BX4_isAwayFromZero_40  σ y0 y1 = some out → W p l e rmX4_isAwayFromZero s m args below meth c H locs 0 0 (MQ below (g_Q D out.2 (some (.int out.1))) args s 0 0 (g_A D)) (F0 m 40 ls [.int y1, .int y0]) := by
  obtain ⟨hx, hb, hml, hown, hts, hr, hlocks, hin⟩ := id C
  intro σ y0 y1 H locs ls hG hS hl hf
  unfold BX4_isAwayFromZero_40 at hf
  refine lv_icmp_ne (tgt := 47) hx hb dX4_isAwayFromZero_40 (by decide) (fun c29 => ?_) (fun c29 => ?_)
  · rw [if_neg c29] at hf
    refine lv_iconst (v := 0) hx hb dX4_isAwayFromZero_47 (by decide +kernel) ?_
    exact tBX4_isAwayFromZero_48 C hK   _ _ _ _ _ hG hS (lv_sub hl [] rfl) hf
  · rw [if_pos c29] at hf
    refine lv_iconst (v := 1) hx hb dX4_isAwayFromZero_43 (by decide +kernel) ?_
    refine lv_goto (tgt := 48) hx hb dX4_isAwayFromZero_44 (by decide) ?_
    exact tBX4_isAwayFromZero_48 C hK   _ _ _ _ _ hG hS (lv_sub hl [] rfl) hf

set_option maxHeartbeats 4000000 in
set_option maxRecDepth 100000 in
theorem tX4_isAwayFromZero (l : Launch) (D : g_D) {σ : g_S} {x0 : Nat} {x1 : Nat} {x2 : Int32} {out : Int32 × g_S} (hf : fX4_isAwayFromZero σ x0 x1 x2 = some out) : Met l yX4_isAwayFromZero (Cond.code yX4_isAwayFromZero cX4_isAwayFromZero 4 (some .boolean) :: lw_g) rmX4_isAwayFromZero (g_P D σ [.ref x0, .ref x1, .int x2]) (g_Q D out.2 (some (.int out.1))) 0 0 (g_A D) := by
  refine Met.ofW (cc := cX4_isAwayFromZero) (maxL := 4) (ret := (some .boolean)) (by decide +kernel) rfl ?_
  intro p e s m args below meth c s₁ B hml hv
  obtain ⟨rfl, hG, hK⟩ := hv
  have hts : ∀ w ∈ lw_g, w.before _ s = true := fun w h => atoms_spec (ws := (Cond.code yX4_isAwayFromZero cX4_isAwayFromZero 4 (some .boolean) :: lw_g)) B.pre w (List.mem_cons_of_mem _ h)
  have C : g_C RX4 cX4_isAwayFromZero 4 (some .boolean) True p s m _ meth c := ⟨B.exec, B.bytes, hml, findClass_of_methodNamed B.named, hts, B.returns, B.notSynchronized, trivial⟩
  obtain ⟨hx, hb, hml, hown, hts, hr, hlocks, hin⟩ := id C
  have hS : va_S (g_A D) s.heap s.heap [] := va_S.rf
  have hl := lv_entry ([.ref x0, .ref x1, .int x2]) (n := 4) (Nat.le_of_ble_eq_true rfl)
  rw [lg_entry_eq]
  generalize (lg_sl ([.ref x0, .ref x1, .int x2]) ++ List.replicate (4 - (lg_sl ([.ref x0, .ref x1, .int x2])).length) Slot.unset).toArray = ls at hl ⊢
  have hl : lv_has ls 4 [(0, .ref x0), (1, .ref x1), (2, .int x2)] := hl
  unfold fX4_isAwayFromZero at hf
  refine lv_aload_n hx hb dX4_isAwayFromZero_0 rfl (lv_at hl 0 rfl) ?_
  obtain ⟨v1, hv1, hf⟩ := g_bind hf
  refine g_getr hx hb hts hown hK hG hv1 rfl iX4 (by decide) flX4_31 dX4_isAwayFromZero_1 ?_
  obtain ⟨v2, hv2, hf⟩ := g_bind hf
  refine g_getr hx hb hts hown hK hG hv2 rfl iX1 (by decide) flX4_152 dX4_isAwayFromZero_4 ?_
  obtain ⟨o3, ho3, hf⟩ := g_bind hf
  obtain ⟨r4, hr4, hf⟩ := g_bind hf
  refine g_callV hx hb hml hl.1 hts hown hK hG hS (As := []) (rest := []) (tX3_isZero l D hr4) vX3_isZero mlX4_69 ho3 rfl rfl rfl rfl ⟨Nat.le_of_ble_eq_true rfl, Nat.le_of_ble_eq_true rfl⟩ rfl rfl (Nat.le_of_ble_eq_true rfl) ⟨Nat.le_of_ble_eq_true rfl, Nat.le_of_ble_eq_true rfl⟩ dX4_isAwayFromZero_7 (fun H locs hG hS => ?_)
  refine lv_if_ne (tgt := 18) hx hb dX4_isAwayFromZero_10 (by decide) (fun c5 => ?_) (fun c5 => ?_)
  · rw [if_neg c5] at hf
    exact tBX4_isAwayFromZero_18 C hK   _  _ _ _ hG hS (lv_sub hl [] rfl) hf
  · rw [if_pos c5] at hf
    refine lv_iload_n hx hb dX4_isAwayFromZero_13 rfl (lv_at hl 2 rfl) ?_
    refine lv_iconst (v := 5) hx hb dX4_isAwayFromZero_14 (by decide +kernel) ?_
    refine lv_icmp_ne (tgt := 20) hx hb dX4_isAwayFromZero_15 (by decide) (fun c6 => ?_) (fun c6 => ?_)
    · rw [if_neg c6] at hf
      refine lv_iload_n hx hb dX4_isAwayFromZero_20 rfl (lv_at hl 2 rfl) ?_
      refine lv_bipush (v := 6) hx hb dX4_isAwayFromZero_21 (by decide +kernel) ?_
      refine lv_icmp_eq (tgt := 49) hx hb dX4_isAwayFromZero_23 (by decide) (fun c7 => ?_) (fun c7 => ?_)
      · rw [if_pos c7] at hf
        refine lv_aload_n hx hb dX4_isAwayFromZero_49 rfl (lv_at hl 0 rfl) ?_
        obtain ⟨v8, hv8, hf⟩ := g_bind hf
        refine g_getr hx hb hts hown hK hG hv8 rfl iX4 (by decide) flX4_45 dX4_isAwayFromZero_50 ?_
        refine lv_aload_n hx hb dX4_isAwayFromZero_53 rfl (lv_at hl 0 rfl) ?_
        obtain ⟨v9, hv9, hf⟩ := g_bind hf
        refine g_getr hx hb hts hown hK hG hv9 rfl iX4 (by decide) flX4_31 dX4_isAwayFromZero_54 ?_
        obtain ⟨v10, hv10, hf⟩ := g_bind hf
        refine g_getr hx hb hts hown hK hG hv10 rfl iX1 (by decide) flX4_152 dX4_isAwayFromZero_57 ?_
        refine lv_aload_n hx hb dX4_isAwayFromZero_60 rfl (lv_at hl 0 rfl) ?_
        obtain ⟨v11, hv11, hf⟩ := g_bind hf
        refine g_getr hx hb hts hown hK hG hv11 rfl iX4 (by decide) flX4_31 dX4_isAwayFromZero_61 ?_
        obtain ⟨v12, hv12, hf⟩ := g_bind hf
        refine g_getr hx hb hts hown hK hG hv12 rfl iX1 (by decide) flX4_152 dX4_isAwayFromZero_64 ?_
        obtain ⟨o13, ho13, hf⟩ := g_bind hf
        obtain ⟨r14, hr14, hf⟩ := g_bind hf
        refine g_callV hx hb hml hl.1 hts hown hK hG hS (As := [.ref v10, .ref v12]) (rest := []) (tX3_becomeSum l D hr14) vX3_becomeSum mlX4_143 ho13 rfl rfl rfl rfl ⟨Nat.le_of_ble_eq_true rfl, Nat.le_of_ble_eq_true rfl⟩ rfl rfl (Nat.le_of_ble_eq_true rfl) ⟨Nat.le_of_ble_eq_true rfl, Nat.le_of_ble_eq_true rfl⟩ dX4_isAwayFromZero_67 (fun H locs hG hS => ?_)
        refine lv_aload_n hx hb dX4_isAwayFromZero_70 rfl (lv_at hl 0 rfl) ?_
        obtain ⟨v15, hv15, hf⟩ := g_bind hf
        refine g_getr hx hb hts hown hK hG hv15 rfl iX4 (by decide) flX4_45 dX4_isAwayFromZero_71 ?_
        refine lv_aload_n hx hb dX4_isAwayFromZero_74 rfl (lv_at hl 1 rfl) ?_
        obtain ⟨v16, hv16, hf⟩ := g_bind hf
        refine g_getr hx hb hts hown hK hG hv16 rfl iX2 (by decide) flX4_62 dX4_isAwayFromZero_75 ?_
        obtain ⟨o17, ho17, hf⟩ := g_bind hf
        obtain ⟨r18, hr18, hf⟩ := g_bind hf
        refine g_callV hx hb hml hl.1 hts hown hK hG hS (As := [.ref v16]) (rest := []) (tX3_order l D hr18) vX3_order mlX4_108 ho17 rfl rfl rfl rfl ⟨Nat.le_of_ble_eq_true rfl, Nat.le_of_ble_eq_true rfl⟩ rfl rfl (Nat.le_of_ble_eq_true rfl) ⟨Nat.le_of_ble_eq_true rfl, Nat.le_of_ble_eq_true rfl⟩ dX4_isAwayFromZero_78 (fun H locs hG hS => ?_)
        refine lv_istore_n (lv' := [(3, .int r18.1), (0, .ref x0), (1, .ref x1), (2, .int x2)]) hx hb dX4_isAwayFromZero_81 rfl hl (by decide) rfl (fun ls hl => ?_)
        refine lv_iload_n hx hb dX4_isAwayFromZero_82 rfl (lv_at hl 0 rfl) ?_
        refine lv_if_gt (tgt := 103) hx hb dX4_isAwayFromZero_83 (by decide) (fun c19 => ?_) (fun c19 => ?_)
        · rw [if_pos c19] at hf
          exact tBX4_isAwayFromZero_103 C hK   _  _ _ _ hG hS (lv_sub hl [] rfl) hf
        · rw [if_neg c19] at hf
          refine lv_iload_n hx hb dX4_isAwayFromZero_86 rfl (lv_at hl 0 rfl) ?_
          refine lv_if_ne (tgt := 107) hx hb dX4_isAwayFromZero_87 (by decide) (fun c21 => ?_) (fun c21 => ?_)
          · rw [if_neg c21] at hf
            exact tBX4_isAwayFromZero_107 C hK   _  _ _ _ hG hS (lv_sub hl [] rfl) hf
          · rw [if_pos c21] at hf
            refine lv_aload_n hx hb dX4_isAwayFromZero_90 rfl (lv_at hl 1 rfl) ?_
            obtain ⟨v22, hv22, hf⟩ := g_bind hf
            refine g_getr hx hb hts hown hK hG hv22 rfl iX4 (by decide) flX4_31 dX4_isAwayFromZero_91 ?_
            obtain ⟨v23, hv23, hf⟩ := g_bind hf
            refine g_getr hx hb hts hown hK hG hv23 rfl iX1 (by decide) flX4_129 dX4_isAwayFromZero_94 ?_
            obtain ⟨o24, ho24, hf⟩ := g_bind hf
            obtain ⟨r25, hr25, hf⟩ := g_bind hf
            refine g_callV hx hb hml hl.1 hts hown hK hG hS (As := []) (rest := []) (tX3_isOdd l D hr25) vX3_isOdd mlX4_181 ho24 rfl rfl rfl rfl ⟨Nat.le_of_ble_eq_true rfl, Nat.le_of_ble_eq_true rfl⟩ rfl rfl (Nat.le_of_ble_eq_true rfl) ⟨Nat.le_of_ble_eq_true rfl, Nat.le_of_ble_eq_true rfl⟩ dX4_isAwayFromZero_97 (fun H locs hG hS => ?_)
            refine lv_if_eq (tgt := 107) hx hb dX4_isAwayFromZero_100 (by decide) (fun c26 => ?_) (fun c26 => ?_)
            · rw [if_pos c26] at hf
              exact tBX4_isAwayFromZero_107 C hK   _  _ _ _ hG hS (lv_sub hl [] rfl) hf
            · rw [if_neg c26] at hf
              exact tBX4_isAwayFromZero_103 C hK   _  _ _ _ hG hS (lv_sub hl [] rfl) hf
      · rw [if_neg c7] at hf
        refine lv_aload_n hx hb dX4_isAwayFromZero_26 rfl (lv_at hl 1 rfl) ?_
        obtain ⟨v27, hv27, hf⟩ := g_bind hf
        refine g_geti hx hb hts hown hK hG hv27 rfl iX2 (by decide) flX4_51 dX4_isAwayFromZero_27 ?_
        refine lv_iload_n hx hb dX4_isAwayFromZero_30 rfl (lv_at hl 2 rfl) ?_
        refine lv_iconst (v := 3) hx hb dX4_isAwayFromZero_31 (by decide +kernel) ?_
        refine lv_icmp_ne (tgt := 39) hx hb dX4_isAwayFromZero_32 (by decide) (fun c28 => ?_) (fun c28 => ?_)
        · rw [if_neg c28] at hf
          refine lv_iconst (v := 0) hx hb dX4_isAwayFromZero_39 (by decide +kernel) ?_
          exact tBX4_isAwayFromZero_40 C hK   _ _ _ _ _ _ hG hS (lv_sub hl [] rfl) hf
        · rw [if_pos c28] at hf
          refine lv_iconst (v := 1) hx hb dX4_isAwayFromZero_35 (by decide +kernel) ?_
          refine lv_goto (tgt := 40) hx hb dX4_isAwayFromZero_36 (by decide) ?_
          exact tBX4_isAwayFromZero_40 C hK   _ _ _ _ _ _ hG hS (lv_sub hl [] rfl) hf
    · rw [if_pos c6] at hf
      exact tBX4_isAwayFromZero_18 C hK   _  _ _ _ hG hS (lv_sub hl [] rfl) hf

def rmX4_makeWhole : Room := { frames := 4, cells := 0, slots := 0, locals := 105 }
noncomputable def fX4_makeWhole (σ : g_S) (x0 : Nat) (x1 : Nat) (x2 : Int32) : Option (Int32 × g_S) := (g_fr σ 4 x0 2).bind fun v1 => (g_fr σ 2 x1 0).bind fun v2 => (g_fr σ 2 x1 1).bind fun v3 => (g_o σ 1 v1).bind fun o4 => (fX1_divide σ v1 v2 v3).bind fun r5 => (g_o r5 4 x0).bind fun o6 => (fX4_isAwayFromZero r5 x0 x1 x2).bind fun r7 => (g_fi r7.2 2 x1 2).bind fun v8 => (g_o r7.2 4 x0).bind fun o9 => (fX4_becomeQuotient r7.2 x0 r7.1 v8).bind fun r10 => some (0, r10)
set_option maxHeartbeats 4000000 in
set_option maxRecDepth 100000 in
theorem tX4_makeWhole (l : Launch) (D : g_D) {σ : g_S} {x0 : Nat} {x1 : Nat} {x2 : Int32} {out : Int32 × g_S} (hf : fX4_makeWhole σ x0 x1 x2 = some out) : Met l yX4_makeWhole (Cond.code yX4_makeWhole cX4_makeWhole 3 (some .int) :: lw_g) rmX4_makeWhole (g_P D σ [.ref x0, .ref x1, .int x2]) (g_Q D out.2 (some (.int out.1))) 0 0 (g_A D) := by
  refine Met.ofW (cc := cX4_makeWhole) (maxL := 3) (ret := (some .int)) (by decide +kernel) rfl ?_
  intro p e s m args below meth c s₁ B hml hv
  obtain ⟨rfl, hG, hK⟩ := hv
  have hts : ∀ w ∈ lw_g, w.before _ s = true := fun w h => atoms_spec (ws := (Cond.code yX4_makeWhole cX4_makeWhole 3 (some .int) :: lw_g)) B.pre w (List.mem_cons_of_mem _ h)
  have C : g_C RX4 cX4_makeWhole 3 (some .int) True p s m _ meth c := ⟨B.exec, B.bytes, hml, findClass_of_methodNamed B.named, hts, B.returns, B.notSynchronized, trivial⟩
  obtain ⟨hx, hb, hml, hown, hts, hr, hlocks, hin⟩ := id C
  have hS : va_S (g_A D) s.heap s.heap [] := va_S.rf
  have hl := lv_entry ([.ref x0, .ref x1, .int x2]) (n := 3) (Nat.le_of_ble_eq_true rfl)
  rw [lg_entry_eq]
  generalize (lg_sl ([.ref x0, .ref x1, .int x2]) ++ List.replicate (3 - (lg_sl ([.ref x0, .ref x1, .int x2])).length) Slot.unset).toArray = ls at hl ⊢
  have hl : lv_has ls 3 [(0, .ref x0), (1, .ref x1), (2, .int x2)] := hl
  unfold fX4_makeWhole at hf
  refine lv_aload_n hx hb dX4_makeWhole_0 rfl (lv_at hl 0 rfl) ?_
  obtain ⟨v1, hv1, hf⟩ := g_bind hf
  refine g_getr hx hb hts hown hK hG hv1 rfl iX4 (by decide) flX4_31 dX4_makeWhole_1 ?_
  refine lv_aload_n hx hb dX4_makeWhole_4 rfl (lv_at hl 1 rfl) ?_
  obtain ⟨v2, hv2, hf⟩ := g_bind hf
  refine g_getr hx hb hts hown hK hG hv2 rfl iX2 (by decide) flX4_59 dX4_makeWhole_5 ?_
  refine lv_aload_n hx hb dX4_makeWhole_8 rfl (lv_at hl 1 rfl) ?_
  obtain ⟨v3, hv3, hf⟩ := g_bind hf
  refine g_getr hx hb hts hown hK hG hv3 rfl iX2 (by decide) flX4_62 dX4_makeWhole_9 ?_
  obtain ⟨o4, ho4, hf⟩ := g_bind hf
  obtain ⟨r5, hr5, hf⟩ := g_bind hf
  refine g_callV hx hb hml hl.1 hts hown hK hG hS (As := [.ref v2, .ref v3]) (rest := []) (tX1_divide l D hr5) vX1_divide mlX4_124 ho4 rfl rfl rfl rfl ⟨Nat.le_of_ble_eq_true rfl, Nat.le_of_ble_eq_true rfl⟩ rfl rfl (Nat.le_of_ble_eq_true rfl) ⟨Nat.le_of_ble_eq_true rfl, Nat.le_of_ble_eq_true rfl⟩ dX4_makeWhole_12 (fun H locs hG hS => ?_)
  refine lv_aload_n hx hb dX4_makeWhole_15 rfl (lv_at hl 0 rfl) ?_
  refine lv_aload_n hx hb dX4_makeWhole_16 rfl (lv_at hl 0 rfl) ?_
  refine lv_aload_n hx hb dX4_makeWhole_17 rfl (lv_at hl 1 rfl) ?_
  refine lv_iload_n hx hb dX4_makeWhole_18 rfl (lv_at hl 2 rfl) ?_
  obtain ⟨o6, ho6, hf⟩ := g_bind hf
  obtain ⟨r7, hr7, hf⟩ := g_bind hf
  refine g_callV hx hb hml hl.1 hts hown hK hG hS (As := [.ref x1, .int x2]) (rest := [.ref x0]) (tX4_isAwayFromZero l D hr7) vX4_isAwayFromZero mlX4_177 ho6 rfl rfl rfl rfl ⟨Nat.le_of_ble_eq_true rfl, Nat.le_of_ble_eq_true rfl⟩ rfl rfl (Nat.le_of_ble_eq_true rfl) ⟨Nat.le_of_ble_eq_true rfl, Nat.le_of_ble_eq_true rfl⟩ dX4_makeWhole_19 (fun H locs hG hS => ?_)
  refine lv_aload_n hx hb dX4_makeWhole_22 rfl (lv_at hl 1 rfl) ?_
  obtain ⟨v8, hv8, hf⟩ := g_bind hf
  refine g_geti hx hb hts hown hK hG hv8 rfl iX2 (by decide) flX4_51 dX4_makeWhole_23 ?_
  obtain ⟨o9, ho9, hf⟩ := g_bind hf
  obtain ⟨r10, hr10, hf⟩ := g_bind hf
  refine g_callV hx hb hml hl.1 hts hown hK hG hS (As := [.int r7.1, .int v8]) (rest := []) (tX4_becomeQuotient l D hr10) vX4_becomeQuotient mlX4_155 ho9 rfl rfl rfl rfl ⟨Nat.le_of_ble_eq_true rfl, Nat.le_of_ble_eq_true rfl⟩ rfl rfl (Nat.le_of_ble_eq_true rfl) ⟨Nat.le_of_ble_eq_true rfl, Nat.le_of_ble_eq_true rfl⟩ dX4_makeWhole_26 (fun H locs hG hS => ?_)
  refine lv_iconst (v := 0) hx hb dX4_makeWhole_29 (by decide +kernel) ?_
  cases hf
  exact g_iret hx hb hr hlocks hG hS dX4_makeWhole_30

def rmX4_change : Room := { frames := 5, cells := 0, slots := 0, locals := 127 }
noncomputable def BX4_change_128  (σ : g_S) (y0 : Nat) (y1 : Int32) : Option (Int32 × g_S) := (g_o σ 2 y0).bind fun o30 => (fX2_sign σ y0 y1).bind fun r31 => some (0, r31)
noncomputable def fX4_change (σ : g_S) (x0 : Nat) (x1 : Nat) (x2 : Int32) : Option (Int32 × g_S) := if x2 = 0 then ((g_fr σ 4 x0 0).bind fun v1 => (g_fr σ 2 x1 0).bind fun v2 => (g_fi σ 2 x1 2).bind fun v3 => (g_o σ 2 v1).bind fun o4 => (fX2_becomeWhole_ σ v1 v2 v3).bind fun r5 => some (0, r5)) else (if x2 = 1 then ((g_fr σ 4 x0 0).bind fun v6 => (g_fr σ 2 x1 1).bind fun v7 => (g_o σ 2 v6).bind fun o8 => (fX2_becomeWhole_ σ v6 v7 0).bind fun r9 => some (0, r9)) else (if x2 = 2 then ((g_fr σ 4 x0 0).bind fun v10 => (g_o σ 2 v10).bind fun o11 => (fX2_become σ v10 x1).bind fun r12 => (g_fr r12 4 x0 0).bind fun v13 => (g_o r12 2 v13).bind fun o14 => (fX2_sign r12 v13 0).bind fun r15 => some (0, r15)) else (if x2 = 3 then ((g_o σ 4 x0).bind fun o16 => (fX4_makeWhole σ x0 x1 x2).bind fun r17 => some (r17.1, r17.2)) else (if x2 = 4 then ((g_o σ 4 x0).bind fun o18 => (fX4_makeWhole σ x0 x1 x2).bind fun r19 => some (r19.1, r19.2)) else (if x2 = 5 then ((g_o σ 4 x0).bind fun o20 => (fX4_makeWhole σ x0 x1 x2).bind fun r21 => some (r21.1, r21.2)) else (if x2 = 6 then ((g_o σ 4 x0).bind fun o22 => (fX4_makeWhole σ x0 x1 x2).bind fun r23 => some (r23.1, r23.2)) else (if x2 = 7 then ((g_fr σ 4 x0 0).bind fun v24 => (g_o σ 2 v24).bind fun o25 => (fX2_become σ v24 x1).bind fun r26 => (g_fr r26 4 x0 0).bind fun v27 => (g_fi r26 2 x1 2).bind fun v28 => if v28 = 0 then (BX4_change_128 r26 v27 1) else (BX4_change_128 r26 v27 0)) else ((some ((-1), σ))))))))))
set_option maxHeartbeats 4000000 in
set_option maxRecDepth 100000 in
theorem tBX4_change_128 {p : Program} {l : Launch} {e : Env} {s : State} {m : MethodId} {args : Array Value} {below : List Frame} {meth : Method} {c : Code} {D : g_D} {out : Int32 × g_S} (C : g_C RX4 cX4_change 3 (some .int) True p s m args meth c) (hK : g_K D s)  : ∀ (σ : g_S) (y0 : Nat) (y1 : Int32) (H : Heap) (locs : List Loc) (ls : Array Slot), g_H D σ H → va_S (g_A D) s.heap H locs → lv_has ls 3 [] → BX4_change_128  σ y0 y1 = some out → W p l e rmX4_change s m args below meth c H locs 0 0 (MQ below (g_Q D out.2 (some (.int out.1))) args s 0 0 (g_A D)) (F0 m 128 ls [.int y1, .ref y0]) := by
  obtain ⟨hx, hb, hml, hown, hts, hr, hlocks, hin⟩ := id C
  intro σ y0 y1 H locs ls hG hS hl hf
  unfold BX4_change_128 at hf
  obtain ⟨o30, ho30, hf⟩ := g_bind hf
  obtain ⟨r31, hr31, hf⟩ := g_bind hf
  refine g_callV hx hb hml hl.1 hts hown hK hG hS (As := [.int y1]) (rest := []) (tX2_sign l D hr31) vX2_sign mlX4_96 ho30 rfl rfl rfl rfl ⟨Nat.le_of_ble_eq_true rfl, Nat.le_of_ble_eq_true rfl⟩ rfl rfl (Nat.le_of_ble_eq_true rfl) ⟨Nat.le_of_ble_eq_true rfl, Nat.le_of_ble_eq_true rfl⟩ dX4_change_128 (fun H locs hG hS => ?_)
  refine lv_iconst (v := 0) hx hb dX4_change_131 (by decide +kernel) ?_
  cases hf
  exact g_iret hx hb hr hlocks hG hS dX4_change_132

set_option maxHeartbeats 4000000 in
set_option maxRecDepth 100000 in
theorem tX4_change (l : Launch) (D : g_D) {σ : g_S} {x0 : Nat} {x1 : Nat} {x2 : Int32} {out : Int32 × g_S} (hf : fX4_change σ x0 x1 x2 = some out) : Met l yX4_change (Cond.code yX4_change cX4_change 3 (some .int) :: lw_g) rmX4_change (g_P D σ [.ref x0, .ref x1, .int x2]) (g_Q D out.2 (some (.int out.1))) 0 0 (g_A D) := by
  refine Met.ofW (cc := cX4_change) (maxL := 3) (ret := (some .int)) (by decide +kernel) rfl ?_
  intro p e s m args below meth c s₁ B hml hv
  obtain ⟨rfl, hG, hK⟩ := hv
  have hts : ∀ w ∈ lw_g, w.before _ s = true := fun w h => atoms_spec (ws := (Cond.code yX4_change cX4_change 3 (some .int) :: lw_g)) B.pre w (List.mem_cons_of_mem _ h)
  have C : g_C RX4 cX4_change 3 (some .int) True p s m _ meth c := ⟨B.exec, B.bytes, hml, findClass_of_methodNamed B.named, hts, B.returns, B.notSynchronized, trivial⟩
  obtain ⟨hx, hb, hml, hown, hts, hr, hlocks, hin⟩ := id C
  have hS : va_S (g_A D) s.heap s.heap [] := va_S.rf
  have hl := lv_entry ([.ref x0, .ref x1, .int x2]) (n := 3) (Nat.le_of_ble_eq_true rfl)
  rw [lg_entry_eq]
  generalize (lg_sl ([.ref x0, .ref x1, .int x2]) ++ List.replicate (3 - (lg_sl ([.ref x0, .ref x1, .int x2])).length) Slot.unset).toArray = ls at hl ⊢
  have hl : lv_has ls 3 [(0, .ref x0), (1, .ref x1), (2, .int x2)] := hl
  unfold fX4_change at hf
  refine lv_iload_n hx hb dX4_change_0 rfl (lv_at hl 2 rfl) ?_
  by_cases n0 : x2 = 0
  · rw [if_pos n0] at hf
    refine lv_tableIn (tgt := 48) hx hb dX4_change_1 (by rw [n0]; decide) (by rw [n0]; decide) (by rw [n0]; rfl) (by decide) ?_
    refine lv_aload_n hx hb dX4_change_48 rfl (lv_at hl 0 rfl) ?_
    obtain ⟨v1, hv1, hf⟩ := g_bind hf
    refine g_getr hx hb hts hown hK hG hv1 rfl iX4 (by decide) flX4_14 dX4_change_49 ?_
    refine lv_aload_n hx hb dX4_change_52 rfl (lv_at hl 1 rfl) ?_
    obtain ⟨v2, hv2, hf⟩ := g_bind hf
    refine g_getr hx hb hts hown hK hG hv2 rfl iX2 (by decide) flX4_59 dX4_change_53 ?_
    refine lv_aload_n hx hb dX4_change_56 rfl (lv_at hl 1 rfl) ?_
    obtain ⟨v3, hv3, hf⟩ := g_bind hf
    refine g_geti hx hb hts hown hK hG hv3 rfl iX2 (by decide) flX4_51 dX4_change_57 ?_
    obtain ⟨o4, ho4, hf⟩ := g_bind hf
    obtain ⟨r5, hr5, hf⟩ := g_bind hf
    refine g_callV hx hb hml hl.1 hts hown hK hG hS (As := [.ref v2, .int v3]) (rest := []) (tX2_becomeWhole_ l D hr5) vX2_becomeWhole_ mlX4_88 ho4 rfl rfl rfl rfl ⟨Nat.le_of_ble_eq_true rfl, Nat.le_of_ble_eq_true rfl⟩ rfl rfl (Nat.le_of_ble_eq_true rfl) ⟨Nat.le_of_ble_eq_true rfl, Nat.le_of_ble_eq_true rfl⟩ dX4_change_60 (fun H locs hG hS => ?_)
    refine lv_iconst (v := 0) hx hb dX4_change_63 (by decide +kernel) ?_
    cases hf
    exact g_iret hx hb hr hlocks hG hS dX4_change_64
  · rw [if_neg n0] at hf
    by_cases n1 : x2 = 1
    · rw [if_pos n1] at hf
      refine lv_tableIn (tgt := 65) hx hb dX4_change_1 (by rw [n1]; decide) (by rw [n1]; decide) (by rw [n1]; rfl) (by decide) ?_
      refine lv_aload_n hx hb dX4_change_65 rfl (lv_at hl 0 rfl) ?_
      obtain ⟨v6, hv6, hf⟩ := g_bind hf
      refine g_getr hx hb hts hown hK hG hv6 rfl iX4 (by decide) flX4_14 dX4_change_66 ?_
      refine lv_aload_n hx hb dX4_change_69 rfl (lv_at hl 1 rfl) ?_
      obtain ⟨v7, hv7, hf⟩ := g_bind hf
      refine g_getr hx hb hts hown hK hG hv7 rfl iX2 (by decide) flX4_62 dX4_change_70 ?_
      refine lv_iconst (v := 0) hx hb dX4_change_73 (by decide +kernel) ?_
      obtain ⟨o8, ho8, hf⟩ := g_bind hf
      obtain ⟨r9, hr9, hf⟩ := g_bind hf
      refine g_callV hx hb hml hl.1 hts hown hK hG hS (As := [.ref v7, .int 0]) (rest := []) (tX2_becomeWhole_ l D hr9) vX2_becomeWhole_ mlX4_88 ho8 rfl rfl rfl rfl ⟨Nat.le_of_ble_eq_true rfl, Nat.le_of_ble_eq_true rfl⟩ rfl rfl (Nat.le_of_ble_eq_true rfl) ⟨Nat.le_of_ble_eq_true rfl, Nat.le_of_ble_eq_true rfl⟩ dX4_change_74 (fun H locs hG hS => ?_)
      refine lv_iconst (v := 0) hx hb dX4_change_77 (by decide +kernel) ?_
      cases hf
      exact g_iret hx hb hr hlocks hG hS dX4_change_78
    · rw [if_neg n1] at hf
      by_cases n2 : x2 = 2
      · rw [if_pos n2] at hf
        refine lv_tableIn (tgt := 79) hx hb dX4_change_1 (by rw [n2]; decide) (by rw [n2]; decide) (by rw [n2]; rfl) (by decide) ?_
        refine lv_aload_n hx hb dX4_change_79 rfl (lv_at hl 0 rfl) ?_
        obtain ⟨v10, hv10, hf⟩ := g_bind hf
        refine g_getr hx hb hts hown hK hG hv10 rfl iX4 (by decide) flX4_14 dX4_change_80 ?_
        refine lv_aload_n hx hb dX4_change_83 rfl (lv_at hl 1 rfl) ?_
        obtain ⟨o11, ho11, hf⟩ := g_bind hf
        obtain ⟨r12, hr12, hf⟩ := g_bind hf
        refine g_callV hx hb hml hl.1 hts hown hK hG hS (As := [.ref x1]) (rest := []) (tX2_become l D hr12) vX2_become mlX4_92 ho11 rfl rfl rfl rfl ⟨Nat.le_of_ble_eq_true rfl, Nat.le_of_ble_eq_true rfl⟩ rfl rfl (Nat.le_of_ble_eq_true rfl) ⟨Nat.le_of_ble_eq_true rfl, Nat.le_of_ble_eq_true rfl⟩ dX4_change_84 (fun H locs hG hS => ?_)
        refine lv_aload_n hx hb dX4_change_87 rfl (lv_at hl 0 rfl) ?_
        obtain ⟨v13, hv13, hf⟩ := g_bind hf
        refine g_getr hx hb hts hown hK hG hv13 rfl iX4 (by decide) flX4_14 dX4_change_88 ?_
        refine lv_iconst (v := 0) hx hb dX4_change_91 (by decide +kernel) ?_
        obtain ⟨o14, ho14, hf⟩ := g_bind hf
        obtain ⟨r15, hr15, hf⟩ := g_bind hf
        refine g_callV hx hb hml hl.1 hts hown hK hG hS (As := [.int 0]) (rest := []) (tX2_sign l D hr15) vX2_sign mlX4_96 ho14 rfl rfl rfl rfl ⟨Nat.le_of_ble_eq_true rfl, Nat.le_of_ble_eq_true rfl⟩ rfl rfl (Nat.le_of_ble_eq_true rfl) ⟨Nat.le_of_ble_eq_true rfl, Nat.le_of_ble_eq_true rfl⟩ dX4_change_92 (fun H locs hG hS => ?_)
        refine lv_iconst (v := 0) hx hb dX4_change_95 (by decide +kernel) ?_
        cases hf
        exact g_iret hx hb hr hlocks hG hS dX4_change_96
      · rw [if_neg n2] at hf
        by_cases n3 : x2 = 3
        · rw [if_pos n3] at hf
          refine lv_tableIn (tgt := 97) hx hb dX4_change_1 (by rw [n3]; decide) (by rw [n3]; decide) (by rw [n3]; rfl) (by decide) ?_
          refine lv_aload_n hx hb dX4_change_97 rfl (lv_at hl 0 rfl) ?_
          refine lv_aload_n hx hb dX4_change_98 rfl (lv_at hl 1 rfl) ?_
          refine lv_iload_n hx hb dX4_change_99 rfl (lv_at hl 2 rfl) ?_
          obtain ⟨o16, ho16, hf⟩ := g_bind hf
          obtain ⟨r17, hr17, hf⟩ := g_bind hf
          refine g_callV hx hb hml hl.1 hts hown hK hG hS (As := [.ref x1, .int x2]) (rest := []) (tX4_makeWhole l D hr17) vX4_makeWhole mlX4_100 ho16 rfl rfl rfl rfl ⟨Nat.le_of_ble_eq_true rfl, Nat.le_of_ble_eq_true rfl⟩ rfl rfl (Nat.le_of_ble_eq_true rfl) ⟨Nat.le_of_ble_eq_true rfl, Nat.le_of_ble_eq_true rfl⟩ dX4_change_100 (fun H locs hG hS => ?_)
          cases hf
          exact g_iret hx hb hr hlocks hG hS dX4_change_103
        · rw [if_neg n3] at hf
          by_cases n4 : x2 = 4
          · rw [if_pos n4] at hf
            refine lv_tableIn (tgt := 97) hx hb dX4_change_1 (by rw [n4]; decide) (by rw [n4]; decide) (by rw [n4]; rfl) (by decide) ?_
            refine lv_aload_n hx hb dX4_change_97 rfl (lv_at hl 0 rfl) ?_
            refine lv_aload_n hx hb dX4_change_98 rfl (lv_at hl 1 rfl) ?_
            refine lv_iload_n hx hb dX4_change_99 rfl (lv_at hl 2 rfl) ?_
            obtain ⟨o18, ho18, hf⟩ := g_bind hf
            obtain ⟨r19, hr19, hf⟩ := g_bind hf
            refine g_callV hx hb hml hl.1 hts hown hK hG hS (As := [.ref x1, .int x2]) (rest := []) (tX4_makeWhole l D hr19) vX4_makeWhole mlX4_100 ho18 rfl rfl rfl rfl ⟨Nat.le_of_ble_eq_true rfl, Nat.le_of_ble_eq_true rfl⟩ rfl rfl (Nat.le_of_ble_eq_true rfl) ⟨Nat.le_of_ble_eq_true rfl, Nat.le_of_ble_eq_true rfl⟩ dX4_change_100 (fun H locs hG hS => ?_)
            cases hf
            exact g_iret hx hb hr hlocks hG hS dX4_change_103
          · rw [if_neg n4] at hf
            by_cases n5 : x2 = 5
            · rw [if_pos n5] at hf
              refine lv_tableIn (tgt := 97) hx hb dX4_change_1 (by rw [n5]; decide) (by rw [n5]; decide) (by rw [n5]; rfl) (by decide) ?_
              refine lv_aload_n hx hb dX4_change_97 rfl (lv_at hl 0 rfl) ?_
              refine lv_aload_n hx hb dX4_change_98 rfl (lv_at hl 1 rfl) ?_
              refine lv_iload_n hx hb dX4_change_99 rfl (lv_at hl 2 rfl) ?_
              obtain ⟨o20, ho20, hf⟩ := g_bind hf
              obtain ⟨r21, hr21, hf⟩ := g_bind hf
              refine g_callV hx hb hml hl.1 hts hown hK hG hS (As := [.ref x1, .int x2]) (rest := []) (tX4_makeWhole l D hr21) vX4_makeWhole mlX4_100 ho20 rfl rfl rfl rfl ⟨Nat.le_of_ble_eq_true rfl, Nat.le_of_ble_eq_true rfl⟩ rfl rfl (Nat.le_of_ble_eq_true rfl) ⟨Nat.le_of_ble_eq_true rfl, Nat.le_of_ble_eq_true rfl⟩ dX4_change_100 (fun H locs hG hS => ?_)
              cases hf
              exact g_iret hx hb hr hlocks hG hS dX4_change_103
            · rw [if_neg n5] at hf
              by_cases n6 : x2 = 6
              · rw [if_pos n6] at hf
                refine lv_tableIn (tgt := 97) hx hb dX4_change_1 (by rw [n6]; decide) (by rw [n6]; decide) (by rw [n6]; rfl) (by decide) ?_
                refine lv_aload_n hx hb dX4_change_97 rfl (lv_at hl 0 rfl) ?_
                refine lv_aload_n hx hb dX4_change_98 rfl (lv_at hl 1 rfl) ?_
                refine lv_iload_n hx hb dX4_change_99 rfl (lv_at hl 2 rfl) ?_
                obtain ⟨o22, ho22, hf⟩ := g_bind hf
                obtain ⟨r23, hr23, hf⟩ := g_bind hf
                refine g_callV hx hb hml hl.1 hts hown hK hG hS (As := [.ref x1, .int x2]) (rest := []) (tX4_makeWhole l D hr23) vX4_makeWhole mlX4_100 ho22 rfl rfl rfl rfl ⟨Nat.le_of_ble_eq_true rfl, Nat.le_of_ble_eq_true rfl⟩ rfl rfl (Nat.le_of_ble_eq_true rfl) ⟨Nat.le_of_ble_eq_true rfl, Nat.le_of_ble_eq_true rfl⟩ dX4_change_100 (fun H locs hG hS => ?_)
                cases hf
                exact g_iret hx hb hr hlocks hG hS dX4_change_103
              · rw [if_neg n6] at hf
                by_cases n7 : x2 = 7
                · rw [if_pos n7] at hf
                  refine lv_tableIn (tgt := 104) hx hb dX4_change_1 (by rw [n7]; decide) (by rw [n7]; decide) (by rw [n7]; rfl) (by decide) ?_
                  refine lv_aload_n hx hb dX4_change_104 rfl (lv_at hl 0 rfl) ?_
                  obtain ⟨v24, hv24, hf⟩ := g_bind hf
                  refine g_getr hx hb hts hown hK hG hv24 rfl iX4 (by decide) flX4_14 dX4_change_105 ?_
                  refine lv_aload_n hx hb dX4_change_108 rfl (lv_at hl 1 rfl) ?_
                  obtain ⟨o25, ho25, hf⟩ := g_bind hf
                  obtain ⟨r26, hr26, hf⟩ := g_bind hf
                  refine g_callV hx hb hml hl.1 hts hown hK hG hS (As := [.ref x1]) (rest := []) (tX2_become l D hr26) vX2_become mlX4_92 ho25 rfl rfl rfl rfl ⟨Nat.le_of_ble_eq_true rfl, Nat.le_of_ble_eq_true rfl⟩ rfl rfl (Nat.le_of_ble_eq_true rfl) ⟨Nat.le_of_ble_eq_true rfl, Nat.le_of_ble_eq_true rfl⟩ dX4_change_109 (fun H locs hG hS => ?_)
                  refine lv_aload_n hx hb dX4_change_112 rfl (lv_at hl 0 rfl) ?_
                  obtain ⟨v27, hv27, hf⟩ := g_bind hf
                  refine g_getr hx hb hts hown hK hG hv27 rfl iX4 (by decide) flX4_14 dX4_change_113 ?_
                  refine lv_aload_n hx hb dX4_change_116 rfl (lv_at hl 1 rfl) ?_
                  obtain ⟨v28, hv28, hf⟩ := g_bind hf
                  refine g_geti hx hb hts hown hK hG hv28 rfl iX2 (by decide) flX4_51 dX4_change_117 ?_
                  refine lv_if_ne (tgt := 127) hx hb dX4_change_120 (by decide) (fun c29 => ?_) (fun c29 => ?_)
                  · rw [if_neg c29] at hf
                    refine lv_iconst (v := 0) hx hb dX4_change_127 (by decide +kernel) ?_
                    exact tBX4_change_128 C hK   _ _ _ _ _ _ hG hS (lv_sub hl [] rfl) hf
                  · rw [if_pos c29] at hf
                    refine lv_iconst (v := 1) hx hb dX4_change_123 (by decide +kernel) ?_
                    refine lv_goto (tgt := 128) hx hb dX4_change_124 (by decide) ?_
                    exact tBX4_change_128 C hK   _ _ _ _ _ _ hG hS (lv_sub hl [] rfl) hf
                · rw [if_neg n7] at hf
                  refine lv_tableOut (tgt := 133) hx hb dX4_change_1 (g_out (hi := 7) (fun k h => match k, h with | 0, _ => n0 | 1, _ => n1 | 2, _ => n2 | 3, _ => n3 | 4, _ => n4 | 5, _ => n5 | 6, _ => n6 | 7, _ => n7 | k + 8, h => absurd h (by omega))) (by decide) ?_
                  refine lv_iconst (v := (-1)) hx hb dX4_change_133 (by decide +kernel) ?_
                  cases hf
                  exact g_iret hx hb hr hlocks hG hS dX4_change_134

def rmX4_reduce : Room := { frames := 4, cells := 0, slots := 0, locals := 111 }
noncomputable def BX4_reduce_73  (σ : g_S)  : Option (g_S) := some σ
noncomputable def fX4_reduce (σ : g_S) (x0 : Nat) : Option (g_S) := (g_fr σ 4 x0 1).bind fun v1 => (g_fr σ 4 x0 0).bind fun v2 => (g_fr σ 2 v2 0).bind fun v3 => (g_fr σ 4 x0 0).bind fun v4 => (g_fr σ 2 v4 1).bind fun v5 => (g_o σ 0 v1).bind fun o6 => (fX0_of σ v1 v3 v5).bind fun r7 => (g_o r7.2 3 r7.1).bind fun o8 => (fX3_isOne r7.2 r7.1).bind fun r9 => if r9.1 = 0 then ((g_fr r9.2 4 x0 0).bind fun v11 => (g_fr r9.2 2 v11 0).bind fun v12 => (g_fr r9.2 4 x0 0).bind fun v13 => (g_fr r9.2 2 v13 0).bind fun v14 => (g_o r9.2 4 x0).bind fun o15 => (fX4_over r9.2 x0 v14 r7.1).bind fun r16 => (g_o r16.2 3 v12).bind fun o17 => (fX3_become r16.2 v12 r16.1).bind fun r18 => (g_fr r18 4 x0 0).bind fun v19 => (g_fr r18 2 v19 1).bind fun v20 => (g_fr r18 4 x0 0).bind fun v21 => (g_fr r18 2 v21 1).bind fun v22 => (g_o r18 4 x0).bind fun o23 => (fX4_over r18 x0 v22 r7.1).bind fun r24 => (g_o r24.2 3 v20).bind fun o25 => (fX3_become r24.2 v20 r24.1).bind fun r26 => BX4_reduce_73 r26) else (BX4_reduce_73 r9.2)
set_option maxHeartbeats 4000000 in
set_option maxRecDepth 100000 in
theorem tBX4_reduce_73 {p : Program} {l : Launch} {e : Env} {s : State} {m : MethodId} {args : Array Value} {below : List Frame} {meth : Method} {c : Code} {D : g_D} {out : g_S} (C : g_C RX4 cX4_reduce 2 none True p s m args meth c) (hK : g_K D s)  : ∀ (σ : g_S)  (H : Heap) (locs : List Loc) (ls : Array Slot), g_H D σ H → va_S (g_A D) s.heap H locs → lv_has ls 2 [] → BX4_reduce_73  σ  = some out → W p l e rmX4_reduce s m args below meth c H locs 0 0 (MQ below (g_Q D out (none)) args s 0 0 (g_A D)) (F0 m 73 ls []) := by
  obtain ⟨hx, hb, hml, hown, hts, hr, hlocks, hin⟩ := id C
  intro σ  H locs ls hG hS hl hf
  unfold BX4_reduce_73 at hf
  cases hf
  exact g_vret hx hb hr hlocks hG hS dX4_reduce_73

set_option maxHeartbeats 4000000 in
set_option maxRecDepth 100000 in
theorem tX4_reduce (l : Launch) (D : g_D) {σ : g_S} {x0 : Nat} {out : g_S} (hf : fX4_reduce σ x0 = some out) : Met l yX4_reduce (Cond.code yX4_reduce cX4_reduce 2 none :: lw_g) rmX4_reduce (g_P D σ [.ref x0]) (g_Q D out (none)) 0 0 (g_A D) := by
  refine Met.ofW (cc := cX4_reduce) (maxL := 2) (ret := none) (by decide +kernel) rfl ?_
  intro p e s m args below meth c s₁ B hml hv
  obtain ⟨rfl, hG, hK⟩ := hv
  have hts : ∀ w ∈ lw_g, w.before _ s = true := fun w h => atoms_spec (ws := (Cond.code yX4_reduce cX4_reduce 2 none :: lw_g)) B.pre w (List.mem_cons_of_mem _ h)
  have C : g_C RX4 cX4_reduce 2 none True p s m _ meth c := ⟨B.exec, B.bytes, hml, findClass_of_methodNamed B.named, hts, B.returns, B.notSynchronized, trivial⟩
  obtain ⟨hx, hb, hml, hown, hts, hr, hlocks, hin⟩ := id C
  have hS : va_S (g_A D) s.heap s.heap [] := va_S.rf
  have hl := lv_entry ([.ref x0]) (n := 2) (Nat.le_of_ble_eq_true rfl)
  rw [lg_entry_eq]
  generalize (lg_sl ([.ref x0]) ++ List.replicate (2 - (lg_sl ([.ref x0])).length) Slot.unset).toArray = ls at hl ⊢
  have hl : lv_has ls 2 [(0, .ref x0)] := hl
  unfold fX4_reduce at hf
  refine lv_aload_n hx hb dX4_reduce_0 rfl (lv_at hl 0 rfl) ?_
  obtain ⟨v1, hv1, hf⟩ := g_bind hf
  refine g_getr hx hb hts hown hK hG hv1 rfl iX4 (by decide) flX4_23 dX4_reduce_1 ?_
  refine lv_aload_n hx hb dX4_reduce_4 rfl (lv_at hl 0 rfl) ?_
  obtain ⟨v2, hv2, hf⟩ := g_bind hf
  refine g_getr hx hb hts hown hK hG hv2 rfl iX4 (by decide) flX4_14 dX4_reduce_5 ?_
  obtain ⟨v3, hv3, hf⟩ := g_bind hf
  refine g_getr hx hb hts hown hK hG hv3 rfl iX2 (by decide) flX4_59 dX4_reduce_8 ?_
  refine lv_aload_n hx hb dX4_reduce_11 rfl (lv_at hl 0 rfl) ?_
  obtain ⟨v4, hv4, hf⟩ := g_bind hf
  refine g_getr hx hb hts hown hK hG hv4 rfl iX4 (by decide) flX4_14 dX4_reduce_12 ?_
  obtain ⟨v5, hv5, hf⟩ := g_bind hf
  refine g_getr hx hb hts hown hK hG hv5 rfl iX2 (by decide) flX4_62 dX4_reduce_15 ?_
  obtain ⟨o6, ho6, hf⟩ := g_bind hf
  obtain ⟨r7, hr7, hf⟩ := g_bind hf
  refine g_callV hx hb hml hl.1 hts hown hK hG hS (As := [.ref v3, .ref v5]) (rest := []) (tX0_of l D hr7) vX0_of mlX4_111 ho6 rfl rfl rfl rfl ⟨Nat.le_of_ble_eq_true rfl, Nat.le_of_ble_eq_true rfl⟩ rfl rfl (Nat.le_of_ble_eq_true rfl) ⟨Nat.le_of_ble_eq_true rfl, Nat.le_of_ble_eq_true rfl⟩ dX4_reduce_18 (fun H locs hG hS => ?_)
  refine lv_astore_n (lv' := [(1, .ref r7.1), (0, .ref x0)]) hx hb dX4_reduce_21 rfl hl (by decide) rfl (fun ls hl => ?_)
  refine lv_aload_n hx hb dX4_reduce_22 rfl (lv_at hl 0 rfl) ?_
  obtain ⟨o8, ho8, hf⟩ := g_bind hf
  obtain ⟨r9, hr9, hf⟩ := g_bind hf
  refine g_callV hx hb hml hl.1 hts hown hK hG hS (As := []) (rest := []) (tX3_isOne l D hr9) vX3_isOne mlX4_115 ho8 rfl rfl rfl rfl ⟨Nat.le_of_ble_eq_true rfl, Nat.le_of_ble_eq_true rfl⟩ rfl rfl (Nat.le_of_ble_eq_true rfl) ⟨Nat.le_of_ble_eq_true rfl, Nat.le_of_ble_eq_true rfl⟩ dX4_reduce_23 (fun H locs hG hS => ?_)
  refine lv_if_ne (tgt := 73) hx hb dX4_reduce_26 (by decide) (fun c10 => ?_) (fun c10 => ?_)
  · rw [if_neg c10] at hf
    exact tBX4_reduce_73 C hK   _  _ _ _ hG hS (lv_sub hl [] rfl) hf
  · rw [if_pos c10] at hf
    refine lv_aload_n hx hb dX4_reduce_29 rfl (lv_at hl 1 rfl) ?_
    obtain ⟨v11, hv11, hf⟩ := g_bind hf
    refine g_getr hx hb hts hown hK hG hv11 rfl iX4 (by decide) flX4_14 dX4_reduce_30 ?_
    obtain ⟨v12, hv12, hf⟩ := g_bind hf
    refine g_getr hx hb hts hown hK hG hv12 rfl iX2 (by decide) flX4_59 dX4_reduce_33 ?_
    refine lv_aload_n hx hb dX4_reduce_36 rfl (lv_at hl 1 rfl) ?_
    refine lv_aload_n hx hb dX4_reduce_37 rfl (lv_at hl 1 rfl) ?_
    obtain ⟨v13, hv13, hf⟩ := g_bind hf
    refine g_getr hx hb hts hown hK hG hv13 rfl iX4 (by decide) flX4_14 dX4_reduce_38 ?_
    obtain ⟨v14, hv14, hf⟩ := g_bind hf
    refine g_getr hx hb hts hown hK hG hv14 rfl iX2 (by decide) flX4_59 dX4_reduce_41 ?_
    refine lv_aload_n hx hb dX4_reduce_44 rfl (lv_at hl 0 rfl) ?_
    obtain ⟨o15, ho15, hf⟩ := g_bind hf
    obtain ⟨r16, hr16, hf⟩ := g_bind hf
    refine g_callV hx hb hml hl.1 hts hown hK hG hS (As := [.ref v14, .ref r7.1]) (rest := [.ref v12]) (tX4_over l D hr16) vX4_over mlX4_118 ho15 rfl rfl rfl rfl ⟨Nat.le_of_ble_eq_true rfl, Nat.le_of_ble_eq_true rfl⟩ rfl rfl (Nat.le_of_ble_eq_true rfl) ⟨Nat.le_of_ble_eq_true rfl, Nat.le_of_ble_eq_true rfl⟩ dX4_reduce_45 (fun H locs hG hS => ?_)
    obtain ⟨o17, ho17, hf⟩ := g_bind hf
    obtain ⟨r18, hr18, hf⟩ := g_bind hf
    refine g_callV hx hb hml hl.1 hts hown hK hG hS (As := [.ref r16.1]) (rest := []) (tX3_become l D hr18) vX3_become mlX4_121 ho17 rfl rfl rfl rfl ⟨Nat.le_of_ble_eq_true rfl, Nat.le_of_ble_eq_true rfl⟩ rfl rfl (Nat.le_of_ble_eq_true rfl) ⟨Nat.le_of_ble_eq_true rfl, Nat.le_of_ble_eq_true rfl⟩ dX4_reduce_48 (fun H locs hG hS => ?_)
    refine lv_aload_n hx hb dX4_reduce_51 rfl (lv_at hl 1 rfl) ?_
    obtain ⟨v19, hv19, hf⟩ := g_bind hf
    refine g_getr hx hb hts hown hK hG hv19 rfl iX4 (by decide) flX4_14 dX4_reduce_52 ?_
    obtain ⟨v20, hv20, hf⟩ := g_bind hf
    refine g_getr hx hb hts hown hK hG hv20 rfl iX2 (by decide) flX4_62 dX4_reduce_55 ?_
    refine lv_aload_n hx hb dX4_reduce_58 rfl (lv_at hl 1 rfl) ?_
    refine lv_aload_n hx hb dX4_reduce_59 rfl (lv_at hl 1 rfl) ?_
    obtain ⟨v21, hv21, hf⟩ := g_bind hf
    refine g_getr hx hb hts hown hK hG hv21 rfl iX4 (by decide) flX4_14 dX4_reduce_60 ?_
    obtain ⟨v22, hv22, hf⟩ := g_bind hf
    refine g_getr hx hb hts hown hK hG hv22 rfl iX2 (by decide) flX4_62 dX4_reduce_63 ?_
    refine lv_aload_n hx hb dX4_reduce_66 rfl (lv_at hl 0 rfl) ?_
    obtain ⟨o23, ho23, hf⟩ := g_bind hf
    obtain ⟨r24, hr24, hf⟩ := g_bind hf
    refine g_callV hx hb hml hl.1 hts hown hK hG hS (As := [.ref v22, .ref r7.1]) (rest := [.ref v20]) (tX4_over l D hr24) vX4_over mlX4_118 ho23 rfl rfl rfl rfl ⟨Nat.le_of_ble_eq_true rfl, Nat.le_of_ble_eq_true rfl⟩ rfl rfl (Nat.le_of_ble_eq_true rfl) ⟨Nat.le_of_ble_eq_true rfl, Nat.le_of_ble_eq_true rfl⟩ dX4_reduce_67 (fun H locs hG hS => ?_)
    obtain ⟨o25, ho25, hf⟩ := g_bind hf
    obtain ⟨r26, hr26, hf⟩ := g_bind hf
    refine g_callV hx hb hml hl.1 hts hown hK hG hS (As := [.ref r24.1]) (rest := []) (tX3_become l D hr26) vX3_become mlX4_121 ho25 rfl rfl rfl rfl ⟨Nat.le_of_ble_eq_true rfl, Nat.le_of_ble_eq_true rfl⟩ rfl rfl (Nat.le_of_ble_eq_true rfl) ⟨Nat.le_of_ble_eq_true rfl, Nat.le_of_ble_eq_true rfl⟩ dX4_reduce_70 (fun H locs hG hS => ?_)
    exact tBX4_reduce_73 C hK   _  _ _ _ hG hS (lv_sub hl [] rfl) hf

