def rmX7_init : Room := { frames := 5, cells := 115, slots := 11799, locals := 102 }
noncomputable def fX7_init (σ : g_S) (x0 : Nat) : Option (g_S) := g_let σ.2 fun a2 => g_let (g_mk σ (.inl (4, 16, .inr (.inr (.inr (.inr (fun _ => none))))))) fun σ1 => (g_p σ1 7 x0 0 (.ref a2)).bind fun σ3 => g_let σ3.2 fun a5 => g_let (g_mk σ3 (.inr (4, [.null, .null, .null, .null, .null, .null, .null, .null]))) fun σ4 => (fX4_init σ4 a5).bind fun r6 => (g_p r6 7 x0 1 (.ref a5)).bind fun σ7 => g_let σ7.2 fun a9 => g_let (g_mk σ7 (.inr (5, [.null, .int 0, .int 0]))) fun σ8 => (fX5_init σ8 a9).bind fun r10 => (g_p r10 7 x0 2 (.ref a9)).bind fun σ11 => g_let σ11.2 fun a13 => g_let (g_mk σ11 (.inr (6, [.null, .int 0, .null]))) fun σ12 => (fX6_init σ12 a13).bind fun r14 => (g_p r14 7 x0 3 (.ref a13)).bind fun σ15 => (g_fr σ15 7 x0 0).bind fun v16 => g_let σ15.2 fun a18 => g_let (g_mk σ15 (.inr (2, [.null, .null, .int 0]))) fun σ17 => (fX2_init σ17 a18 67).bind fun r19 => (g_sq r19 4 2 v16 0 a18).bind fun σ20 => (g_fr σ20 7 x0 0).bind fun v21 => g_let σ20.2 fun a23 => g_let (g_mk σ20 (.inr (2, [.null, .null, .int 0]))) fun σ22 => (fX2_init σ22 a23 67).bind fun r24 => (g_sq r24 4 2 v21 1 a23).bind fun σ25 => (g_fr σ25 7 x0 0).bind fun v26 => g_let σ25.2 fun a28 => g_let (g_mk σ25 (.inr (2, [.null, .null, .int 0]))) fun σ27 => (fX2_init σ27 a28 67).bind fun r29 => (g_sq r29 4 2 v26 2 a28).bind fun σ30 => (g_fr σ30 7 x0 0).bind fun v31 => g_let σ30.2 fun a33 => g_let (g_mk σ30 (.inr (2, [.null, .null, .int 0]))) fun σ32 => (fX2_init σ32 a33 67).bind fun r34 => (g_sq r34 4 2 v31 3 a33).bind fun σ35 => (g_fr σ35 7 x0 0).bind fun v36 => g_let σ35.2 fun a38 => g_let (g_mk σ35 (.inr (2, [.null, .null, .int 0]))) fun σ37 => (fX2_init σ37 a38 67).bind fun r39 => (g_sq r39 4 2 v36 4 a38).bind fun σ40 => (g_fr σ40 7 x0 0).bind fun v41 => g_let σ40.2 fun a43 => g_let (g_mk σ40 (.inr (2, [.null, .null, .int 0]))) fun σ42 => (fX2_init σ42 a43 67).bind fun r44 => (g_sq r44 4 2 v41 5 a43).bind fun σ45 => (g_fr σ45 7 x0 0).bind fun v46 => g_let σ45.2 fun a48 => g_let (g_mk σ45 (.inr (2, [.null, .null, .int 0]))) fun σ47 => (fX2_init σ47 a48 67).bind fun r49 => (g_sq r49 4 2 v46 6 a48).bind fun σ50 => (g_fr σ50 7 x0 0).bind fun v51 => g_let σ50.2 fun a53 => g_let (g_mk σ50 (.inr (2, [.null, .null, .int 0]))) fun σ52 => (fX2_init σ52 a53 67).bind fun r54 => (g_sq r54 4 2 v51 7 a53).bind fun σ55 => (g_fr σ55 7 x0 0).bind fun v56 => g_let σ55.2 fun a58 => g_let (g_mk σ55 (.inr (2, [.null, .null, .int 0]))) fun σ57 => (fX2_init σ57 a58 67).bind fun r59 => (g_sq r59 4 2 v56 8 a58).bind fun σ60 => (g_fr σ60 7 x0 0).bind fun v61 => g_let σ60.2 fun a63 => g_let (g_mk σ60 (.inr (2, [.null, .null, .int 0]))) fun σ62 => (fX2_init σ62 a63 67).bind fun r64 => (g_sq r64 4 2 v61 9 a63).bind fun σ65 => (g_fr σ65 7 x0 0).bind fun v66 => g_let σ65.2 fun a68 => g_let (g_mk σ65 (.inr (2, [.null, .null, .int 0]))) fun σ67 => (fX2_init σ67 a68 67).bind fun r69 => (g_sq r69 4 2 v66 10 a68).bind fun σ70 => (g_fr σ70 7 x0 0).bind fun v71 => g_let σ70.2 fun a73 => g_let (g_mk σ70 (.inr (2, [.null, .null, .int 0]))) fun σ72 => (fX2_init σ72 a73 67).bind fun r74 => (g_sq r74 4 2 v71 11 a73).bind fun σ75 => (g_fr σ75 7 x0 0).bind fun v76 => g_let σ75.2 fun a78 => g_let (g_mk σ75 (.inr (2, [.null, .null, .int 0]))) fun σ77 => (fX2_init σ77 a78 67).bind fun r79 => (g_sq r79 4 2 v76 12 a78).bind fun σ80 => (g_fr σ80 7 x0 0).bind fun v81 => g_let σ80.2 fun a83 => g_let (g_mk σ80 (.inr (2, [.null, .null, .int 0]))) fun σ82 => (fX2_init σ82 a83 67).bind fun r84 => (g_sq r84 4 2 v81 13 a83).bind fun σ85 => (g_fr σ85 7 x0 0).bind fun v86 => g_let σ85.2 fun a88 => g_let (g_mk σ85 (.inr (2, [.null, .null, .int 0]))) fun σ87 => (fX2_init σ87 a88 67).bind fun r89 => (g_sq r89 4 2 v86 14 a88).bind fun σ90 => (g_fr σ90 7 x0 0).bind fun v91 => g_let σ90.2 fun a93 => g_let (g_mk σ90 (.inr (2, [.null, .null, .int 0]))) fun σ92 => (fX2_init σ92 a93 67).bind fun r94 => (g_sq r94 4 2 v91 15 a93).bind fun σ95 => some σ95
set_option maxHeartbeats 4000000 in
set_option maxRecDepth 100000 in
theorem tX7_init (l : Launch) (D : g_D) {σ : g_S} {x0 : Nat} {out : g_S} (hf : fX7_init σ x0 = some out) : Met l yX7_init (Cond.code yX7_init cX7_init 2 none :: lw_g) rmX7_init (g_P D σ [.ref x0]) (g_Q D out (none)) 115 11799 (g_A D) := by
  refine Met.ofW (cc := cX7_init) (maxL := 2) (ret := none) (by decide +kernel) rfl ?_
  intro p e s m args below meth c s₁ B hml hv
  obtain ⟨rfl, hG, hK⟩ := hv
  have hts : ∀ w ∈ lw_g, w.before _ s = true := fun w h => atoms_spec (ws := (Cond.code yX7_init cX7_init 2 none :: lw_g)) B.pre w (List.mem_cons_of_mem _ h)
  have C : g_C RX7 cX7_init 2 none (meth.name = "<init>") p s m _ meth c := ⟨B.exec, B.bytes, hml, findClass_of_methodNamed B.named, hts, B.returns, B.notSynchronized, (name_of_methodNamed B.named B.method).1⟩
  obtain ⟨hx, hb, hml, hown, hts, hr, hlocks, hin⟩ := id C
  have hS : va_S (g_A D) s.heap s.heap [] := va_S.rf
  have hl := lv_entry ([.ref x0]) (n := 2) (Nat.le_of_ble_eq_true rfl)
  rw [lg_entry_eq]
  generalize (lg_sl ([.ref x0]) ++ List.replicate (2 - (lg_sl ([.ref x0])).length) Slot.unset).toArray = ls at hl ⊢
  have hl : lv_has ls 2 [(0, .ref x0)] := hl
  unfold fX7_init at hf
  refine lv_aload_n hx hb dX7_init_0 rfl (lv_at hl 0 rfl) ?_
  refine W.objInit hx hb hown (hts _ oi_lX7) (hts _ oi_i) (hts _ oi_c) rfl (by rw [hml]; exact hl.1) rfl dX7_init_1 (Nat.le_of_ble_eq_true rfl) (Nat.le_of_ble_eq_true rfl) ?_
  refine W.eq (g2 := F0 m 4 ls []) rfl ?_
  refine lv_aload_n hx hb dX7_init_4 rfl (lv_at hl 0 rfl) ?_
  refine lv_bipush (v := 16) hx hb dX7_init_5 (by decide +kernel) ?_
  obtain ⟨a2, ea2, hf⟩ := g_let_spec hf
  obtain ⟨σ1, eσ1, hf⟩ := g_let_spec hf
  refine g_newq (N := 16) (t := 4) hx hb hts hown hK hG hS clX7_9 hK.2.1.2 rfl (by decide) rfl (Nat.le_of_ble_eq_true rfl) (Nat.le_of_ble_eq_true rfl) (Nat.le_of_ble_eq_true rfl) dX7_init_7 (fun H hG hS => ?_)
  rw [eσ1] at hG
  rw [ea2]
  refine W.cs (cells' := 1) (slots' := 16) rfl rfl ?_
  obtain ⟨σ3, hσ3, hf⟩ := g_bind hf
  refine g_putF hx hb hts hown hin hK hG hS hσ3 rfl iX7 tyX7 tyX7_ok nmX7 (by decide) flX7_11 rfl rfl rfl rfl dX7_init_10 (fun H locs hG hS => ?_)
  refine lv_aload_n hx hb dX7_init_13 rfl (lv_at hl 0 rfl) ?_
  obtain ⟨a5, ea5, hf⟩ := g_let_spec hf
  obtain ⟨σ4, eσ4, hf⟩ := g_let_spec hf
  refine g_new (fs := [.null, .null, .null, .null, .null, .null, .null, .null]) hx hb hts hown hK hG hS (ci := 4) rfl iX4 tyX4 tyX4_ok clX7_15 inX4 itX4 (fun j hj => by rcases (show j = 0 ∨ j = 1 ∨ j = 2 ∨ j = 3 ∨ j = 4 ∨ j = 5 ∨ j = 6 ∨ j = 7 by omega) with rfl | rfl | rfl | rfl | rfl | rfl | rfl | rfl <;> rfl) (Nat.le_of_ble_eq_true rfl) (Nat.le_of_ble_eq_true rfl) dX7_init_14 (fun H hG hS => ?_)
  rw [eσ4] at hG
  rw [ea5]
  refine W.cs (cells' := 2) (slots' := 24) rfl rfl ?_
  refine lv_dup hx hb dX7_init_17 rfl ?_
  obtain ⟨r6, hr6, hf⟩ := g_bind hf
  refine g_callIN hx hb hml hl.1 hts hown hK hG hS (As := []) (rest := [.ref a5, .ref x0]) (tX4_init l D hr6) vX4_init (host := "FractionDesk") (by decide +kernel) rfl rfl ⟨Nat.le_of_ble_eq_true rfl, Nat.le_of_ble_eq_true rfl⟩ rfl rfl (Nat.le_of_ble_eq_true rfl) ⟨Nat.le_of_ble_eq_true rfl, Nat.le_of_ble_eq_true rfl⟩ dX7_init_18 (fun H locs hG hS => ?_)
  refine W.cs (cells' := 29) (slots' := 1693) rfl rfl ?_
  obtain ⟨σ7, hσ7, hf⟩ := g_bind hf
  refine g_putF hx hb hts hown hin hK hG hS hσ7 rfl iX7 tyX7 tyX7_ok nmX7 (by decide) flX7_18 rfl rfl rfl rfl dX7_init_21 (fun H locs hG hS => ?_)
  refine lv_aload_n hx hb dX7_init_24 rfl (lv_at hl 0 rfl) ?_
  obtain ⟨a9, ea9, hf⟩ := g_let_spec hf
  obtain ⟨σ8, eσ8, hf⟩ := g_let_spec hf
  refine g_new (fs := [.null, .int 0, .int 0]) hx hb hts hown hK hG hS (ci := 5) rfl iX5 tyX5 tyX5_ok clX7_22 inX5 itX5 (fun j hj => by rcases (show j = 0 ∨ j = 1 ∨ j = 2 by omega) with rfl | rfl | rfl <;> rfl) (Nat.le_of_ble_eq_true rfl) (Nat.le_of_ble_eq_true rfl) dX7_init_25 (fun H hG hS => ?_)
  rw [eσ8] at hG
  rw [ea9]
  refine W.cs (cells' := 30) (slots' := 1696) rfl rfl ?_
  refine lv_dup hx hb dX7_init_28 rfl ?_
  obtain ⟨r10, hr10, hf⟩ := g_bind hf
  refine g_callIN hx hb hml hl.1 hts hown hK hG hS (As := []) (rest := [.ref a9, .ref x0]) (tX5_init l D hr10) vX5_init (host := "FractionDesk") (by decide +kernel) rfl rfl ⟨Nat.le_of_ble_eq_true rfl, Nat.le_of_ble_eq_true rfl⟩ rfl rfl (Nat.le_of_ble_eq_true rfl) ⟨Nat.le_of_ble_eq_true rfl, Nat.le_of_ble_eq_true rfl⟩ dX7_init_29 (fun H locs hG hS => ?_)
  refine W.cs (cells' := 31) (slots' := 3096) rfl rfl ?_
  obtain ⟨σ11, hσ11, hf⟩ := g_bind hf
  refine g_putF hx hb hts hown hin hK hG hS hσ11 rfl iX7 tyX7 tyX7_ok nmX7 (by decide) flX7_25 rfl rfl rfl rfl dX7_init_32 (fun H locs hG hS => ?_)
  refine lv_aload_n hx hb dX7_init_35 rfl (lv_at hl 0 rfl) ?_
  obtain ⟨a13, ea13, hf⟩ := g_let_spec hf
  obtain ⟨σ12, eσ12, hf⟩ := g_let_spec hf
  refine g_new (fs := [.null, .int 0, .null]) hx hb hts hown hK hG hS (ci := 6) rfl iX6 tyX6 tyX6_ok clX7_29 inX6 itX6 (fun j hj => by rcases (show j = 0 ∨ j = 1 ∨ j = 2 by omega) with rfl | rfl | rfl <;> rfl) (Nat.le_of_ble_eq_true rfl) (Nat.le_of_ble_eq_true rfl) dX7_init_36 (fun H hG hS => ?_)
  rw [eσ12] at hG
  rw [ea13]
  refine W.cs (cells' := 32) (slots' := 3099) rfl rfl ?_
  refine lv_dup hx hb dX7_init_39 rfl ?_
  obtain ⟨r14, hr14, hf⟩ := g_bind hf
  refine g_callIN hx hb hml hl.1 hts hown hK hG hS (As := []) (rest := [.ref a13, .ref x0]) (tX6_init l D hr14) vX6_init (host := "FractionDesk") (by decide +kernel) rfl rfl ⟨Nat.le_of_ble_eq_true rfl, Nat.le_of_ble_eq_true rfl⟩ rfl rfl (Nat.le_of_ble_eq_true rfl) ⟨Nat.le_of_ble_eq_true rfl, Nat.le_of_ble_eq_true rfl⟩ dX7_init_40 (fun H locs hG hS => ?_)
  refine W.cs (cells' := 35) (slots' := 7335) rfl rfl ?_
  obtain ⟨σ15, hσ15, hf⟩ := g_bind hf
  refine g_putF hx hb hts hown hin hK hG hS hσ15 rfl iX7 tyX7 tyX7_ok nmX7 (by decide) flX7_32 rfl rfl rfl rfl dX7_init_43 (fun H locs hG hS => ?_)
  refine lv_iconst (v := 0) hx hb dX7_init_46 (by decide +kernel) ?_
  refine lv_istore_n (lv' := [(1, .int 0), (0, .ref x0)]) hx hb dX7_init_47 rfl hl (by decide) rfl (fun ls hl => ?_)
  refine lv_iload_n hx hb dX7_init_48 rfl (lv_at hl 0 rfl) ?_
  refine lv_bipush (v := 16) hx hb dX7_init_49 (by decide +kernel) ?_
  refine lv_icmp_ge (tgt := 75) hx hb dX7_init_51 (by decide) (fun hc => absurd hc (by decide)) (fun hc => ?_)
  refine lv_aload_n hx hb dX7_init_54 rfl (lv_at hl 1 rfl) ?_
  obtain ⟨v16, hv16, hf⟩ := g_bind hf
  refine g_getr hx hb hts hown hK hG hv16 rfl iX7 (by decide) flX7_11 dX7_init_55 ?_
  refine lv_iload_n hx hb dX7_init_58 rfl (lv_at hl 0 rfl) ?_
  obtain ⟨a18, ea18, hf⟩ := g_let_spec hf
  obtain ⟨σ17, eσ17, hf⟩ := g_let_spec hf
  refine g_new (fs := [.null, .null, .int 0]) hx hb hts hown hK hG hS (ci := 2) rfl iX2 tyX2 tyX2_ok clX7_9 inX2 itX2 (fun j hj => by rcases (show j = 0 ∨ j = 1 ∨ j = 2 by omega) with rfl | rfl | rfl <;> rfl) (Nat.le_of_ble_eq_true rfl) (Nat.le_of_ble_eq_true rfl) dX7_init_59 (fun H hG hS => ?_)
  rw [eσ17] at hG
  rw [ea18]
  refine W.cs (cells' := 36) (slots' := 7338) rfl rfl ?_
  refine lv_dup hx hb dX7_init_62 rfl ?_
  refine lv_bipush (v := 67) hx hb dX7_init_63 (by decide +kernel) ?_
  obtain ⟨r19, hr19, hf⟩ := g_bind hf
  refine g_callI hx hb hml hl.1 hts hown hK hG hS (As := [.int 67]) (rest := [.ref a18, .int 0, .ref v16]) (tX2_init l D hr19) vX2_init mlX7_36 rfl rfl ⟨Nat.le_of_ble_eq_true rfl, Nat.le_of_ble_eq_true rfl⟩ rfl rfl (Nat.le_of_ble_eq_true rfl) ⟨Nat.le_of_ble_eq_true rfl, Nat.le_of_ble_eq_true rfl⟩ dX7_init_65 (fun H locs hG hS => ?_)
  refine W.cs (cells' := 40) (slots' := 7614) rfl rfl ?_
  obtain ⟨σ20, hσ20, hf⟩ := g_bind hf
  refine g_qast hx hb hK hG hS hσ20 rfl rfl dX7_init_68 (fun H locs hG hS => ?_)
  refine lv_iinc (v := 1) (lv' := [(1, .int 1), (0, .ref x0)]) hx hb dX7_init_69 hl (k := 0) rfl (by decide +kernel) (by decide) rfl (fun ls hl => ?_)
  refine lv_goto (tgt := 48) hx hb dX7_init_72 (by decide) ?_
  refine lv_iload_n hx hb dX7_init_48 rfl (lv_at hl 0 rfl) ?_
  refine lv_bipush (v := 16) hx hb dX7_init_49 (by decide +kernel) ?_
  refine lv_icmp_ge (tgt := 75) hx hb dX7_init_51 (by decide) (fun hc => absurd hc (by decide)) (fun hc => ?_)
  refine lv_aload_n hx hb dX7_init_54 rfl (lv_at hl 1 rfl) ?_
  obtain ⟨v21, hv21, hf⟩ := g_bind hf
  refine g_getr hx hb hts hown hK hG hv21 rfl iX7 (by decide) flX7_11 dX7_init_55 ?_
  refine lv_iload_n hx hb dX7_init_58 rfl (lv_at hl 0 rfl) ?_
  obtain ⟨a23, ea23, hf⟩ := g_let_spec hf
  obtain ⟨σ22, eσ22, hf⟩ := g_let_spec hf
  refine g_new (fs := [.null, .null, .int 0]) hx hb hts hown hK hG hS (ci := 2) rfl iX2 tyX2 tyX2_ok clX7_9 inX2 itX2 (fun j hj => by rcases (show j = 0 ∨ j = 1 ∨ j = 2 by omega) with rfl | rfl | rfl <;> rfl) (Nat.le_of_ble_eq_true rfl) (Nat.le_of_ble_eq_true rfl) dX7_init_59 (fun H hG hS => ?_)
  rw [eσ22] at hG
  rw [ea23]
  refine W.cs (cells' := 41) (slots' := 7617) rfl rfl ?_
  refine lv_dup hx hb dX7_init_62 rfl ?_
  refine lv_bipush (v := 67) hx hb dX7_init_63 (by decide +kernel) ?_
  obtain ⟨r24, hr24, hf⟩ := g_bind hf
  refine g_callI hx hb hml hl.1 hts hown hK hG hS (As := [.int 67]) (rest := [.ref a23, .int 1, .ref v21]) (tX2_init l D hr24) vX2_init mlX7_36 rfl rfl ⟨Nat.le_of_ble_eq_true rfl, Nat.le_of_ble_eq_true rfl⟩ rfl rfl (Nat.le_of_ble_eq_true rfl) ⟨Nat.le_of_ble_eq_true rfl, Nat.le_of_ble_eq_true rfl⟩ dX7_init_65 (fun H locs hG hS => ?_)
  refine W.cs (cells' := 45) (slots' := 7893) rfl rfl ?_
  obtain ⟨σ25, hσ25, hf⟩ := g_bind hf
  refine g_qast hx hb hK hG hS hσ25 rfl rfl dX7_init_68 (fun H locs hG hS => ?_)
  refine lv_iinc (v := 2) (lv' := [(1, .int 2), (0, .ref x0)]) hx hb dX7_init_69 hl (k := 0) rfl (by decide +kernel) (by decide) rfl (fun ls hl => ?_)
  refine lv_goto (tgt := 48) hx hb dX7_init_72 (by decide) ?_
  refine lv_iload_n hx hb dX7_init_48 rfl (lv_at hl 0 rfl) ?_
  refine lv_bipush (v := 16) hx hb dX7_init_49 (by decide +kernel) ?_
  refine lv_icmp_ge (tgt := 75) hx hb dX7_init_51 (by decide) (fun hc => absurd hc (by decide)) (fun hc => ?_)
  refine lv_aload_n hx hb dX7_init_54 rfl (lv_at hl 1 rfl) ?_
  obtain ⟨v26, hv26, hf⟩ := g_bind hf
  refine g_getr hx hb hts hown hK hG hv26 rfl iX7 (by decide) flX7_11 dX7_init_55 ?_
  refine lv_iload_n hx hb dX7_init_58 rfl (lv_at hl 0 rfl) ?_
  obtain ⟨a28, ea28, hf⟩ := g_let_spec hf
  obtain ⟨σ27, eσ27, hf⟩ := g_let_spec hf
  refine g_new (fs := [.null, .null, .int 0]) hx hb hts hown hK hG hS (ci := 2) rfl iX2 tyX2 tyX2_ok clX7_9 inX2 itX2 (fun j hj => by rcases (show j = 0 ∨ j = 1 ∨ j = 2 by omega) with rfl | rfl | rfl <;> rfl) (Nat.le_of_ble_eq_true rfl) (Nat.le_of_ble_eq_true rfl) dX7_init_59 (fun H hG hS => ?_)
  rw [eσ27] at hG
  rw [ea28]
  refine W.cs (cells' := 46) (slots' := 7896) rfl rfl ?_
  refine lv_dup hx hb dX7_init_62 rfl ?_
  refine lv_bipush (v := 67) hx hb dX7_init_63 (by decide +kernel) ?_
  obtain ⟨r29, hr29, hf⟩ := g_bind hf
  refine g_callI hx hb hml hl.1 hts hown hK hG hS (As := [.int 67]) (rest := [.ref a28, .int 2, .ref v26]) (tX2_init l D hr29) vX2_init mlX7_36 rfl rfl ⟨Nat.le_of_ble_eq_true rfl, Nat.le_of_ble_eq_true rfl⟩ rfl rfl (Nat.le_of_ble_eq_true rfl) ⟨Nat.le_of_ble_eq_true rfl, Nat.le_of_ble_eq_true rfl⟩ dX7_init_65 (fun H locs hG hS => ?_)
  refine W.cs (cells' := 50) (slots' := 8172) rfl rfl ?_
  obtain ⟨σ30, hσ30, hf⟩ := g_bind hf
  refine g_qast hx hb hK hG hS hσ30 rfl rfl dX7_init_68 (fun H locs hG hS => ?_)
  refine lv_iinc (v := 3) (lv' := [(1, .int 3), (0, .ref x0)]) hx hb dX7_init_69 hl (k := 0) rfl (by decide +kernel) (by decide) rfl (fun ls hl => ?_)
  refine lv_goto (tgt := 48) hx hb dX7_init_72 (by decide) ?_
  refine lv_iload_n hx hb dX7_init_48 rfl (lv_at hl 0 rfl) ?_
  refine lv_bipush (v := 16) hx hb dX7_init_49 (by decide +kernel) ?_
  refine lv_icmp_ge (tgt := 75) hx hb dX7_init_51 (by decide) (fun hc => absurd hc (by decide)) (fun hc => ?_)
  refine lv_aload_n hx hb dX7_init_54 rfl (lv_at hl 1 rfl) ?_
  obtain ⟨v31, hv31, hf⟩ := g_bind hf
  refine g_getr hx hb hts hown hK hG hv31 rfl iX7 (by decide) flX7_11 dX7_init_55 ?_
  refine lv_iload_n hx hb dX7_init_58 rfl (lv_at hl 0 rfl) ?_
  obtain ⟨a33, ea33, hf⟩ := g_let_spec hf
  obtain ⟨σ32, eσ32, hf⟩ := g_let_spec hf
  refine g_new (fs := [.null, .null, .int 0]) hx hb hts hown hK hG hS (ci := 2) rfl iX2 tyX2 tyX2_ok clX7_9 inX2 itX2 (fun j hj => by rcases (show j = 0 ∨ j = 1 ∨ j = 2 by omega) with rfl | rfl | rfl <;> rfl) (Nat.le_of_ble_eq_true rfl) (Nat.le_of_ble_eq_true rfl) dX7_init_59 (fun H hG hS => ?_)
  rw [eσ32] at hG
  rw [ea33]
  refine W.cs (cells' := 51) (slots' := 8175) rfl rfl ?_
  refine lv_dup hx hb dX7_init_62 rfl ?_
  refine lv_bipush (v := 67) hx hb dX7_init_63 (by decide +kernel) ?_
  obtain ⟨r34, hr34, hf⟩ := g_bind hf
  refine g_callI hx hb hml hl.1 hts hown hK hG hS (As := [.int 67]) (rest := [.ref a33, .int 3, .ref v31]) (tX2_init l D hr34) vX2_init mlX7_36 rfl rfl ⟨Nat.le_of_ble_eq_true rfl, Nat.le_of_ble_eq_true rfl⟩ rfl rfl (Nat.le_of_ble_eq_true rfl) ⟨Nat.le_of_ble_eq_true rfl, Nat.le_of_ble_eq_true rfl⟩ dX7_init_65 (fun H locs hG hS => ?_)
  refine W.cs (cells' := 55) (slots' := 8451) rfl rfl ?_
  obtain ⟨σ35, hσ35, hf⟩ := g_bind hf
  refine g_qast hx hb hK hG hS hσ35 rfl rfl dX7_init_68 (fun H locs hG hS => ?_)
  refine lv_iinc (v := 4) (lv' := [(1, .int 4), (0, .ref x0)]) hx hb dX7_init_69 hl (k := 0) rfl (by decide +kernel) (by decide) rfl (fun ls hl => ?_)
  refine lv_goto (tgt := 48) hx hb dX7_init_72 (by decide) ?_
  refine lv_iload_n hx hb dX7_init_48 rfl (lv_at hl 0 rfl) ?_
  refine lv_bipush (v := 16) hx hb dX7_init_49 (by decide +kernel) ?_
  refine lv_icmp_ge (tgt := 75) hx hb dX7_init_51 (by decide) (fun hc => absurd hc (by decide)) (fun hc => ?_)
  refine lv_aload_n hx hb dX7_init_54 rfl (lv_at hl 1 rfl) ?_
  obtain ⟨v36, hv36, hf⟩ := g_bind hf
  refine g_getr hx hb hts hown hK hG hv36 rfl iX7 (by decide) flX7_11 dX7_init_55 ?_
  refine lv_iload_n hx hb dX7_init_58 rfl (lv_at hl 0 rfl) ?_
  obtain ⟨a38, ea38, hf⟩ := g_let_spec hf
  obtain ⟨σ37, eσ37, hf⟩ := g_let_spec hf
  refine g_new (fs := [.null, .null, .int 0]) hx hb hts hown hK hG hS (ci := 2) rfl iX2 tyX2 tyX2_ok clX7_9 inX2 itX2 (fun j hj => by rcases (show j = 0 ∨ j = 1 ∨ j = 2 by omega) with rfl | rfl | rfl <;> rfl) (Nat.le_of_ble_eq_true rfl) (Nat.le_of_ble_eq_true rfl) dX7_init_59 (fun H hG hS => ?_)
  rw [eσ37] at hG
  rw [ea38]
  refine W.cs (cells' := 56) (slots' := 8454) rfl rfl ?_
  refine lv_dup hx hb dX7_init_62 rfl ?_
  refine lv_bipush (v := 67) hx hb dX7_init_63 (by decide +kernel) ?_
  obtain ⟨r39, hr39, hf⟩ := g_bind hf
  refine g_callI hx hb hml hl.1 hts hown hK hG hS (As := [.int 67]) (rest := [.ref a38, .int 4, .ref v36]) (tX2_init l D hr39) vX2_init mlX7_36 rfl rfl ⟨Nat.le_of_ble_eq_true rfl, Nat.le_of_ble_eq_true rfl⟩ rfl rfl (Nat.le_of_ble_eq_true rfl) ⟨Nat.le_of_ble_eq_true rfl, Nat.le_of_ble_eq_true rfl⟩ dX7_init_65 (fun H locs hG hS => ?_)
  refine W.cs (cells' := 60) (slots' := 8730) rfl rfl ?_
  obtain ⟨σ40, hσ40, hf⟩ := g_bind hf
  refine g_qast hx hb hK hG hS hσ40 rfl rfl dX7_init_68 (fun H locs hG hS => ?_)
  refine lv_iinc (v := 5) (lv' := [(1, .int 5), (0, .ref x0)]) hx hb dX7_init_69 hl (k := 0) rfl (by decide +kernel) (by decide) rfl (fun ls hl => ?_)
  refine lv_goto (tgt := 48) hx hb dX7_init_72 (by decide) ?_
  refine lv_iload_n hx hb dX7_init_48 rfl (lv_at hl 0 rfl) ?_
  refine lv_bipush (v := 16) hx hb dX7_init_49 (by decide +kernel) ?_
  refine lv_icmp_ge (tgt := 75) hx hb dX7_init_51 (by decide) (fun hc => absurd hc (by decide)) (fun hc => ?_)
  refine lv_aload_n hx hb dX7_init_54 rfl (lv_at hl 1 rfl) ?_
  obtain ⟨v41, hv41, hf⟩ := g_bind hf
  refine g_getr hx hb hts hown hK hG hv41 rfl iX7 (by decide) flX7_11 dX7_init_55 ?_
  refine lv_iload_n hx hb dX7_init_58 rfl (lv_at hl 0 rfl) ?_
  obtain ⟨a43, ea43, hf⟩ := g_let_spec hf
  obtain ⟨σ42, eσ42, hf⟩ := g_let_spec hf
  refine g_new (fs := [.null, .null, .int 0]) hx hb hts hown hK hG hS (ci := 2) rfl iX2 tyX2 tyX2_ok clX7_9 inX2 itX2 (fun j hj => by rcases (show j = 0 ∨ j = 1 ∨ j = 2 by omega) with rfl | rfl | rfl <;> rfl) (Nat.le_of_ble_eq_true rfl) (Nat.le_of_ble_eq_true rfl) dX7_init_59 (fun H hG hS => ?_)
  rw [eσ42] at hG
  rw [ea43]
  refine W.cs (cells' := 61) (slots' := 8733) rfl rfl ?_
  refine lv_dup hx hb dX7_init_62 rfl ?_
  refine lv_bipush (v := 67) hx hb dX7_init_63 (by decide +kernel) ?_
  obtain ⟨r44, hr44, hf⟩ := g_bind hf
  refine g_callI hx hb hml hl.1 hts hown hK hG hS (As := [.int 67]) (rest := [.ref a43, .int 5, .ref v41]) (tX2_init l D hr44) vX2_init mlX7_36 rfl rfl ⟨Nat.le_of_ble_eq_true rfl, Nat.le_of_ble_eq_true rfl⟩ rfl rfl (Nat.le_of_ble_eq_true rfl) ⟨Nat.le_of_ble_eq_true rfl, Nat.le_of_ble_eq_true rfl⟩ dX7_init_65 (fun H locs hG hS => ?_)
  refine W.cs (cells' := 65) (slots' := 9009) rfl rfl ?_
  obtain ⟨σ45, hσ45, hf⟩ := g_bind hf
  refine g_qast hx hb hK hG hS hσ45 rfl rfl dX7_init_68 (fun H locs hG hS => ?_)
  refine lv_iinc (v := 6) (lv' := [(1, .int 6), (0, .ref x0)]) hx hb dX7_init_69 hl (k := 0) rfl (by decide +kernel) (by decide) rfl (fun ls hl => ?_)
  refine lv_goto (tgt := 48) hx hb dX7_init_72 (by decide) ?_
  refine lv_iload_n hx hb dX7_init_48 rfl (lv_at hl 0 rfl) ?_
  refine lv_bipush (v := 16) hx hb dX7_init_49 (by decide +kernel) ?_
  refine lv_icmp_ge (tgt := 75) hx hb dX7_init_51 (by decide) (fun hc => absurd hc (by decide)) (fun hc => ?_)
  refine lv_aload_n hx hb dX7_init_54 rfl (lv_at hl 1 rfl) ?_
  obtain ⟨v46, hv46, hf⟩ := g_bind hf
  refine g_getr hx hb hts hown hK hG hv46 rfl iX7 (by decide) flX7_11 dX7_init_55 ?_
  refine lv_iload_n hx hb dX7_init_58 rfl (lv_at hl 0 rfl) ?_
  obtain ⟨a48, ea48, hf⟩ := g_let_spec hf
  obtain ⟨σ47, eσ47, hf⟩ := g_let_spec hf
  refine g_new (fs := [.null, .null, .int 0]) hx hb hts hown hK hG hS (ci := 2) rfl iX2 tyX2 tyX2_ok clX7_9 inX2 itX2 (fun j hj => by rcases (show j = 0 ∨ j = 1 ∨ j = 2 by omega) with rfl | rfl | rfl <;> rfl) (Nat.le_of_ble_eq_true rfl) (Nat.le_of_ble_eq_true rfl) dX7_init_59 (fun H hG hS => ?_)
  rw [eσ47] at hG
  rw [ea48]
  refine W.cs (cells' := 66) (slots' := 9012) rfl rfl ?_
  refine lv_dup hx hb dX7_init_62 rfl ?_
  refine lv_bipush (v := 67) hx hb dX7_init_63 (by decide +kernel) ?_
  obtain ⟨r49, hr49, hf⟩ := g_bind hf
  refine g_callI hx hb hml hl.1 hts hown hK hG hS (As := [.int 67]) (rest := [.ref a48, .int 6, .ref v46]) (tX2_init l D hr49) vX2_init mlX7_36 rfl rfl ⟨Nat.le_of_ble_eq_true rfl, Nat.le_of_ble_eq_true rfl⟩ rfl rfl (Nat.le_of_ble_eq_true rfl) ⟨Nat.le_of_ble_eq_true rfl, Nat.le_of_ble_eq_true rfl⟩ dX7_init_65 (fun H locs hG hS => ?_)
  refine W.cs (cells' := 70) (slots' := 9288) rfl rfl ?_
  obtain ⟨σ50, hσ50, hf⟩ := g_bind hf
  refine g_qast hx hb hK hG hS hσ50 rfl rfl dX7_init_68 (fun H locs hG hS => ?_)
  refine lv_iinc (v := 7) (lv' := [(1, .int 7), (0, .ref x0)]) hx hb dX7_init_69 hl (k := 0) rfl (by decide +kernel) (by decide) rfl (fun ls hl => ?_)
  refine lv_goto (tgt := 48) hx hb dX7_init_72 (by decide) ?_
  refine lv_iload_n hx hb dX7_init_48 rfl (lv_at hl 0 rfl) ?_
  refine lv_bipush (v := 16) hx hb dX7_init_49 (by decide +kernel) ?_
  refine lv_icmp_ge (tgt := 75) hx hb dX7_init_51 (by decide) (fun hc => absurd hc (by decide)) (fun hc => ?_)
  refine lv_aload_n hx hb dX7_init_54 rfl (lv_at hl 1 rfl) ?_
  obtain ⟨v51, hv51, hf⟩ := g_bind hf
  refine g_getr hx hb hts hown hK hG hv51 rfl iX7 (by decide) flX7_11 dX7_init_55 ?_
  refine lv_iload_n hx hb dX7_init_58 rfl (lv_at hl 0 rfl) ?_
  obtain ⟨a53, ea53, hf⟩ := g_let_spec hf
  obtain ⟨σ52, eσ52, hf⟩ := g_let_spec hf
  refine g_new (fs := [.null, .null, .int 0]) hx hb hts hown hK hG hS (ci := 2) rfl iX2 tyX2 tyX2_ok clX7_9 inX2 itX2 (fun j hj => by rcases (show j = 0 ∨ j = 1 ∨ j = 2 by omega) with rfl | rfl | rfl <;> rfl) (Nat.le_of_ble_eq_true rfl) (Nat.le_of_ble_eq_true rfl) dX7_init_59 (fun H hG hS => ?_)
  rw [eσ52] at hG
  rw [ea53]
  refine W.cs (cells' := 71) (slots' := 9291) rfl rfl ?_
  refine lv_dup hx hb dX7_init_62 rfl ?_
  refine lv_bipush (v := 67) hx hb dX7_init_63 (by decide +kernel) ?_
  obtain ⟨r54, hr54, hf⟩ := g_bind hf
  refine g_callI hx hb hml hl.1 hts hown hK hG hS (As := [.int 67]) (rest := [.ref a53, .int 7, .ref v51]) (tX2_init l D hr54) vX2_init mlX7_36 rfl rfl ⟨Nat.le_of_ble_eq_true rfl, Nat.le_of_ble_eq_true rfl⟩ rfl rfl (Nat.le_of_ble_eq_true rfl) ⟨Nat.le_of_ble_eq_true rfl, Nat.le_of_ble_eq_true rfl⟩ dX7_init_65 (fun H locs hG hS => ?_)
  refine W.cs (cells' := 75) (slots' := 9567) rfl rfl ?_
  obtain ⟨σ55, hσ55, hf⟩ := g_bind hf
  refine g_qast hx hb hK hG hS hσ55 rfl rfl dX7_init_68 (fun H locs hG hS => ?_)
  refine lv_iinc (v := 8) (lv' := [(1, .int 8), (0, .ref x0)]) hx hb dX7_init_69 hl (k := 0) rfl (by decide +kernel) (by decide) rfl (fun ls hl => ?_)
  refine lv_goto (tgt := 48) hx hb dX7_init_72 (by decide) ?_
  refine lv_iload_n hx hb dX7_init_48 rfl (lv_at hl 0 rfl) ?_
  refine lv_bipush (v := 16) hx hb dX7_init_49 (by decide +kernel) ?_
  refine lv_icmp_ge (tgt := 75) hx hb dX7_init_51 (by decide) (fun hc => absurd hc (by decide)) (fun hc => ?_)
  refine lv_aload_n hx hb dX7_init_54 rfl (lv_at hl 1 rfl) ?_
  obtain ⟨v56, hv56, hf⟩ := g_bind hf
  refine g_getr hx hb hts hown hK hG hv56 rfl iX7 (by decide) flX7_11 dX7_init_55 ?_
  refine lv_iload_n hx hb dX7_init_58 rfl (lv_at hl 0 rfl) ?_
  obtain ⟨a58, ea58, hf⟩ := g_let_spec hf
  obtain ⟨σ57, eσ57, hf⟩ := g_let_spec hf
  refine g_new (fs := [.null, .null, .int 0]) hx hb hts hown hK hG hS (ci := 2) rfl iX2 tyX2 tyX2_ok clX7_9 inX2 itX2 (fun j hj => by rcases (show j = 0 ∨ j = 1 ∨ j = 2 by omega) with rfl | rfl | rfl <;> rfl) (Nat.le_of_ble_eq_true rfl) (Nat.le_of_ble_eq_true rfl) dX7_init_59 (fun H hG hS => ?_)
  rw [eσ57] at hG
  rw [ea58]
  refine W.cs (cells' := 76) (slots' := 9570) rfl rfl ?_
  refine lv_dup hx hb dX7_init_62 rfl ?_
  refine lv_bipush (v := 67) hx hb dX7_init_63 (by decide +kernel) ?_
  obtain ⟨r59, hr59, hf⟩ := g_bind hf
  refine g_callI hx hb hml hl.1 hts hown hK hG hS (As := [.int 67]) (rest := [.ref a58, .int 8, .ref v56]) (tX2_init l D hr59) vX2_init mlX7_36 rfl rfl ⟨Nat.le_of_ble_eq_true rfl, Nat.le_of_ble_eq_true rfl⟩ rfl rfl (Nat.le_of_ble_eq_true rfl) ⟨Nat.le_of_ble_eq_true rfl, Nat.le_of_ble_eq_true rfl⟩ dX7_init_65 (fun H locs hG hS => ?_)
  refine W.cs (cells' := 80) (slots' := 9846) rfl rfl ?_
  obtain ⟨σ60, hσ60, hf⟩ := g_bind hf
  refine g_qast hx hb hK hG hS hσ60 rfl rfl dX7_init_68 (fun H locs hG hS => ?_)
  refine lv_iinc (v := 9) (lv' := [(1, .int 9), (0, .ref x0)]) hx hb dX7_init_69 hl (k := 0) rfl (by decide +kernel) (by decide) rfl (fun ls hl => ?_)
  refine lv_goto (tgt := 48) hx hb dX7_init_72 (by decide) ?_
  refine lv_iload_n hx hb dX7_init_48 rfl (lv_at hl 0 rfl) ?_
  refine lv_bipush (v := 16) hx hb dX7_init_49 (by decide +kernel) ?_
  refine lv_icmp_ge (tgt := 75) hx hb dX7_init_51 (by decide) (fun hc => absurd hc (by decide)) (fun hc => ?_)
  refine lv_aload_n hx hb dX7_init_54 rfl (lv_at hl 1 rfl) ?_
  obtain ⟨v61, hv61, hf⟩ := g_bind hf
  refine g_getr hx hb hts hown hK hG hv61 rfl iX7 (by decide) flX7_11 dX7_init_55 ?_
  refine lv_iload_n hx hb dX7_init_58 rfl (lv_at hl 0 rfl) ?_
  obtain ⟨a63, ea63, hf⟩ := g_let_spec hf
  obtain ⟨σ62, eσ62, hf⟩ := g_let_spec hf
  refine g_new (fs := [.null, .null, .int 0]) hx hb hts hown hK hG hS (ci := 2) rfl iX2 tyX2 tyX2_ok clX7_9 inX2 itX2 (fun j hj => by rcases (show j = 0 ∨ j = 1 ∨ j = 2 by omega) with rfl | rfl | rfl <;> rfl) (Nat.le_of_ble_eq_true rfl) (Nat.le_of_ble_eq_true rfl) dX7_init_59 (fun H hG hS => ?_)
  rw [eσ62] at hG
  rw [ea63]
  refine W.cs (cells' := 81) (slots' := 9849) rfl rfl ?_
  refine lv_dup hx hb dX7_init_62 rfl ?_
  refine lv_bipush (v := 67) hx hb dX7_init_63 (by decide +kernel) ?_
  obtain ⟨r64, hr64, hf⟩ := g_bind hf
  refine g_callI hx hb hml hl.1 hts hown hK hG hS (As := [.int 67]) (rest := [.ref a63, .int 9, .ref v61]) (tX2_init l D hr64) vX2_init mlX7_36 rfl rfl ⟨Nat.le_of_ble_eq_true rfl, Nat.le_of_ble_eq_true rfl⟩ rfl rfl (Nat.le_of_ble_eq_true rfl) ⟨Nat.le_of_ble_eq_true rfl, Nat.le_of_ble_eq_true rfl⟩ dX7_init_65 (fun H locs hG hS => ?_)
  refine W.cs (cells' := 85) (slots' := 10125) rfl rfl ?_
  obtain ⟨σ65, hσ65, hf⟩ := g_bind hf
  refine g_qast hx hb hK hG hS hσ65 rfl rfl dX7_init_68 (fun H locs hG hS => ?_)
  refine lv_iinc (v := 10) (lv' := [(1, .int 10), (0, .ref x0)]) hx hb dX7_init_69 hl (k := 0) rfl (by decide +kernel) (by decide) rfl (fun ls hl => ?_)
  refine lv_goto (tgt := 48) hx hb dX7_init_72 (by decide) ?_
  refine lv_iload_n hx hb dX7_init_48 rfl (lv_at hl 0 rfl) ?_
  refine lv_bipush (v := 16) hx hb dX7_init_49 (by decide +kernel) ?_
  refine lv_icmp_ge (tgt := 75) hx hb dX7_init_51 (by decide) (fun hc => absurd hc (by decide)) (fun hc => ?_)
  refine lv_aload_n hx hb dX7_init_54 rfl (lv_at hl 1 rfl) ?_
  obtain ⟨v66, hv66, hf⟩ := g_bind hf
  refine g_getr hx hb hts hown hK hG hv66 rfl iX7 (by decide) flX7_11 dX7_init_55 ?_
  refine lv_iload_n hx hb dX7_init_58 rfl (lv_at hl 0 rfl) ?_
  obtain ⟨a68, ea68, hf⟩ := g_let_spec hf
  obtain ⟨σ67, eσ67, hf⟩ := g_let_spec hf
  refine g_new (fs := [.null, .null, .int 0]) hx hb hts hown hK hG hS (ci := 2) rfl iX2 tyX2 tyX2_ok clX7_9 inX2 itX2 (fun j hj => by rcases (show j = 0 ∨ j = 1 ∨ j = 2 by omega) with rfl | rfl | rfl <;> rfl) (Nat.le_of_ble_eq_true rfl) (Nat.le_of_ble_eq_true rfl) dX7_init_59 (fun H hG hS => ?_)
  rw [eσ67] at hG
  rw [ea68]
  refine W.cs (cells' := 86) (slots' := 10128) rfl rfl ?_
  refine lv_dup hx hb dX7_init_62 rfl ?_
  refine lv_bipush (v := 67) hx hb dX7_init_63 (by decide +kernel) ?_
  obtain ⟨r69, hr69, hf⟩ := g_bind hf
  refine g_callI hx hb hml hl.1 hts hown hK hG hS (As := [.int 67]) (rest := [.ref a68, .int 10, .ref v66]) (tX2_init l D hr69) vX2_init mlX7_36 rfl rfl ⟨Nat.le_of_ble_eq_true rfl, Nat.le_of_ble_eq_true rfl⟩ rfl rfl (Nat.le_of_ble_eq_true rfl) ⟨Nat.le_of_ble_eq_true rfl, Nat.le_of_ble_eq_true rfl⟩ dX7_init_65 (fun H locs hG hS => ?_)
  refine W.cs (cells' := 90) (slots' := 10404) rfl rfl ?_
  obtain ⟨σ70, hσ70, hf⟩ := g_bind hf
  refine g_qast hx hb hK hG hS hσ70 rfl rfl dX7_init_68 (fun H locs hG hS => ?_)
  refine lv_iinc (v := 11) (lv' := [(1, .int 11), (0, .ref x0)]) hx hb dX7_init_69 hl (k := 0) rfl (by decide +kernel) (by decide) rfl (fun ls hl => ?_)
  refine lv_goto (tgt := 48) hx hb dX7_init_72 (by decide) ?_
  refine lv_iload_n hx hb dX7_init_48 rfl (lv_at hl 0 rfl) ?_
  refine lv_bipush (v := 16) hx hb dX7_init_49 (by decide +kernel) ?_
  refine lv_icmp_ge (tgt := 75) hx hb dX7_init_51 (by decide) (fun hc => absurd hc (by decide)) (fun hc => ?_)
  refine lv_aload_n hx hb dX7_init_54 rfl (lv_at hl 1 rfl) ?_
  obtain ⟨v71, hv71, hf⟩ := g_bind hf
  refine g_getr hx hb hts hown hK hG hv71 rfl iX7 (by decide) flX7_11 dX7_init_55 ?_
  refine lv_iload_n hx hb dX7_init_58 rfl (lv_at hl 0 rfl) ?_
  obtain ⟨a73, ea73, hf⟩ := g_let_spec hf
  obtain ⟨σ72, eσ72, hf⟩ := g_let_spec hf
  refine g_new (fs := [.null, .null, .int 0]) hx hb hts hown hK hG hS (ci := 2) rfl iX2 tyX2 tyX2_ok clX7_9 inX2 itX2 (fun j hj => by rcases (show j = 0 ∨ j = 1 ∨ j = 2 by omega) with rfl | rfl | rfl <;> rfl) (Nat.le_of_ble_eq_true rfl) (Nat.le_of_ble_eq_true rfl) dX7_init_59 (fun H hG hS => ?_)
  rw [eσ72] at hG
  rw [ea73]
  refine W.cs (cells' := 91) (slots' := 10407) rfl rfl ?_
  refine lv_dup hx hb dX7_init_62 rfl ?_
  refine lv_bipush (v := 67) hx hb dX7_init_63 (by decide +kernel) ?_
  obtain ⟨r74, hr74, hf⟩ := g_bind hf
  refine g_callI hx hb hml hl.1 hts hown hK hG hS (As := [.int 67]) (rest := [.ref a73, .int 11, .ref v71]) (tX2_init l D hr74) vX2_init mlX7_36 rfl rfl ⟨Nat.le_of_ble_eq_true rfl, Nat.le_of_ble_eq_true rfl⟩ rfl rfl (Nat.le_of_ble_eq_true rfl) ⟨Nat.le_of_ble_eq_true rfl, Nat.le_of_ble_eq_true rfl⟩ dX7_init_65 (fun H locs hG hS => ?_)
  refine W.cs (cells' := 95) (slots' := 10683) rfl rfl ?_
  obtain ⟨σ75, hσ75, hf⟩ := g_bind hf
  refine g_qast hx hb hK hG hS hσ75 rfl rfl dX7_init_68 (fun H locs hG hS => ?_)
  refine lv_iinc (v := 12) (lv' := [(1, .int 12), (0, .ref x0)]) hx hb dX7_init_69 hl (k := 0) rfl (by decide +kernel) (by decide) rfl (fun ls hl => ?_)
  refine lv_goto (tgt := 48) hx hb dX7_init_72 (by decide) ?_
  refine lv_iload_n hx hb dX7_init_48 rfl (lv_at hl 0 rfl) ?_
  refine lv_bipush (v := 16) hx hb dX7_init_49 (by decide +kernel) ?_
  refine lv_icmp_ge (tgt := 75) hx hb dX7_init_51 (by decide) (fun hc => absurd hc (by decide)) (fun hc => ?_)
  refine lv_aload_n hx hb dX7_init_54 rfl (lv_at hl 1 rfl) ?_
  obtain ⟨v76, hv76, hf⟩ := g_bind hf
  refine g_getr hx hb hts hown hK hG hv76 rfl iX7 (by decide) flX7_11 dX7_init_55 ?_
  refine lv_iload_n hx hb dX7_init_58 rfl (lv_at hl 0 rfl) ?_
  obtain ⟨a78, ea78, hf⟩ := g_let_spec hf
  obtain ⟨σ77, eσ77, hf⟩ := g_let_spec hf
  refine g_new (fs := [.null, .null, .int 0]) hx hb hts hown hK hG hS (ci := 2) rfl iX2 tyX2 tyX2_ok clX7_9 inX2 itX2 (fun j hj => by rcases (show j = 0 ∨ j = 1 ∨ j = 2 by omega) with rfl | rfl | rfl <;> rfl) (Nat.le_of_ble_eq_true rfl) (Nat.le_of_ble_eq_true rfl) dX7_init_59 (fun H hG hS => ?_)
  rw [eσ77] at hG
  rw [ea78]
  refine W.cs (cells' := 96) (slots' := 10686) rfl rfl ?_
  refine lv_dup hx hb dX7_init_62 rfl ?_
  refine lv_bipush (v := 67) hx hb dX7_init_63 (by decide +kernel) ?_
  obtain ⟨r79, hr79, hf⟩ := g_bind hf
  refine g_callI hx hb hml hl.1 hts hown hK hG hS (As := [.int 67]) (rest := [.ref a78, .int 12, .ref v76]) (tX2_init l D hr79) vX2_init mlX7_36 rfl rfl ⟨Nat.le_of_ble_eq_true rfl, Nat.le_of_ble_eq_true rfl⟩ rfl rfl (Nat.le_of_ble_eq_true rfl) ⟨Nat.le_of_ble_eq_true rfl, Nat.le_of_ble_eq_true rfl⟩ dX7_init_65 (fun H locs hG hS => ?_)
  refine W.cs (cells' := 100) (slots' := 10962) rfl rfl ?_
  obtain ⟨σ80, hσ80, hf⟩ := g_bind hf
  refine g_qast hx hb hK hG hS hσ80 rfl rfl dX7_init_68 (fun H locs hG hS => ?_)
  refine lv_iinc (v := 13) (lv' := [(1, .int 13), (0, .ref x0)]) hx hb dX7_init_69 hl (k := 0) rfl (by decide +kernel) (by decide) rfl (fun ls hl => ?_)
  refine lv_goto (tgt := 48) hx hb dX7_init_72 (by decide) ?_
  refine lv_iload_n hx hb dX7_init_48 rfl (lv_at hl 0 rfl) ?_
  refine lv_bipush (v := 16) hx hb dX7_init_49 (by decide +kernel) ?_
  refine lv_icmp_ge (tgt := 75) hx hb dX7_init_51 (by decide) (fun hc => absurd hc (by decide)) (fun hc => ?_)
  refine lv_aload_n hx hb dX7_init_54 rfl (lv_at hl 1 rfl) ?_
  obtain ⟨v81, hv81, hf⟩ := g_bind hf
  refine g_getr hx hb hts hown hK hG hv81 rfl iX7 (by decide) flX7_11 dX7_init_55 ?_
  refine lv_iload_n hx hb dX7_init_58 rfl (lv_at hl 0 rfl) ?_
  obtain ⟨a83, ea83, hf⟩ := g_let_spec hf
  obtain ⟨σ82, eσ82, hf⟩ := g_let_spec hf
  refine g_new (fs := [.null, .null, .int 0]) hx hb hts hown hK hG hS (ci := 2) rfl iX2 tyX2 tyX2_ok clX7_9 inX2 itX2 (fun j hj => by rcases (show j = 0 ∨ j = 1 ∨ j = 2 by omega) with rfl | rfl | rfl <;> rfl) (Nat.le_of_ble_eq_true rfl) (Nat.le_of_ble_eq_true rfl) dX7_init_59 (fun H hG hS => ?_)
  rw [eσ82] at hG
  rw [ea83]
  refine W.cs (cells' := 101) (slots' := 10965) rfl rfl ?_
  refine lv_dup hx hb dX7_init_62 rfl ?_
  refine lv_bipush (v := 67) hx hb dX7_init_63 (by decide +kernel) ?_
  obtain ⟨r84, hr84, hf⟩ := g_bind hf
  refine g_callI hx hb hml hl.1 hts hown hK hG hS (As := [.int 67]) (rest := [.ref a83, .int 13, .ref v81]) (tX2_init l D hr84) vX2_init mlX7_36 rfl rfl ⟨Nat.le_of_ble_eq_true rfl, Nat.le_of_ble_eq_true rfl⟩ rfl rfl (Nat.le_of_ble_eq_true rfl) ⟨Nat.le_of_ble_eq_true rfl, Nat.le_of_ble_eq_true rfl⟩ dX7_init_65 (fun H locs hG hS => ?_)
  refine W.cs (cells' := 105) (slots' := 11241) rfl rfl ?_
  obtain ⟨σ85, hσ85, hf⟩ := g_bind hf
  refine g_qast hx hb hK hG hS hσ85 rfl rfl dX7_init_68 (fun H locs hG hS => ?_)
  refine lv_iinc (v := 14) (lv' := [(1, .int 14), (0, .ref x0)]) hx hb dX7_init_69 hl (k := 0) rfl (by decide +kernel) (by decide) rfl (fun ls hl => ?_)
  refine lv_goto (tgt := 48) hx hb dX7_init_72 (by decide) ?_
  refine lv_iload_n hx hb dX7_init_48 rfl (lv_at hl 0 rfl) ?_
  refine lv_bipush (v := 16) hx hb dX7_init_49 (by decide +kernel) ?_
  refine lv_icmp_ge (tgt := 75) hx hb dX7_init_51 (by decide) (fun hc => absurd hc (by decide)) (fun hc => ?_)
  refine lv_aload_n hx hb dX7_init_54 rfl (lv_at hl 1 rfl) ?_
  obtain ⟨v86, hv86, hf⟩ := g_bind hf
  refine g_getr hx hb hts hown hK hG hv86 rfl iX7 (by decide) flX7_11 dX7_init_55 ?_
  refine lv_iload_n hx hb dX7_init_58 rfl (lv_at hl 0 rfl) ?_
  obtain ⟨a88, ea88, hf⟩ := g_let_spec hf
  obtain ⟨σ87, eσ87, hf⟩ := g_let_spec hf
  refine g_new (fs := [.null, .null, .int 0]) hx hb hts hown hK hG hS (ci := 2) rfl iX2 tyX2 tyX2_ok clX7_9 inX2 itX2 (fun j hj => by rcases (show j = 0 ∨ j = 1 ∨ j = 2 by omega) with rfl | rfl | rfl <;> rfl) (Nat.le_of_ble_eq_true rfl) (Nat.le_of_ble_eq_true rfl) dX7_init_59 (fun H hG hS => ?_)
  rw [eσ87] at hG
  rw [ea88]
  refine W.cs (cells' := 106) (slots' := 11244) rfl rfl ?_
  refine lv_dup hx hb dX7_init_62 rfl ?_
  refine lv_bipush (v := 67) hx hb dX7_init_63 (by decide +kernel) ?_
  obtain ⟨r89, hr89, hf⟩ := g_bind hf
  refine g_callI hx hb hml hl.1 hts hown hK hG hS (As := [.int 67]) (rest := [.ref a88, .int 14, .ref v86]) (tX2_init l D hr89) vX2_init mlX7_36 rfl rfl ⟨Nat.le_of_ble_eq_true rfl, Nat.le_of_ble_eq_true rfl⟩ rfl rfl (Nat.le_of_ble_eq_true rfl) ⟨Nat.le_of_ble_eq_true rfl, Nat.le_of_ble_eq_true rfl⟩ dX7_init_65 (fun H locs hG hS => ?_)
  refine W.cs (cells' := 110) (slots' := 11520) rfl rfl ?_
  obtain ⟨σ90, hσ90, hf⟩ := g_bind hf
  refine g_qast hx hb hK hG hS hσ90 rfl rfl dX7_init_68 (fun H locs hG hS => ?_)
  refine lv_iinc (v := 15) (lv' := [(1, .int 15), (0, .ref x0)]) hx hb dX7_init_69 hl (k := 0) rfl (by decide +kernel) (by decide) rfl (fun ls hl => ?_)
  refine lv_goto (tgt := 48) hx hb dX7_init_72 (by decide) ?_
  refine lv_iload_n hx hb dX7_init_48 rfl (lv_at hl 0 rfl) ?_
  refine lv_bipush (v := 16) hx hb dX7_init_49 (by decide +kernel) ?_
  refine lv_icmp_ge (tgt := 75) hx hb dX7_init_51 (by decide) (fun hc => absurd hc (by decide)) (fun hc => ?_)
  refine lv_aload_n hx hb dX7_init_54 rfl (lv_at hl 1 rfl) ?_
  obtain ⟨v91, hv91, hf⟩ := g_bind hf
  refine g_getr hx hb hts hown hK hG hv91 rfl iX7 (by decide) flX7_11 dX7_init_55 ?_
  refine lv_iload_n hx hb dX7_init_58 rfl (lv_at hl 0 rfl) ?_
  obtain ⟨a93, ea93, hf⟩ := g_let_spec hf
  obtain ⟨σ92, eσ92, hf⟩ := g_let_spec hf
  refine g_new (fs := [.null, .null, .int 0]) hx hb hts hown hK hG hS (ci := 2) rfl iX2 tyX2 tyX2_ok clX7_9 inX2 itX2 (fun j hj => by rcases (show j = 0 ∨ j = 1 ∨ j = 2 by omega) with rfl | rfl | rfl <;> rfl) (Nat.le_of_ble_eq_true rfl) (Nat.le_of_ble_eq_true rfl) dX7_init_59 (fun H hG hS => ?_)
  rw [eσ92] at hG
  rw [ea93]
  refine W.cs (cells' := 111) (slots' := 11523) rfl rfl ?_
  refine lv_dup hx hb dX7_init_62 rfl ?_
  refine lv_bipush (v := 67) hx hb dX7_init_63 (by decide +kernel) ?_
  obtain ⟨r94, hr94, hf⟩ := g_bind hf
  refine g_callI hx hb hml hl.1 hts hown hK hG hS (As := [.int 67]) (rest := [.ref a93, .int 15, .ref v91]) (tX2_init l D hr94) vX2_init mlX7_36 rfl rfl ⟨Nat.le_of_ble_eq_true rfl, Nat.le_of_ble_eq_true rfl⟩ rfl rfl (Nat.le_of_ble_eq_true rfl) ⟨Nat.le_of_ble_eq_true rfl, Nat.le_of_ble_eq_true rfl⟩ dX7_init_65 (fun H locs hG hS => ?_)
  refine W.cs (cells' := 115) (slots' := 11799) rfl rfl ?_
  obtain ⟨σ95, hσ95, hf⟩ := g_bind hf
  refine g_qast hx hb hK hG hS hσ95 rfl rfl dX7_init_68 (fun H locs hG hS => ?_)
  refine lv_iinc (v := 16) (lv' := [(1, .int 16), (0, .ref x0)]) hx hb dX7_init_69 hl (k := 0) rfl (by decide +kernel) (by decide) rfl (fun ls hl => ?_)
  refine lv_goto (tgt := 48) hx hb dX7_init_72 (by decide) ?_
  refine lv_iload_n hx hb dX7_init_48 rfl (lv_at hl 0 rfl) ?_
  refine lv_bipush (v := 16) hx hb dX7_init_49 (by decide +kernel) ?_
  refine lv_icmp_ge (tgt := 75) hx hb dX7_init_51 (by decide) (fun hc => ?_) (fun hc => absurd (by decide) hc)
  cases hf
  exact g_vret hx hb hr hlocks hG hS dX7_init_75

def rmX7_feed : Room := { frames := 1, cells := 0, slots := 0, locals := 22 }
noncomputable def fX7_feed (σ : g_S) (x0 : Nat) (x1 : Int32) (x2 : Int32) (x3 : Int32) (x4 : Int32) (x5 : Int32) : Option (Int32 × g_S) := (g_fr σ 7 x0 2).bind fun v1 => (g_fi σ 5 v1 1).bind fun v2 => if v2 ≤ 1380 then ((g_fr σ 7 x0 2).bind fun v4 => (g_o σ 5 v4).bind fun o5 => (fX5_append σ v4 x1).bind fun r6 => (g_fr r6 7 x0 2).bind fun v7 => (g_o r6 5 v7).bind fun o8 => (fX5_append r6 v7 x2).bind fun r9 => (g_fr r9 7 x0 2).bind fun v10 => (g_o r9 5 v10).bind fun o11 => (fX5_append r9 v10 x3).bind fun r12 => (g_fr r12 7 x0 2).bind fun v13 => (g_o r12 5 v13).bind fun o14 => (fX5_append r12 v13 x4).bind fun r15 => (g_fr r15 7 x0 2).bind fun v16 => (g_o r15 5 v16).bind fun o17 => (fX5_append r15 v16 x5).bind fun r18 => some (1, r18)) else (some (0, σ))
set_option maxHeartbeats 4000000 in
set_option maxRecDepth 100000 in
theorem tX7_feed (l : Launch) (D : g_D) {σ : g_S} {x0 : Nat} {x1 : Int32} {x2 : Int32} {x3 : Int32} {x4 : Int32} {x5 : Int32} {out : Int32 × g_S} (hf : fX7_feed σ x0 x1 x2 x3 x4 x5 = some out) : Met l yX7_feed (Cond.code yX7_feed cX7_feed 6 (some .boolean) :: lw_g) rmX7_feed (g_P D σ [.ref x0, .int x1, .int x2, .int x3, .int x4, .int x5]) (g_Q D out.2 (some (.int out.1))) 0 0 (g_A D) := by
  refine Met.ofW (cc := cX7_feed) (maxL := 6) (ret := (some .boolean)) (by decide +kernel) rfl ?_
  intro p e s m args below meth c s₁ B hml hv
  obtain ⟨rfl, hG, hK⟩ := hv
  have hts : ∀ w ∈ lw_g, w.before _ s = true := fun w h => atoms_spec (ws := (Cond.code yX7_feed cX7_feed 6 (some .boolean) :: lw_g)) B.pre w (List.mem_cons_of_mem _ h)
  have C : g_C RX7 cX7_feed 6 (some .boolean) True p s m _ meth c := ⟨B.exec, B.bytes, hml, findClass_of_methodNamed B.named, hts, B.returns, B.notSynchronized, trivial⟩
  obtain ⟨hx, hb, hml, hown, hts, hr, hlocks, hin⟩ := id C
  have hS : va_S (g_A D) s.heap s.heap [] := va_S.rf
  have hl := lv_entry ([.ref x0, .int x1, .int x2, .int x3, .int x4, .int x5]) (n := 6) (Nat.le_of_ble_eq_true rfl)
  rw [lg_entry_eq]
  generalize (lg_sl ([.ref x0, .int x1, .int x2, .int x3, .int x4, .int x5]) ++ List.replicate (6 - (lg_sl ([.ref x0, .int x1, .int x2, .int x3, .int x4, .int x5])).length) Slot.unset).toArray = ls at hl ⊢
  have hl : lv_has ls 6 [(0, .ref x0), (1, .int x1), (2, .int x2), (3, .int x3), (4, .int x4), (5, .int x5)] := hl
  unfold fX7_feed at hf
  refine lv_aload_n hx hb dX7_feed_0 rfl (lv_at hl 0 rfl) ?_
  obtain ⟨v1, hv1, hf⟩ := g_bind hf
  refine g_getr hx hb hts hown hK hG hv1 rfl iX7 (by decide) flX7_25 dX7_feed_1 ?_
  obtain ⟨v2, hv2, hf⟩ := g_bind hf
  refine g_geti hx hb hts hown hK hG hv2 rfl iX5 (by decide) flX7_39 dX7_feed_4 ?_
  refine lv_sipush (v := 1380) hx hb dX7_feed_7 (by decide +kernel) ?_
  refine lv_icmp_le (tgt := 15) hx hb dX7_feed_10 (by decide) (fun c3 => ?_) (fun c3 => ?_)
  · rw [if_pos c3] at hf
    refine lv_aload_n hx hb dX7_feed_15 rfl (lv_at hl 0 rfl) ?_
    obtain ⟨v4, hv4, hf⟩ := g_bind hf
    refine g_getr hx hb hts hown hK hG hv4 rfl iX7 (by decide) flX7_25 dX7_feed_16 ?_
    refine lv_iload_n hx hb dX7_feed_19 rfl (lv_at hl 1 rfl) ?_
    obtain ⟨o5, ho5, hf⟩ := g_bind hf
    obtain ⟨r6, hr6, hf⟩ := g_bind hf
    refine g_callV hx hb hml hl.1 hts hown hK hG hS (As := [.int x1]) (rest := []) (tX5_append l D hr6) vX5_append mlX7_43 ho5 rfl rfl rfl rfl ⟨Nat.le_of_ble_eq_true rfl, Nat.le_of_ble_eq_true rfl⟩ rfl rfl (Nat.le_of_ble_eq_true rfl) ⟨Nat.le_of_ble_eq_true rfl, Nat.le_of_ble_eq_true rfl⟩ dX7_feed_20 (fun H locs hG hS => ?_)
    refine lv_aload_n hx hb dX7_feed_23 rfl (lv_at hl 0 rfl) ?_
    obtain ⟨v7, hv7, hf⟩ := g_bind hf
    refine g_getr hx hb hts hown hK hG hv7 rfl iX7 (by decide) flX7_25 dX7_feed_24 ?_
    refine lv_iload_n hx hb dX7_feed_27 rfl (lv_at hl 2 rfl) ?_
    obtain ⟨o8, ho8, hf⟩ := g_bind hf
    obtain ⟨r9, hr9, hf⟩ := g_bind hf
    refine g_callV hx hb hml hl.1 hts hown hK hG hS (As := [.int x2]) (rest := []) (tX5_append l D hr9) vX5_append mlX7_43 ho8 rfl rfl rfl rfl ⟨Nat.le_of_ble_eq_true rfl, Nat.le_of_ble_eq_true rfl⟩ rfl rfl (Nat.le_of_ble_eq_true rfl) ⟨Nat.le_of_ble_eq_true rfl, Nat.le_of_ble_eq_true rfl⟩ dX7_feed_28 (fun H locs hG hS => ?_)
    refine lv_aload_n hx hb dX7_feed_31 rfl (lv_at hl 0 rfl) ?_
    obtain ⟨v10, hv10, hf⟩ := g_bind hf
    refine g_getr hx hb hts hown hK hG hv10 rfl iX7 (by decide) flX7_25 dX7_feed_32 ?_
    refine lv_iload_n hx hb dX7_feed_35 rfl (lv_at hl 3 rfl) ?_
    obtain ⟨o11, ho11, hf⟩ := g_bind hf
    obtain ⟨r12, hr12, hf⟩ := g_bind hf
    refine g_callV hx hb hml hl.1 hts hown hK hG hS (As := [.int x3]) (rest := []) (tX5_append l D hr12) vX5_append mlX7_43 ho11 rfl rfl rfl rfl ⟨Nat.le_of_ble_eq_true rfl, Nat.le_of_ble_eq_true rfl⟩ rfl rfl (Nat.le_of_ble_eq_true rfl) ⟨Nat.le_of_ble_eq_true rfl, Nat.le_of_ble_eq_true rfl⟩ dX7_feed_36 (fun H locs hG hS => ?_)
    refine lv_aload_n hx hb dX7_feed_39 rfl (lv_at hl 0 rfl) ?_
    obtain ⟨v13, hv13, hf⟩ := g_bind hf
    refine g_getr hx hb hts hown hK hG hv13 rfl iX7 (by decide) flX7_25 dX7_feed_40 ?_
    refine lv_iload hx hb dX7_feed_43 (lv_at hl 4 rfl) ?_
    obtain ⟨o14, ho14, hf⟩ := g_bind hf
    obtain ⟨r15, hr15, hf⟩ := g_bind hf
    refine g_callV hx hb hml hl.1 hts hown hK hG hS (As := [.int x4]) (rest := []) (tX5_append l D hr15) vX5_append mlX7_43 ho14 rfl rfl rfl rfl ⟨Nat.le_of_ble_eq_true rfl, Nat.le_of_ble_eq_true rfl⟩ rfl rfl (Nat.le_of_ble_eq_true rfl) ⟨Nat.le_of_ble_eq_true rfl, Nat.le_of_ble_eq_true rfl⟩ dX7_feed_45 (fun H locs hG hS => ?_)
    refine lv_aload_n hx hb dX7_feed_48 rfl (lv_at hl 0 rfl) ?_
    obtain ⟨v16, hv16, hf⟩ := g_bind hf
    refine g_getr hx hb hts hown hK hG hv16 rfl iX7 (by decide) flX7_25 dX7_feed_49 ?_
    refine lv_iload hx hb dX7_feed_52 (lv_at hl 5 rfl) ?_
    obtain ⟨o17, ho17, hf⟩ := g_bind hf
    obtain ⟨r18, hr18, hf⟩ := g_bind hf
    refine g_callV hx hb hml hl.1 hts hown hK hG hS (As := [.int x5]) (rest := []) (tX5_append l D hr18) vX5_append mlX7_43 ho17 rfl rfl rfl rfl ⟨Nat.le_of_ble_eq_true rfl, Nat.le_of_ble_eq_true rfl⟩ rfl rfl (Nat.le_of_ble_eq_true rfl) ⟨Nat.le_of_ble_eq_true rfl, Nat.le_of_ble_eq_true rfl⟩ dX7_feed_54 (fun H locs hG hS => ?_)
    refine lv_iconst (v := 1) hx hb dX7_feed_57 (by decide +kernel) ?_
    cases hf
    exact g_zret hx hb hr hlocks (Or.inr rfl) hG hS dX7_feed_58
  · rw [if_neg c3] at hf
    refine lv_iconst (v := 0) hx hb dX7_feed_13 (by decide +kernel) ?_
    cases hf
    exact g_zret hx hb hr hlocks (Or.inl rfl) hG hS dX7_feed_14

def rmX7_end : Room := { frames := 0, cells := 0, slots := 0, locals := 0 }
noncomputable def BX7_end_15  (σ : g_S)  : Option (Int32 × g_S) := some (0, σ)
noncomputable def fX7_end (σ : g_S) (x0 : Nat) (x1 : Int32) : Option (Int32 × g_S) := if x1 < 0 then (BX7_end_15 σ) else ((g_fr σ 7 x0 2).bind fun v2 => (g_fi σ 5 v2 1).bind fun v3 => if x1 ≤ v3 then ((g_fr σ 7 x0 2).bind fun v5 => (g_p σ 5 v5 1 (.int x1)).bind fun σ6 => some (1, σ6)) else (BX7_end_15 σ))
set_option maxHeartbeats 4000000 in
set_option maxRecDepth 100000 in
theorem tBX7_end_15 {p : Program} {l : Launch} {e : Env} {s : State} {m : MethodId} {args : Array Value} {below : List Frame} {meth : Method} {c : Code} {D : g_D} {out : Int32 × g_S} (C : g_C RX7 cX7_end 2 (some .boolean) True p s m args meth c) (hK : g_K D s)  : ∀ (σ : g_S)  (H : Heap) (locs : List Loc) (ls : Array Slot), g_H D σ H → va_S (g_A D) s.heap H locs → lv_has ls 2 [] → BX7_end_15  σ  = some out → W p l e rmX7_end s m args below meth c H locs 0 0 (MQ below (g_Q D out.2 (some (.int out.1))) args s 0 0 (g_A D)) (F0 m 15 ls []) := by
  obtain ⟨hx, hb, hml, hown, hts, hr, hlocks, hin⟩ := id C
  intro σ  H locs ls hG hS hl hf
  unfold BX7_end_15 at hf
  refine lv_iconst (v := 0) hx hb dX7_end_15 (by decide +kernel) ?_
  cases hf
  exact g_zret hx hb hr hlocks (Or.inl rfl) hG hS dX7_end_16

set_option maxHeartbeats 4000000 in
set_option maxRecDepth 100000 in
theorem tX7_end (l : Launch) (D : g_D) {σ : g_S} {x0 : Nat} {x1 : Int32} {out : Int32 × g_S} (hf : fX7_end σ x0 x1 = some out) : Met l yX7_end (Cond.code yX7_end cX7_end 2 (some .boolean) :: lw_g) rmX7_end (g_P D σ [.ref x0, .int x1]) (g_Q D out.2 (some (.int out.1))) 0 0 (g_A D) := by
  refine Met.ofW (cc := cX7_end) (maxL := 2) (ret := (some .boolean)) (by decide +kernel) rfl ?_
  intro p e s m args below meth c s₁ B hml hv
  obtain ⟨rfl, hG, hK⟩ := hv
  have hts : ∀ w ∈ lw_g, w.before _ s = true := fun w h => atoms_spec (ws := (Cond.code yX7_end cX7_end 2 (some .boolean) :: lw_g)) B.pre w (List.mem_cons_of_mem _ h)
  have C : g_C RX7 cX7_end 2 (some .boolean) True p s m _ meth c := ⟨B.exec, B.bytes, hml, findClass_of_methodNamed B.named, hts, B.returns, B.notSynchronized, trivial⟩
  obtain ⟨hx, hb, hml, hown, hts, hr, hlocks, hin⟩ := id C
  have hS : va_S (g_A D) s.heap s.heap [] := va_S.rf
  have hl := lv_entry ([.ref x0, .int x1]) (n := 2) (Nat.le_of_ble_eq_true rfl)
  rw [lg_entry_eq]
  generalize (lg_sl ([.ref x0, .int x1]) ++ List.replicate (2 - (lg_sl ([.ref x0, .int x1])).length) Slot.unset).toArray = ls at hl ⊢
  have hl : lv_has ls 2 [(0, .ref x0), (1, .int x1)] := hl
  unfold fX7_end at hf
  refine lv_iload_n hx hb dX7_end_0 rfl (lv_at hl 1 rfl) ?_
  refine lv_if_lt (tgt := 15) hx hb dX7_end_1 (by decide) (fun c1 => ?_) (fun c1 => ?_)
  · rw [if_pos c1] at hf
    exact tBX7_end_15 C hK   _  _ _ _ hG hS (lv_sub hl [] rfl) hf
  · rw [if_neg c1] at hf
    refine lv_iload_n hx hb dX7_end_4 rfl (lv_at hl 1 rfl) ?_
    refine lv_aload_n hx hb dX7_end_5 rfl (lv_at hl 0 rfl) ?_
    obtain ⟨v2, hv2, hf⟩ := g_bind hf
    refine g_getr hx hb hts hown hK hG hv2 rfl iX7 (by decide) flX7_25 dX7_end_6 ?_
    obtain ⟨v3, hv3, hf⟩ := g_bind hf
    refine g_geti hx hb hts hown hK hG hv3 rfl iX5 (by decide) flX7_39 dX7_end_9 ?_
    refine lv_icmp_le (tgt := 17) hx hb dX7_end_12 (by decide) (fun c4 => ?_) (fun c4 => ?_)
    · rw [if_pos c4] at hf
      refine lv_aload_n hx hb dX7_end_17 rfl (lv_at hl 0 rfl) ?_
      obtain ⟨v5, hv5, hf⟩ := g_bind hf
      refine g_getr hx hb hts hown hK hG hv5 rfl iX7 (by decide) flX7_25 dX7_end_18 ?_
      refine lv_iload_n hx hb dX7_end_21 rfl (lv_at hl 1 rfl) ?_
      obtain ⟨σ6, hσ6, hf⟩ := g_bind hf
      refine g_put hx hb hts hown hK hG hS hσ6 rfl iX5 tyX5 tyX5_ok nmX5 (by decide) flX7_39 rfl rfl rfl dX7_end_22 (fun H locs hG hS => ?_)
      refine lv_iconst (v := 1) hx hb dX7_end_25 (by decide +kernel) ?_
      cases hf
      exact g_zret hx hb hr hlocks (Or.inr rfl) hG hS dX7_end_26
    · rw [if_neg c4] at hf
      exact tBX7_end_15 C hK   _  _ _ _ hG hS (lv_sub hl [] rfl) hf

def rmX7_isPlace : Room := { frames := 0, cells := 0, slots := 0, locals := 0 }
noncomputable def BX7_isPlace_15  (σ : g_S) (y0 : Int32) : Option (Int32 × g_S) := g_if (y0 = 0 ∨ y0 = 1) <| some (y0, σ)
noncomputable def BX7_isPlace_14  (σ : g_S)  : Option (Int32 × g_S) := BX7_isPlace_15 σ 0
noncomputable def fX7_isPlace (σ : g_S) (x0 : Int32) : Option (Int32 × g_S) := if x0 < 0 then (BX7_isPlace_14 σ) else (if 16 ≤ x0 then (BX7_isPlace_14 σ) else (BX7_isPlace_15 σ 1))
set_option maxHeartbeats 4000000 in
set_option maxRecDepth 100000 in
theorem tBX7_isPlace_15 {p : Program} {l : Launch} {e : Env} {s : State} {m : MethodId} {args : Array Value} {below : List Frame} {meth : Method} {c : Code} {D : g_D} {out : Int32 × g_S} (C : g_C RX7 cX7_isPlace 1 (some .boolean) True p s m args meth c) (hK : g_K D s)  : ∀ (σ : g_S) (y0 : Int32) (H : Heap) (locs : List Loc) (ls : Array Slot), g_H D σ H → va_S (g_A D) s.heap H locs → lv_has ls 1 [] → BX7_isPlace_15  σ y0 = some out → W p l e rmX7_isPlace s m args below meth c H locs 0 0 (MQ below (g_Q D out.2 (some (.int out.1))) args s 0 0 (g_A D)) (F0 m 15 ls [.int y0]) := by
  obtain ⟨hx, hb, hml, hown, hts, hr, hlocks, hin⟩ := id C
  intro σ y0 H locs ls hG hS hl hf
  unfold BX7_isPlace_15 at hf
  obtain ⟨z2, hf⟩ := g_if_spec hf
  cases hf
  exact g_zret hx hb hr hlocks z2 hG hS dX7_isPlace_15

set_option maxHeartbeats 4000000 in
set_option maxRecDepth 100000 in
theorem tBX7_isPlace_14 {p : Program} {l : Launch} {e : Env} {s : State} {m : MethodId} {args : Array Value} {below : List Frame} {meth : Method} {c : Code} {D : g_D} {out : Int32 × g_S} (C : g_C RX7 cX7_isPlace 1 (some .boolean) True p s m args meth c) (hK : g_K D s)  : ∀ (σ : g_S)  (H : Heap) (locs : List Loc) (ls : Array Slot), g_H D σ H → va_S (g_A D) s.heap H locs → lv_has ls 1 [] → BX7_isPlace_14  σ  = some out → W p l e rmX7_isPlace s m args below meth c H locs 0 0 (MQ below (g_Q D out.2 (some (.int out.1))) args s 0 0 (g_A D)) (F0 m 14 ls []) := by
  obtain ⟨hx, hb, hml, hown, hts, hr, hlocks, hin⟩ := id C
  intro σ  H locs ls hG hS hl hf
  unfold BX7_isPlace_14 at hf
  refine lv_iconst (v := 0) hx hb dX7_isPlace_14 (by decide +kernel) ?_
  exact tBX7_isPlace_15 C hK   _ _ _ _ _ hG hS (lv_sub hl [] rfl) hf

set_option maxHeartbeats 4000000 in
set_option maxRecDepth 100000 in
theorem tX7_isPlace (l : Launch) (D : g_D) {σ : g_S} {x0 : Int32} {out : Int32 × g_S} (hf : fX7_isPlace σ x0 = some out) : Met l yX7_isPlace (Cond.code yX7_isPlace cX7_isPlace 1 (some .boolean) :: lw_g) rmX7_isPlace (g_P D σ [.int x0]) (g_Q D out.2 (some (.int out.1))) 0 0 (g_A D) := by
  refine Met.ofW (cc := cX7_isPlace) (maxL := 1) (ret := (some .boolean)) (by decide +kernel) rfl ?_
  intro p e s m args below meth c s₁ B hml hv
  obtain ⟨rfl, hG, hK⟩ := hv
  have hts : ∀ w ∈ lw_g, w.before _ s = true := fun w h => atoms_spec (ws := (Cond.code yX7_isPlace cX7_isPlace 1 (some .boolean) :: lw_g)) B.pre w (List.mem_cons_of_mem _ h)
  have C : g_C RX7 cX7_isPlace 1 (some .boolean) True p s m _ meth c := ⟨B.exec, B.bytes, hml, findClass_of_methodNamed B.named, hts, B.returns, B.notSynchronized, trivial⟩
  obtain ⟨hx, hb, hml, hown, hts, hr, hlocks, hin⟩ := id C
  have hS : va_S (g_A D) s.heap s.heap [] := va_S.rf
  have hl := lv_entry ([.int x0]) (n := 1) (Nat.le_of_ble_eq_true rfl)
  rw [lg_entry_eq]
  generalize (lg_sl ([.int x0]) ++ List.replicate (1 - (lg_sl ([.int x0])).length) Slot.unset).toArray = ls at hl ⊢
  have hl : lv_has ls 1 [(0, .int x0)] := hl
  unfold fX7_isPlace at hf
  refine lv_iload_n hx hb dX7_isPlace_0 rfl (lv_at hl 0 rfl) ?_
  refine lv_if_lt (tgt := 14) hx hb dX7_isPlace_1 (by decide) (fun c1 => ?_) (fun c1 => ?_)
  · rw [if_pos c1] at hf
    exact tBX7_isPlace_14 C hK   _  _ _ _ hG hS (lv_sub hl [] rfl) hf
  · rw [if_neg c1] at hf
    refine lv_iload_n hx hb dX7_isPlace_4 rfl (lv_at hl 0 rfl) ?_
    refine lv_bipush (v := 16) hx hb dX7_isPlace_5 (by decide +kernel) ?_
    refine lv_icmp_ge (tgt := 14) hx hb dX7_isPlace_7 (by decide) (fun c3 => ?_) (fun c3 => ?_)
    · rw [if_pos c3] at hf
      exact tBX7_isPlace_14 C hK   _  _ _ _ hG hS (lv_sub hl [] rfl) hf
    · rw [if_neg c3] at hf
      refine lv_iconst (v := 1) hx hb dX7_isPlace_10 (by decide +kernel) ?_
      refine lv_goto (tgt := 15) hx hb dX7_isPlace_11 (by decide) ?_
      exact tBX7_isPlace_15 C hK   _ _ _ _ _ hG hS (lv_sub hl [] rfl) hf

def rmX7_read : Room := { frames := 5, cells := 0, slots := 0, locals := 132 }
noncomputable def BX7_read_34  (σ : g_S)  : Option (Int32 × g_S) := some ((-1), σ)
noncomputable def fX7_read (σ : g_S) (x0 : Nat) (x1 : Int32) : Option (Int32 × g_S) := (g_fr σ 7 x0 2).bind fun v1 => (g_fr σ 7 x0 1).bind fun v2 => (g_fr σ 4 v2 0).bind fun v3 => (g_o σ 5 v1).bind fun o4 => (fX5_takeFraction σ v1 v3).bind fun r5 => (g_fr r5.2 7 x0 2).bind fun v6 => (g_p r5.2 5 v6 1 (.int 0)).bind fun σ7 => if r5.1 = 0 then (BX7_read_34 σ7) else ((fX7_isPlace σ7 x1).bind fun r9 => if r9.1 = 0 then (BX7_read_34 r9.2) else ((g_fr r9.2 7 x0 1).bind fun v11 => (g_o r9.2 4 v11).bind fun o12 => (fX4_reduce r9.2 v11).bind fun r13 => (g_fr r13 7 x0 0).bind fun v14 => (g_lq r13 4 v14 x1).bind fun v15 => (g_fr r13 7 x0 1).bind fun v16 => (g_fr r13 4 v16 0).bind fun v17 => (g_o r13 2 v15).bind fun o18 => (fX2_become r13 v15 v17).bind fun r19 => some (0, r19)))
set_option maxHeartbeats 4000000 in
set_option maxRecDepth 100000 in
theorem tBX7_read_34 {p : Program} {l : Launch} {e : Env} {s : State} {m : MethodId} {args : Array Value} {below : List Frame} {meth : Method} {c : Code} {D : g_D} {out : Int32 × g_S} (C : g_C RX7 cX7_read 3 (some .int) True p s m args meth c) (hK : g_K D s)  : ∀ (σ : g_S)  (H : Heap) (locs : List Loc) (ls : Array Slot), g_H D σ H → va_S (g_A D) s.heap H locs → lv_has ls 3 [] → BX7_read_34  σ  = some out → W p l e rmX7_read s m args below meth c H locs 0 0 (MQ below (g_Q D out.2 (some (.int out.1))) args s 0 0 (g_A D)) (F0 m 34 ls []) := by
  obtain ⟨hx, hb, hml, hown, hts, hr, hlocks, hin⟩ := id C
  intro σ  H locs ls hG hS hl hf
  unfold BX7_read_34 at hf
  refine lv_iconst (v := (-1)) hx hb dX7_read_34 (by decide +kernel) ?_
  cases hf
  exact g_iret hx hb hr hlocks hG hS dX7_read_35

set_option maxHeartbeats 4000000 in
set_option maxRecDepth 100000 in
theorem tX7_read (l : Launch) (D : g_D) {σ : g_S} {x0 : Nat} {x1 : Int32} {out : Int32 × g_S} (hf : fX7_read σ x0 x1 = some out) : Met l yX7_read (Cond.code yX7_read cX7_read 3 (some .int) :: lw_g) rmX7_read (g_P D σ [.ref x0, .int x1]) (g_Q D out.2 (some (.int out.1))) 0 0 (g_A D) := by
  refine Met.ofW (cc := cX7_read) (maxL := 3) (ret := (some .int)) (by decide +kernel) rfl ?_
  intro p e s m args below meth c s₁ B hml hv
  obtain ⟨rfl, hG, hK⟩ := hv
  have hts : ∀ w ∈ lw_g, w.before _ s = true := fun w h => atoms_spec (ws := (Cond.code yX7_read cX7_read 3 (some .int) :: lw_g)) B.pre w (List.mem_cons_of_mem _ h)
  have C : g_C RX7 cX7_read 3 (some .int) True p s m _ meth c := ⟨B.exec, B.bytes, hml, findClass_of_methodNamed B.named, hts, B.returns, B.notSynchronized, trivial⟩
  obtain ⟨hx, hb, hml, hown, hts, hr, hlocks, hin⟩ := id C
  have hS : va_S (g_A D) s.heap s.heap [] := va_S.rf
  have hl := lv_entry ([.ref x0, .int x1]) (n := 3) (Nat.le_of_ble_eq_true rfl)
  rw [lg_entry_eq]
  generalize (lg_sl ([.ref x0, .int x1]) ++ List.replicate (3 - (lg_sl ([.ref x0, .int x1])).length) Slot.unset).toArray = ls at hl ⊢
  have hl : lv_has ls 3 [(0, .ref x0), (1, .int x1)] := hl
  unfold fX7_read at hf
  refine lv_aload_n hx hb dX7_read_0 rfl (lv_at hl 0 rfl) ?_
  obtain ⟨v1, hv1, hf⟩ := g_bind hf
  refine g_getr hx hb hts hown hK hG hv1 rfl iX7 (by decide) flX7_25 dX7_read_1 ?_
  refine lv_aload_n hx hb dX7_read_4 rfl (lv_at hl 0 rfl) ?_
  obtain ⟨v2, hv2, hf⟩ := g_bind hf
  refine g_getr hx hb hts hown hK hG hv2 rfl iX7 (by decide) flX7_18 dX7_read_5 ?_
  obtain ⟨v3, hv3, hf⟩ := g_bind hf
  refine g_getr hx hb hts hown hK hG hv3 rfl iX4 (by decide) flX7_46 dX7_read_8 ?_
  obtain ⟨o4, ho4, hf⟩ := g_bind hf
  obtain ⟨r5, hr5, hf⟩ := g_bind hf
  refine g_callV hx hb hml hl.1 hts hown hK hG hS (As := [.ref v3]) (rest := []) (tX5_takeFraction l D hr5) vX5_takeFraction mlX7_50 ho4 rfl rfl rfl rfl ⟨Nat.le_of_ble_eq_true rfl, Nat.le_of_ble_eq_true rfl⟩ rfl rfl (Nat.le_of_ble_eq_true rfl) ⟨Nat.le_of_ble_eq_true rfl, Nat.le_of_ble_eq_true rfl⟩ dX7_read_11 (fun H locs hG hS => ?_)
  refine lv_istore_n (lv' := [(2, .int r5.1), (0, .ref x0), (1, .int x1)]) hx hb dX7_read_14 rfl hl (by decide) rfl (fun ls hl => ?_)
  refine lv_aload_n hx hb dX7_read_15 rfl (lv_at hl 1 rfl) ?_
  obtain ⟨v6, hv6, hf⟩ := g_bind hf
  refine g_getr hx hb hts hown hK hG hv6 rfl iX7 (by decide) flX7_25 dX7_read_16 ?_
  refine lv_iconst (v := 0) hx hb dX7_read_19 (by decide +kernel) ?_
  obtain ⟨σ7, hσ7, hf⟩ := g_bind hf
  refine g_put hx hb hts hown hK hG hS hσ7 rfl iX5 tyX5 tyX5_ok nmX5 (by decide) flX7_39 rfl rfl rfl dX7_read_20 (fun H locs hG hS => ?_)
  refine lv_iload_n hx hb dX7_read_23 rfl (lv_at hl 0 rfl) ?_
  refine lv_if_eq (tgt := 34) hx hb dX7_read_24 (by decide) (fun c8 => ?_) (fun c8 => ?_)
  · rw [if_pos c8] at hf
    exact tBX7_read_34 C hK   _  _ _ _ hG hS (lv_sub hl [] rfl) hf
  · rw [if_neg c8] at hf
    refine lv_iload_n hx hb dX7_read_27 rfl (lv_at hl 2 rfl) ?_
    obtain ⟨r9, hr9, hf⟩ := g_bind hf
    refine g_callS hx hb hml hl.1 hts hown hK hG hS (As := [.int x1]) (rest := []) (tX7_isPlace l D hr9) vX7_isPlace mlX7_54 rfl rfl ⟨Nat.le_of_ble_eq_true rfl, Nat.le_of_ble_eq_true rfl⟩ rfl rfl (Nat.le_of_ble_eq_true rfl) ⟨Nat.le_of_ble_eq_true rfl, Nat.le_of_ble_eq_true rfl⟩ dX7_read_28 (fun H locs hG hS => ?_)
    refine lv_if_ne (tgt := 36) hx hb dX7_read_31 (by decide) (fun c10 => ?_) (fun c10 => ?_)
    · rw [if_neg c10] at hf
      refine lv_aload_n hx hb dX7_read_36 rfl (lv_at hl 1 rfl) ?_
      obtain ⟨v11, hv11, hf⟩ := g_bind hf
      refine g_getr hx hb hts hown hK hG hv11 rfl iX7 (by decide) flX7_18 dX7_read_37 ?_
      obtain ⟨o12, ho12, hf⟩ := g_bind hf
      obtain ⟨r13, hr13, hf⟩ := g_bind hf
      refine g_callV hx hb hml hl.1 hts hown hK hG hS (As := []) (rest := []) (tX4_reduce l D hr13) vX4_reduce mlX7_58 ho12 rfl rfl rfl rfl ⟨Nat.le_of_ble_eq_true rfl, Nat.le_of_ble_eq_true rfl⟩ rfl rfl (Nat.le_of_ble_eq_true rfl) ⟨Nat.le_of_ble_eq_true rfl, Nat.le_of_ble_eq_true rfl⟩ dX7_read_40 (fun H locs hG hS => ?_)
      refine lv_aload_n hx hb dX7_read_43 rfl (lv_at hl 1 rfl) ?_
      obtain ⟨v14, hv14, hf⟩ := g_bind hf
      refine g_getr hx hb hts hown hK hG hv14 rfl iX7 (by decide) flX7_11 dX7_read_44 ?_
      refine lv_iload_n hx hb dX7_read_47 rfl (lv_at hl 2 rfl) ?_
      obtain ⟨v15, hv15, hf⟩ := g_bind hf
      refine g_qald hx hb hK hG hv15 rfl dX7_read_48 ?_
      refine lv_aload_n hx hb dX7_read_49 rfl (lv_at hl 1 rfl) ?_
      obtain ⟨v16, hv16, hf⟩ := g_bind hf
      refine g_getr hx hb hts hown hK hG hv16 rfl iX7 (by decide) flX7_18 dX7_read_50 ?_
      obtain ⟨v17, hv17, hf⟩ := g_bind hf
      refine g_getr hx hb hts hown hK hG hv17 rfl iX4 (by decide) flX7_46 dX7_read_53 ?_
      obtain ⟨o18, ho18, hf⟩ := g_bind hf
      obtain ⟨r19, hr19, hf⟩ := g_bind hf
      refine g_callV hx hb hml hl.1 hts hown hK hG hS (As := [.ref v17]) (rest := []) (tX2_become l D hr19) vX2_become mlX7_61 ho18 rfl rfl rfl rfl ⟨Nat.le_of_ble_eq_true rfl, Nat.le_of_ble_eq_true rfl⟩ rfl rfl (Nat.le_of_ble_eq_true rfl) ⟨Nat.le_of_ble_eq_true rfl, Nat.le_of_ble_eq_true rfl⟩ dX7_read_56 (fun H locs hG hS => ?_)
      refine lv_iconst (v := 0) hx hb dX7_read_59 (by decide +kernel) ?_
      cases hf
      exact g_iret hx hb hr hlocks hG hS dX7_read_60
    · rw [if_pos c10] at hf
      exact tBX7_read_34 C hK   _  _ _ _ hG hS (lv_sub hl [] rfl) hf

def rmX7_set : Room := { frames := 3, cells := 0, slots := 0, locals := 65 }
noncomputable def fX7_set (σ : g_S) (x0 : Nat) (x1 : Int32) (x2 : Int64) : Option (Int32 × g_S) := (fX7_isPlace σ x1).bind fun r1 => if r1.1 = 0 then (some ((-1), r1.2)) else ((g_fr r1.2 7 x0 0).bind fun v3 => (g_lq r1.2 4 v3 x1).bind fun v4 => (g_o r1.2 2 v4).bind fun o5 => (fX2_becomeWhole r1.2 v4 x2).bind fun r6 => some (0, r6))
set_option maxHeartbeats 4000000 in
set_option maxRecDepth 100000 in
theorem tX7_set (l : Launch) (D : g_D) {σ : g_S} {x0 : Nat} {x1 : Int32} {x2 : Int64} {out : Int32 × g_S} (hf : fX7_set σ x0 x1 x2 = some out) : Met l yX7_set (Cond.code yX7_set cX7_set 4 (some .int) :: lw_g) rmX7_set (g_P D σ [.ref x0, .int x1, .long x2]) (g_Q D out.2 (some (.int out.1))) 0 0 (g_A D) := by
  refine Met.ofW (cc := cX7_set) (maxL := 4) (ret := (some .int)) (by decide +kernel) rfl ?_
  intro p e s m args below meth c s₁ B hml hv
  obtain ⟨rfl, hG, hK⟩ := hv
  have hts : ∀ w ∈ lw_g, w.before _ s = true := fun w h => atoms_spec (ws := (Cond.code yX7_set cX7_set 4 (some .int) :: lw_g)) B.pre w (List.mem_cons_of_mem _ h)
  have C : g_C RX7 cX7_set 4 (some .int) True p s m _ meth c := ⟨B.exec, B.bytes, hml, findClass_of_methodNamed B.named, hts, B.returns, B.notSynchronized, trivial⟩
  obtain ⟨hx, hb, hml, hown, hts, hr, hlocks, hin⟩ := id C
  have hS : va_S (g_A D) s.heap s.heap [] := va_S.rf
  have hl := lv_entry ([.ref x0, .int x1, .long x2]) (n := 4) (Nat.le_of_ble_eq_true rfl)
  rw [lg_entry_eq]
  generalize (lg_sl ([.ref x0, .int x1, .long x2]) ++ List.replicate (4 - (lg_sl ([.ref x0, .int x1, .long x2])).length) Slot.unset).toArray = ls at hl ⊢
  have hl : lv_has ls 4 [(0, .ref x0), (1, .int x1), (2, .long x2)] := hl
  unfold fX7_set at hf
  refine lv_iload_n hx hb dX7_set_0 rfl (lv_at hl 1 rfl) ?_
  obtain ⟨r1, hr1, hf⟩ := g_bind hf
  refine g_callS hx hb hml hl.1 hts hown hK hG hS (As := [.int x1]) (rest := []) (tX7_isPlace l D hr1) vX7_isPlace mlX7_54 rfl rfl ⟨Nat.le_of_ble_eq_true rfl, Nat.le_of_ble_eq_true rfl⟩ rfl rfl (Nat.le_of_ble_eq_true rfl) ⟨Nat.le_of_ble_eq_true rfl, Nat.le_of_ble_eq_true rfl⟩ dX7_set_1 (fun H locs hG hS => ?_)
  refine lv_if_ne (tgt := 9) hx hb dX7_set_4 (by decide) (fun c2 => ?_) (fun c2 => ?_)
  · rw [if_neg c2] at hf
    refine lv_aload_n hx hb dX7_set_9 rfl (lv_at hl 0 rfl) ?_
    obtain ⟨v3, hv3, hf⟩ := g_bind hf
    refine g_getr hx hb hts hown hK hG hv3 rfl iX7 (by decide) flX7_11 dX7_set_10 ?_
    refine lv_iload_n hx hb dX7_set_13 rfl (lv_at hl 1 rfl) ?_
    obtain ⟨v4, hv4, hf⟩ := g_bind hf
    refine g_qald hx hb hK hG hv4 rfl dX7_set_14 ?_
    refine lv_lload_n hx hb dX7_set_15 rfl (lv_at hl 2 rfl) ?_
    obtain ⟨o5, ho5, hf⟩ := g_bind hf
    obtain ⟨r6, hr6, hf⟩ := g_bind hf
    refine g_callV hx hb hml hl.1 hts hown hK hG hS (As := [.long x2]) (rest := []) (tX2_becomeWhole l D hr6) vX2_becomeWhole mlX7_65 ho5 rfl rfl rfl rfl ⟨Nat.le_of_ble_eq_true rfl, Nat.le_of_ble_eq_true rfl⟩ rfl rfl (Nat.le_of_ble_eq_true rfl) ⟨Nat.le_of_ble_eq_true rfl, Nat.le_of_ble_eq_true rfl⟩ dX7_set_16 (fun H locs hG hS => ?_)
    refine lv_iconst (v := 0) hx hb dX7_set_19 (by decide +kernel) ?_
    cases hf
    exact g_iret hx hb hr hlocks hG hS dX7_set_20
  · rw [if_pos c2] at hf
    refine lv_iconst (v := (-1)) hx hb dX7_set_7 (by decide +kernel) ?_
    cases hf
    exact g_iret hx hb hr hlocks hG hS dX7_set_8

def rmX7_keep : Room := { frames := 3, cells := 0, slots := 0, locals := 82 }
noncomputable def BX7_keep_20  (σ : g_S) (x2 : Int32) : Option (Int32 × g_S) := some (x2, σ)
noncomputable def fX7_keep (σ : g_S) (x0 : Nat) (x1 : Int32) (x2 : Int32) : Option (Int32 × g_S) := if x2 = 0 then ((g_fr σ 7 x0 0).bind fun v2 => (g_lq σ 4 v2 x1).bind fun v3 => (g_fr σ 7 x0 1).bind fun v4 => (g_fr σ 4 v4 0).bind fun v5 => (g_o σ 2 v3).bind fun o6 => (fX2_become σ v3 v5).bind fun r7 => BX7_keep_20 r7 x2) else (BX7_keep_20 σ x2)
set_option maxHeartbeats 4000000 in
set_option maxRecDepth 100000 in
theorem tBX7_keep_20 {p : Program} {l : Launch} {e : Env} {s : State} {m : MethodId} {args : Array Value} {below : List Frame} {meth : Method} {c : Code} {D : g_D} {out : Int32 × g_S} (C : g_C RX7 cX7_keep 3 (some .int) True p s m args meth c) (hK : g_K D s)  : ∀ (σ : g_S) (x2 : Int32) (H : Heap) (locs : List Loc) (ls : Array Slot), g_H D σ H → va_S (g_A D) s.heap H locs → lv_has ls 3 [(2, .int x2)] → BX7_keep_20  σ x2 = some out → W p l e rmX7_keep s m args below meth c H locs 0 0 (MQ below (g_Q D out.2 (some (.int out.1))) args s 0 0 (g_A D)) (F0 m 20 ls []) := by
  obtain ⟨hx, hb, hml, hown, hts, hr, hlocks, hin⟩ := id C
  intro σ x2 H locs ls hG hS hl hf
  unfold BX7_keep_20 at hf
  refine lv_iload_n hx hb dX7_keep_20 rfl (lv_at hl 0 rfl) ?_
  cases hf
  exact g_iret hx hb hr hlocks hG hS dX7_keep_21

set_option maxHeartbeats 4000000 in
set_option maxRecDepth 100000 in
theorem tX7_keep (l : Launch) (D : g_D) {σ : g_S} {x0 : Nat} {x1 : Int32} {x2 : Int32} {out : Int32 × g_S} (hf : fX7_keep σ x0 x1 x2 = some out) : Met l yX7_keep (Cond.code yX7_keep cX7_keep 3 (some .int) :: lw_g) rmX7_keep (g_P D σ [.ref x0, .int x1, .int x2]) (g_Q D out.2 (some (.int out.1))) 0 0 (g_A D) := by
  refine Met.ofW (cc := cX7_keep) (maxL := 3) (ret := (some .int)) (by decide +kernel) rfl ?_
  intro p e s m args below meth c s₁ B hml hv
  obtain ⟨rfl, hG, hK⟩ := hv
  have hts : ∀ w ∈ lw_g, w.before _ s = true := fun w h => atoms_spec (ws := (Cond.code yX7_keep cX7_keep 3 (some .int) :: lw_g)) B.pre w (List.mem_cons_of_mem _ h)
  have C : g_C RX7 cX7_keep 3 (some .int) True p s m _ meth c := ⟨B.exec, B.bytes, hml, findClass_of_methodNamed B.named, hts, B.returns, B.notSynchronized, trivial⟩
  obtain ⟨hx, hb, hml, hown, hts, hr, hlocks, hin⟩ := id C
  have hS : va_S (g_A D) s.heap s.heap [] := va_S.rf
  have hl := lv_entry ([.ref x0, .int x1, .int x2]) (n := 3) (Nat.le_of_ble_eq_true rfl)
  rw [lg_entry_eq]
  generalize (lg_sl ([.ref x0, .int x1, .int x2]) ++ List.replicate (3 - (lg_sl ([.ref x0, .int x1, .int x2])).length) Slot.unset).toArray = ls at hl ⊢
  have hl : lv_has ls 3 [(0, .ref x0), (1, .int x1), (2, .int x2)] := hl
  unfold fX7_keep at hf
  refine lv_iload_n hx hb dX7_keep_0 rfl (lv_at hl 2 rfl) ?_
  refine lv_if_ne (tgt := 20) hx hb dX7_keep_1 (by decide) (fun c1 => ?_) (fun c1 => ?_)
  · rw [if_neg c1] at hf
    exact tBX7_keep_20 C hK   _ _ _ _ _ hG hS (lv_sub hl [2] rfl) hf
  · rw [if_pos c1] at hf
    refine lv_aload_n hx hb dX7_keep_4 rfl (lv_at hl 0 rfl) ?_
    obtain ⟨v2, hv2, hf⟩ := g_bind hf
    refine g_getr hx hb hts hown hK hG hv2 rfl iX7 (by decide) flX7_11 dX7_keep_5 ?_
    refine lv_iload_n hx hb dX7_keep_8 rfl (lv_at hl 1 rfl) ?_
    obtain ⟨v3, hv3, hf⟩ := g_bind hf
    refine g_qald hx hb hK hG hv3 rfl dX7_keep_9 ?_
    refine lv_aload_n hx hb dX7_keep_10 rfl (lv_at hl 0 rfl) ?_
    obtain ⟨v4, hv4, hf⟩ := g_bind hf
    refine g_getr hx hb hts hown hK hG hv4 rfl iX7 (by decide) flX7_18 dX7_keep_11 ?_
    obtain ⟨v5, hv5, hf⟩ := g_bind hf
    refine g_getr hx hb hts hown hK hG hv5 rfl iX4 (by decide) flX7_46 dX7_keep_14 ?_
    obtain ⟨o6, ho6, hf⟩ := g_bind hf
    obtain ⟨r7, hr7, hf⟩ := g_bind hf
    refine g_callV hx hb hml hl.1 hts hown hK hG hS (As := [.ref v5]) (rest := []) (tX2_become l D hr7) vX2_become mlX7_61 ho6 rfl rfl rfl rfl ⟨Nat.le_of_ble_eq_true rfl, Nat.le_of_ble_eq_true rfl⟩ rfl rfl (Nat.le_of_ble_eq_true rfl) ⟨Nat.le_of_ble_eq_true rfl, Nat.le_of_ble_eq_true rfl⟩ dX7_keep_17 (fun H locs hG hS => ?_)
    exact tBX7_keep_20 C hK   _ _ _ _ _ hG hS (lv_sub hl [2] rfl) hf

def rmX7_reckon : Room := { frames := 6, cells := 0, slots := 0, locals := 159 }
noncomputable def BX7_reckon_21  (σ : g_S)  : Option (Int32 × g_S) := some ((-1), σ)
noncomputable def fX7_reckon (σ : g_S) (x0 : Nat) (x1 : Int32) (x2 : Int32) (x3 : Int32) (x4 : Int32) : Option (Int32 × g_S) := (fX7_isPlace σ x1).bind fun r1 => if r1.1 = 0 then (BX7_reckon_21 r1.2) else ((fX7_isPlace r1.2 x2).bind fun r3 => if r3.1 = 0 then (BX7_reckon_21 r3.2) else ((fX7_isPlace r3.2 x3).bind fun r5 => if r5.1 = 0 then (BX7_reckon_21 r5.2) else ((g_fr r5.2 7 x0 1).bind fun v7 => (g_fr r5.2 7 x0 0).bind fun v8 => (g_lq r5.2 4 v8 x2).bind fun v9 => (g_fr r5.2 7 x0 0).bind fun v10 => (g_lq r5.2 4 v10 x3).bind fun v11 => (g_o r5.2 4 v7).bind fun o12 => (fX4_combine r5.2 v7 v9 v11 x4).bind fun r13 => (g_o r13.2 7 x0).bind fun o14 => (fX7_keep r13.2 x0 x1 r13.1).bind fun r15 => some (r15.1, r15.2))))
set_option maxHeartbeats 4000000 in
set_option maxRecDepth 100000 in
theorem tBX7_reckon_21 {p : Program} {l : Launch} {e : Env} {s : State} {m : MethodId} {args : Array Value} {below : List Frame} {meth : Method} {c : Code} {D : g_D} {out : Int32 × g_S} (C : g_C RX7 cX7_reckon 5 (some .int) True p s m args meth c) (hK : g_K D s)  : ∀ (σ : g_S)  (H : Heap) (locs : List Loc) (ls : Array Slot), g_H D σ H → va_S (g_A D) s.heap H locs → lv_has ls 5 [] → BX7_reckon_21  σ  = some out → W p l e rmX7_reckon s m args below meth c H locs 0 0 (MQ below (g_Q D out.2 (some (.int out.1))) args s 0 0 (g_A D)) (F0 m 21 ls []) := by
  obtain ⟨hx, hb, hml, hown, hts, hr, hlocks, hin⟩ := id C
  intro σ  H locs ls hG hS hl hf
  unfold BX7_reckon_21 at hf
  refine lv_iconst (v := (-1)) hx hb dX7_reckon_21 (by decide +kernel) ?_
  cases hf
  exact g_iret hx hb hr hlocks hG hS dX7_reckon_22

set_option maxHeartbeats 4000000 in
set_option maxRecDepth 100000 in
theorem tX7_reckon (l : Launch) (D : g_D) {σ : g_S} {x0 : Nat} {x1 : Int32} {x2 : Int32} {x3 : Int32} {x4 : Int32} {out : Int32 × g_S} (hf : fX7_reckon σ x0 x1 x2 x3 x4 = some out) : Met l yX7_reckon (Cond.code yX7_reckon cX7_reckon 5 (some .int) :: lw_g) rmX7_reckon (g_P D σ [.ref x0, .int x1, .int x2, .int x3, .int x4]) (g_Q D out.2 (some (.int out.1))) 0 0 (g_A D) := by
  refine Met.ofW (cc := cX7_reckon) (maxL := 5) (ret := (some .int)) (by decide +kernel) rfl ?_
  intro p e s m args below meth c s₁ B hml hv
  obtain ⟨rfl, hG, hK⟩ := hv
  have hts : ∀ w ∈ lw_g, w.before _ s = true := fun w h => atoms_spec (ws := (Cond.code yX7_reckon cX7_reckon 5 (some .int) :: lw_g)) B.pre w (List.mem_cons_of_mem _ h)
  have C : g_C RX7 cX7_reckon 5 (some .int) True p s m _ meth c := ⟨B.exec, B.bytes, hml, findClass_of_methodNamed B.named, hts, B.returns, B.notSynchronized, trivial⟩
  obtain ⟨hx, hb, hml, hown, hts, hr, hlocks, hin⟩ := id C
  have hS : va_S (g_A D) s.heap s.heap [] := va_S.rf
  have hl := lv_entry ([.ref x0, .int x1, .int x2, .int x3, .int x4]) (n := 5) (Nat.le_of_ble_eq_true rfl)
  rw [lg_entry_eq]
  generalize (lg_sl ([.ref x0, .int x1, .int x2, .int x3, .int x4]) ++ List.replicate (5 - (lg_sl ([.ref x0, .int x1, .int x2, .int x3, .int x4])).length) Slot.unset).toArray = ls at hl ⊢
  have hl : lv_has ls 5 [(0, .ref x0), (1, .int x1), (2, .int x2), (3, .int x3), (4, .int x4)] := hl
  unfold fX7_reckon at hf
  refine lv_iload_n hx hb dX7_reckon_0 rfl (lv_at hl 1 rfl) ?_
  obtain ⟨r1, hr1, hf⟩ := g_bind hf
  refine g_callS hx hb hml hl.1 hts hown hK hG hS (As := [.int x1]) (rest := []) (tX7_isPlace l D hr1) vX7_isPlace mlX7_54 rfl rfl ⟨Nat.le_of_ble_eq_true rfl, Nat.le_of_ble_eq_true rfl⟩ rfl rfl (Nat.le_of_ble_eq_true rfl) ⟨Nat.le_of_ble_eq_true rfl, Nat.le_of_ble_eq_true rfl⟩ dX7_reckon_1 (fun H locs hG hS => ?_)
  refine lv_if_eq (tgt := 21) hx hb dX7_reckon_4 (by decide) (fun c2 => ?_) (fun c2 => ?_)
  · rw [if_pos c2] at hf
    exact tBX7_reckon_21 C hK   _  _ _ _ hG hS (lv_sub hl [] rfl) hf
  · rw [if_neg c2] at hf
    refine lv_iload_n hx hb dX7_reckon_7 rfl (lv_at hl 2 rfl) ?_
    obtain ⟨r3, hr3, hf⟩ := g_bind hf
    refine g_callS hx hb hml hl.1 hts hown hK hG hS (As := [.int x2]) (rest := []) (tX7_isPlace l D hr3) vX7_isPlace mlX7_54 rfl rfl ⟨Nat.le_of_ble_eq_true rfl, Nat.le_of_ble_eq_true rfl⟩ rfl rfl (Nat.le_of_ble_eq_true rfl) ⟨Nat.le_of_ble_eq_true rfl, Nat.le_of_ble_eq_true rfl⟩ dX7_reckon_8 (fun H locs hG hS => ?_)
    refine lv_if_eq (tgt := 21) hx hb dX7_reckon_11 (by decide) (fun c4 => ?_) (fun c4 => ?_)
    · rw [if_pos c4] at hf
      exact tBX7_reckon_21 C hK   _  _ _ _ hG hS (lv_sub hl [] rfl) hf
    · rw [if_neg c4] at hf
      refine lv_iload_n hx hb dX7_reckon_14 rfl (lv_at hl 3 rfl) ?_
      obtain ⟨r5, hr5, hf⟩ := g_bind hf
      refine g_callS hx hb hml hl.1 hts hown hK hG hS (As := [.int x3]) (rest := []) (tX7_isPlace l D hr5) vX7_isPlace mlX7_54 rfl rfl ⟨Nat.le_of_ble_eq_true rfl, Nat.le_of_ble_eq_true rfl⟩ rfl rfl (Nat.le_of_ble_eq_true rfl) ⟨Nat.le_of_ble_eq_true rfl, Nat.le_of_ble_eq_true rfl⟩ dX7_reckon_15 (fun H locs hG hS => ?_)
      refine lv_if_ne (tgt := 23) hx hb dX7_reckon_18 (by decide) (fun c6 => ?_) (fun c6 => ?_)
      · rw [if_neg c6] at hf
        refine lv_aload_n hx hb dX7_reckon_23 rfl (lv_at hl 0 rfl) ?_
        refine lv_iload_n hx hb dX7_reckon_24 rfl (lv_at hl 1 rfl) ?_
        refine lv_aload_n hx hb dX7_reckon_25 rfl (lv_at hl 0 rfl) ?_
        obtain ⟨v7, hv7, hf⟩ := g_bind hf
        refine g_getr hx hb hts hown hK hG hv7 rfl iX7 (by decide) flX7_18 dX7_reckon_26 ?_
        refine lv_aload_n hx hb dX7_reckon_29 rfl (lv_at hl 0 rfl) ?_
        obtain ⟨v8, hv8, hf⟩ := g_bind hf
        refine g_getr hx hb hts hown hK hG hv8 rfl iX7 (by decide) flX7_11 dX7_reckon_30 ?_
        refine lv_iload_n hx hb dX7_reckon_33 rfl (lv_at hl 2 rfl) ?_
        obtain ⟨v9, hv9, hf⟩ := g_bind hf
        refine g_qald hx hb hK hG hv9 rfl dX7_reckon_34 ?_
        refine lv_aload_n hx hb dX7_reckon_35 rfl (lv_at hl 0 rfl) ?_
        obtain ⟨v10, hv10, hf⟩ := g_bind hf
        refine g_getr hx hb hts hown hK hG hv10 rfl iX7 (by decide) flX7_11 dX7_reckon_36 ?_
        refine lv_iload_n hx hb dX7_reckon_39 rfl (lv_at hl 3 rfl) ?_
        obtain ⟨v11, hv11, hf⟩ := g_bind hf
        refine g_qald hx hb hK hG hv11 rfl dX7_reckon_40 ?_
        refine lv_iload hx hb dX7_reckon_41 (lv_at hl 4 rfl) ?_
        obtain ⟨o12, ho12, hf⟩ := g_bind hf
        obtain ⟨r13, hr13, hf⟩ := g_bind hf
        refine g_callV hx hb hml hl.1 hts hown hK hG hS (As := [.ref v9, .ref v11, .int x4]) (rest := [.int x1, .ref x0]) (tX4_combine l D hr13) vX4_combine mlX7_69 ho12 rfl rfl rfl rfl ⟨Nat.le_of_ble_eq_true rfl, Nat.le_of_ble_eq_true rfl⟩ rfl rfl (Nat.le_of_ble_eq_true rfl) ⟨Nat.le_of_ble_eq_true rfl, Nat.le_of_ble_eq_true rfl⟩ dX7_reckon_43 (fun H locs hG hS => ?_)
        obtain ⟨o14, ho14, hf⟩ := g_bind hf
        obtain ⟨r15, hr15, hf⟩ := g_bind hf
        refine g_callV hx hb hml hl.1 hts hown hK hG hS (As := [.int x1, .int r13.1]) (rest := []) (tX7_keep l D hr15) vX7_keep mlX7_73 ho14 rfl rfl rfl rfl ⟨Nat.le_of_ble_eq_true rfl, Nat.le_of_ble_eq_true rfl⟩ rfl rfl (Nat.le_of_ble_eq_true rfl) ⟨Nat.le_of_ble_eq_true rfl, Nat.le_of_ble_eq_true rfl⟩ dX7_reckon_46 (fun H locs hG hS => ?_)
        cases hf
        exact g_iret hx hb hr hlocks hG hS dX7_reckon_49
      · rw [if_pos c6] at hf
        exact tBX7_reckon_21 C hK   _  _ _ _ hG hS (lv_sub hl [] rfl) hf

def rmX7_round : Room := { frames := 6, cells := 0, slots := 0, locals := 149 }
noncomputable def BX7_round_14  (σ : g_S)  : Option (Int32 × g_S) := some ((-1), σ)
noncomputable def fX7_round (σ : g_S) (x0 : Nat) (x1 : Int32) (x2 : Int32) (x3 : Int32) : Option (Int32 × g_S) := (fX7_isPlace σ x1).bind fun r1 => if r1.1 = 0 then (BX7_round_14 r1.2) else ((fX7_isPlace r1.2 x2).bind fun r3 => if r3.1 = 0 then (BX7_round_14 r3.2) else ((g_fr r3.2 7 x0 1).bind fun v5 => (g_fr r3.2 7 x0 0).bind fun v6 => (g_lq r3.2 4 v6 x2).bind fun v7 => (g_o r3.2 4 v5).bind fun o8 => (fX4_change r3.2 v5 v7 x3).bind fun r9 => (g_o r9.2 7 x0).bind fun o10 => (fX7_keep r9.2 x0 x1 r9.1).bind fun r11 => some (r11.1, r11.2)))
set_option maxHeartbeats 4000000 in
set_option maxRecDepth 100000 in
theorem tBX7_round_14 {p : Program} {l : Launch} {e : Env} {s : State} {m : MethodId} {args : Array Value} {below : List Frame} {meth : Method} {c : Code} {D : g_D} {out : Int32 × g_S} (C : g_C RX7 cX7_round 4 (some .int) True p s m args meth c) (hK : g_K D s)  : ∀ (σ : g_S)  (H : Heap) (locs : List Loc) (ls : Array Slot), g_H D σ H → va_S (g_A D) s.heap H locs → lv_has ls 4 [] → BX7_round_14  σ  = some out → W p l e rmX7_round s m args below meth c H locs 0 0 (MQ below (g_Q D out.2 (some (.int out.1))) args s 0 0 (g_A D)) (F0 m 14 ls []) := by
  obtain ⟨hx, hb, hml, hown, hts, hr, hlocks, hin⟩ := id C
  intro σ  H locs ls hG hS hl hf
  unfold BX7_round_14 at hf
  refine lv_iconst (v := (-1)) hx hb dX7_round_14 (by decide +kernel) ?_
  cases hf
  exact g_iret hx hb hr hlocks hG hS dX7_round_15

set_option maxHeartbeats 4000000 in
set_option maxRecDepth 100000 in
theorem tX7_round (l : Launch) (D : g_D) {σ : g_S} {x0 : Nat} {x1 : Int32} {x2 : Int32} {x3 : Int32} {out : Int32 × g_S} (hf : fX7_round σ x0 x1 x2 x3 = some out) : Met l yX7_round (Cond.code yX7_round cX7_round 4 (some .int) :: lw_g) rmX7_round (g_P D σ [.ref x0, .int x1, .int x2, .int x3]) (g_Q D out.2 (some (.int out.1))) 0 0 (g_A D) := by
  refine Met.ofW (cc := cX7_round) (maxL := 4) (ret := (some .int)) (by decide +kernel) rfl ?_
  intro p e s m args below meth c s₁ B hml hv
  obtain ⟨rfl, hG, hK⟩ := hv
  have hts : ∀ w ∈ lw_g, w.before _ s = true := fun w h => atoms_spec (ws := (Cond.code yX7_round cX7_round 4 (some .int) :: lw_g)) B.pre w (List.mem_cons_of_mem _ h)
  have C : g_C RX7 cX7_round 4 (some .int) True p s m _ meth c := ⟨B.exec, B.bytes, hml, findClass_of_methodNamed B.named, hts, B.returns, B.notSynchronized, trivial⟩
  obtain ⟨hx, hb, hml, hown, hts, hr, hlocks, hin⟩ := id C
  have hS : va_S (g_A D) s.heap s.heap [] := va_S.rf
  have hl := lv_entry ([.ref x0, .int x1, .int x2, .int x3]) (n := 4) (Nat.le_of_ble_eq_true rfl)
  rw [lg_entry_eq]
  generalize (lg_sl ([.ref x0, .int x1, .int x2, .int x3]) ++ List.replicate (4 - (lg_sl ([.ref x0, .int x1, .int x2, .int x3])).length) Slot.unset).toArray = ls at hl ⊢
  have hl : lv_has ls 4 [(0, .ref x0), (1, .int x1), (2, .int x2), (3, .int x3)] := hl
  unfold fX7_round at hf
  refine lv_iload_n hx hb dX7_round_0 rfl (lv_at hl 1 rfl) ?_
  obtain ⟨r1, hr1, hf⟩ := g_bind hf
  refine g_callS hx hb hml hl.1 hts hown hK hG hS (As := [.int x1]) (rest := []) (tX7_isPlace l D hr1) vX7_isPlace mlX7_54 rfl rfl ⟨Nat.le_of_ble_eq_true rfl, Nat.le_of_ble_eq_true rfl⟩ rfl rfl (Nat.le_of_ble_eq_true rfl) ⟨Nat.le_of_ble_eq_true rfl, Nat.le_of_ble_eq_true rfl⟩ dX7_round_1 (fun H locs hG hS => ?_)
  refine lv_if_eq (tgt := 14) hx hb dX7_round_4 (by decide) (fun c2 => ?_) (fun c2 => ?_)
  · rw [if_pos c2] at hf
    exact tBX7_round_14 C hK   _  _ _ _ hG hS (lv_sub hl [] rfl) hf
  · rw [if_neg c2] at hf
    refine lv_iload_n hx hb dX7_round_7 rfl (lv_at hl 2 rfl) ?_
    obtain ⟨r3, hr3, hf⟩ := g_bind hf
    refine g_callS hx hb hml hl.1 hts hown hK hG hS (As := [.int x2]) (rest := []) (tX7_isPlace l D hr3) vX7_isPlace mlX7_54 rfl rfl ⟨Nat.le_of_ble_eq_true rfl, Nat.le_of_ble_eq_true rfl⟩ rfl rfl (Nat.le_of_ble_eq_true rfl) ⟨Nat.le_of_ble_eq_true rfl, Nat.le_of_ble_eq_true rfl⟩ dX7_round_8 (fun H locs hG hS => ?_)
    refine lv_if_ne (tgt := 16) hx hb dX7_round_11 (by decide) (fun c4 => ?_) (fun c4 => ?_)
    · rw [if_neg c4] at hf
      refine lv_aload_n hx hb dX7_round_16 rfl (lv_at hl 0 rfl) ?_
      refine lv_iload_n hx hb dX7_round_17 rfl (lv_at hl 1 rfl) ?_
      refine lv_aload_n hx hb dX7_round_18 rfl (lv_at hl 0 rfl) ?_
      obtain ⟨v5, hv5, hf⟩ := g_bind hf
      refine g_getr hx hb hts hown hK hG hv5 rfl iX7 (by decide) flX7_18 dX7_round_19 ?_
      refine lv_aload_n hx hb dX7_round_22 rfl (lv_at hl 0 rfl) ?_
      obtain ⟨v6, hv6, hf⟩ := g_bind hf
      refine g_getr hx hb hts hown hK hG hv6 rfl iX7 (by decide) flX7_11 dX7_round_23 ?_
      refine lv_iload_n hx hb dX7_round_26 rfl (lv_at hl 2 rfl) ?_
      obtain ⟨v7, hv7, hf⟩ := g_bind hf
      refine g_qald hx hb hK hG hv7 rfl dX7_round_27 ?_
      refine lv_iload_n hx hb dX7_round_28 rfl (lv_at hl 3 rfl) ?_
      obtain ⟨o8, ho8, hf⟩ := g_bind hf
      obtain ⟨r9, hr9, hf⟩ := g_bind hf
      refine g_callV hx hb hml hl.1 hts hown hK hG hS (As := [.ref v7, .int x3]) (rest := [.int x1, .ref x0]) (tX4_change l D hr9) vX4_change mlX7_77 ho8 rfl rfl rfl rfl ⟨Nat.le_of_ble_eq_true rfl, Nat.le_of_ble_eq_true rfl⟩ rfl rfl (Nat.le_of_ble_eq_true rfl) ⟨Nat.le_of_ble_eq_true rfl, Nat.le_of_ble_eq_true rfl⟩ dX7_round_29 (fun H locs hG hS => ?_)
      obtain ⟨o10, ho10, hf⟩ := g_bind hf
      obtain ⟨r11, hr11, hf⟩ := g_bind hf
      refine g_callV hx hb hml hl.1 hts hown hK hG hS (As := [.int x1, .int r9.1]) (rest := []) (tX7_keep l D hr11) vX7_keep mlX7_73 ho10 rfl rfl rfl rfl ⟨Nat.le_of_ble_eq_true rfl, Nat.le_of_ble_eq_true rfl⟩ rfl rfl (Nat.le_of_ble_eq_true rfl) ⟨Nat.le_of_ble_eq_true rfl, Nat.le_of_ble_eq_true rfl⟩ dX7_round_32 (fun H locs hG hS => ?_)
      cases hf
      exact g_iret hx hb hr hlocks hG hS dX7_round_35
    · rw [if_pos c4] at hf
      exact tBX7_round_14 C hK   _  _ _ _ hG hS (lv_sub hl [] rfl) hf

def rmX7_compare : Room := { frames := 3, cells := 0, slots := 0, locals := 73 }
noncomputable def BX7_compare_14  (σ : g_S)  : Option (Int32 × g_S) := some ((-2), σ)
noncomputable def fX7_compare (σ : g_S) (x0 : Nat) (x1 : Int32) (x2 : Int32) : Option (Int32 × g_S) := (fX7_isPlace σ x1).bind fun r1 => if r1.1 = 0 then (BX7_compare_14 r1.2) else ((fX7_isPlace r1.2 x2).bind fun r3 => if r3.1 = 0 then (BX7_compare_14 r3.2) else ((g_fr r3.2 7 x0 1).bind fun v5 => (g_fr r3.2 7 x0 0).bind fun v6 => (g_lq r3.2 4 v6 x1).bind fun v7 => (g_fr r3.2 7 x0 0).bind fun v8 => (g_lq r3.2 4 v8 x2).bind fun v9 => (g_o r3.2 4 v5).bind fun o10 => (fX4_order r3.2 v5 v7 v9).bind fun r11 => some (r11.1, r11.2)))
set_option maxHeartbeats 4000000 in
set_option maxRecDepth 100000 in
theorem tBX7_compare_14 {p : Program} {l : Launch} {e : Env} {s : State} {m : MethodId} {args : Array Value} {below : List Frame} {meth : Method} {c : Code} {D : g_D} {out : Int32 × g_S} (C : g_C RX7 cX7_compare 3 (some .int) True p s m args meth c) (hK : g_K D s)  : ∀ (σ : g_S)  (H : Heap) (locs : List Loc) (ls : Array Slot), g_H D σ H → va_S (g_A D) s.heap H locs → lv_has ls 3 [] → BX7_compare_14  σ  = some out → W p l e rmX7_compare s m args below meth c H locs 0 0 (MQ below (g_Q D out.2 (some (.int out.1))) args s 0 0 (g_A D)) (F0 m 14 ls []) := by
  obtain ⟨hx, hb, hml, hown, hts, hr, hlocks, hin⟩ := id C
  intro σ  H locs ls hG hS hl hf
  unfold BX7_compare_14 at hf
  refine lv_bipush (v := (-2)) hx hb dX7_compare_14 (by decide +kernel) ?_
  cases hf
  exact g_iret hx hb hr hlocks hG hS dX7_compare_16

set_option maxHeartbeats 4000000 in
set_option maxRecDepth 100000 in
theorem tX7_compare (l : Launch) (D : g_D) {σ : g_S} {x0 : Nat} {x1 : Int32} {x2 : Int32} {out : Int32 × g_S} (hf : fX7_compare σ x0 x1 x2 = some out) : Met l yX7_compare (Cond.code yX7_compare cX7_compare 3 (some .int) :: lw_g) rmX7_compare (g_P D σ [.ref x0, .int x1, .int x2]) (g_Q D out.2 (some (.int out.1))) 0 0 (g_A D) := by
  refine Met.ofW (cc := cX7_compare) (maxL := 3) (ret := (some .int)) (by decide +kernel) rfl ?_
  intro p e s m args below meth c s₁ B hml hv
  obtain ⟨rfl, hG, hK⟩ := hv
  have hts : ∀ w ∈ lw_g, w.before _ s = true := fun w h => atoms_spec (ws := (Cond.code yX7_compare cX7_compare 3 (some .int) :: lw_g)) B.pre w (List.mem_cons_of_mem _ h)
  have C : g_C RX7 cX7_compare 3 (some .int) True p s m _ meth c := ⟨B.exec, B.bytes, hml, findClass_of_methodNamed B.named, hts, B.returns, B.notSynchronized, trivial⟩
  obtain ⟨hx, hb, hml, hown, hts, hr, hlocks, hin⟩ := id C
  have hS : va_S (g_A D) s.heap s.heap [] := va_S.rf
  have hl := lv_entry ([.ref x0, .int x1, .int x2]) (n := 3) (Nat.le_of_ble_eq_true rfl)
  rw [lg_entry_eq]
  generalize (lg_sl ([.ref x0, .int x1, .int x2]) ++ List.replicate (3 - (lg_sl ([.ref x0, .int x1, .int x2])).length) Slot.unset).toArray = ls at hl ⊢
  have hl : lv_has ls 3 [(0, .ref x0), (1, .int x1), (2, .int x2)] := hl
  unfold fX7_compare at hf
  refine lv_iload_n hx hb dX7_compare_0 rfl (lv_at hl 1 rfl) ?_
  obtain ⟨r1, hr1, hf⟩ := g_bind hf
  refine g_callS hx hb hml hl.1 hts hown hK hG hS (As := [.int x1]) (rest := []) (tX7_isPlace l D hr1) vX7_isPlace mlX7_54 rfl rfl ⟨Nat.le_of_ble_eq_true rfl, Nat.le_of_ble_eq_true rfl⟩ rfl rfl (Nat.le_of_ble_eq_true rfl) ⟨Nat.le_of_ble_eq_true rfl, Nat.le_of_ble_eq_true rfl⟩ dX7_compare_1 (fun H locs hG hS => ?_)
  refine lv_if_eq (tgt := 14) hx hb dX7_compare_4 (by decide) (fun c2 => ?_) (fun c2 => ?_)
  · rw [if_pos c2] at hf
    exact tBX7_compare_14 C hK   _  _ _ _ hG hS (lv_sub hl [] rfl) hf
  · rw [if_neg c2] at hf
    refine lv_iload_n hx hb dX7_compare_7 rfl (lv_at hl 2 rfl) ?_
    obtain ⟨r3, hr3, hf⟩ := g_bind hf
    refine g_callS hx hb hml hl.1 hts hown hK hG hS (As := [.int x2]) (rest := []) (tX7_isPlace l D hr3) vX7_isPlace mlX7_54 rfl rfl ⟨Nat.le_of_ble_eq_true rfl, Nat.le_of_ble_eq_true rfl⟩ rfl rfl (Nat.le_of_ble_eq_true rfl) ⟨Nat.le_of_ble_eq_true rfl, Nat.le_of_ble_eq_true rfl⟩ dX7_compare_8 (fun H locs hG hS => ?_)
    refine lv_if_ne (tgt := 17) hx hb dX7_compare_11 (by decide) (fun c4 => ?_) (fun c4 => ?_)
    · rw [if_neg c4] at hf
      refine lv_aload_n hx hb dX7_compare_17 rfl (lv_at hl 0 rfl) ?_
      obtain ⟨v5, hv5, hf⟩ := g_bind hf
      refine g_getr hx hb hts hown hK hG hv5 rfl iX7 (by decide) flX7_18 dX7_compare_18 ?_
      refine lv_aload_n hx hb dX7_compare_21 rfl (lv_at hl 0 rfl) ?_
      obtain ⟨v6, hv6, hf⟩ := g_bind hf
      refine g_getr hx hb hts hown hK hG hv6 rfl iX7 (by decide) flX7_11 dX7_compare_22 ?_
      refine lv_iload_n hx hb dX7_compare_25 rfl (lv_at hl 1 rfl) ?_
      obtain ⟨v7, hv7, hf⟩ := g_bind hf
      refine g_qald hx hb hK hG hv7 rfl dX7_compare_26 ?_
      refine lv_aload_n hx hb dX7_compare_27 rfl (lv_at hl 0 rfl) ?_
      obtain ⟨v8, hv8, hf⟩ := g_bind hf
      refine g_getr hx hb hts hown hK hG hv8 rfl iX7 (by decide) flX7_11 dX7_compare_28 ?_
      refine lv_iload_n hx hb dX7_compare_31 rfl (lv_at hl 2 rfl) ?_
      obtain ⟨v9, hv9, hf⟩ := g_bind hf
      refine g_qald hx hb hK hG hv9 rfl dX7_compare_32 ?_
      obtain ⟨o10, ho10, hf⟩ := g_bind hf
      obtain ⟨r11, hr11, hf⟩ := g_bind hf
      refine g_callV hx hb hml hl.1 hts hown hK hG hS (As := [.ref v7, .ref v9]) (rest := []) (tX4_order l D hr11) vX4_order mlX7_81 ho10 rfl rfl rfl rfl ⟨Nat.le_of_ble_eq_true rfl, Nat.le_of_ble_eq_true rfl⟩ rfl rfl (Nat.le_of_ble_eq_true rfl) ⟨Nat.le_of_ble_eq_true rfl, Nat.le_of_ble_eq_true rfl⟩ dX7_compare_33 (fun H locs hG hS => ?_)
      cases hf
      exact g_iret hx hb hr hlocks hG hS dX7_compare_36
    · rw [if_pos c4] at hf
      exact tBX7_compare_14 C hK   _  _ _ _ hG hS (lv_sub hl [] rfl) hf

def rmX7_write : Room := { frames := 7, cells := 0, slots := 0, locals := 158 }
noncomputable def BX7_write_18  (σ : g_S)  : Option (Int32 × g_S) := some ((-1), σ)
noncomputable def fX7_write (σ : g_S) (x0 : Nat) (x1 : Int32) (x2 : Int32) : Option (Int32 × g_S) := (fX7_isPlace σ x1).bind fun r1 => if r1.1 = 0 then (BX7_write_18 r1.2) else (if x2 < 2 then (BX7_write_18 r1.2) else (if x2 ≤ 36 then ((g_fr r1.2 7 x0 3).bind fun v5 => (g_fr r1.2 7 x0 0).bind fun v6 => (g_lq r1.2 4 v6 x1).bind fun v7 => (g_o r1.2 6 v5).bind fun o8 => (fX6_become r1.2 v5 v7 x2).bind fun r9 => (g_fr r9 7 x0 3).bind fun v10 => (g_fi r9 6 v10 1).bind fun v11 => some (v11, r9)) else (BX7_write_18 r1.2)))
set_option maxHeartbeats 4000000 in
set_option maxRecDepth 100000 in
theorem tBX7_write_18 {p : Program} {l : Launch} {e : Env} {s : State} {m : MethodId} {args : Array Value} {below : List Frame} {meth : Method} {c : Code} {D : g_D} {out : Int32 × g_S} (C : g_C RX7 cX7_write 3 (some .int) True p s m args meth c) (hK : g_K D s)  : ∀ (σ : g_S)  (H : Heap) (locs : List Loc) (ls : Array Slot), g_H D σ H → va_S (g_A D) s.heap H locs → lv_has ls 3 [] → BX7_write_18  σ  = some out → W p l e rmX7_write s m args below meth c H locs 0 0 (MQ below (g_Q D out.2 (some (.int out.1))) args s 0 0 (g_A D)) (F0 m 18 ls []) := by
  obtain ⟨hx, hb, hml, hown, hts, hr, hlocks, hin⟩ := id C
  intro σ  H locs ls hG hS hl hf
  unfold BX7_write_18 at hf
  refine lv_iconst (v := (-1)) hx hb dX7_write_18 (by decide +kernel) ?_
  cases hf
  exact g_iret hx hb hr hlocks hG hS dX7_write_19

set_option maxHeartbeats 4000000 in
set_option maxRecDepth 100000 in
theorem tX7_write (l : Launch) (D : g_D) {σ : g_S} {x0 : Nat} {x1 : Int32} {x2 : Int32} {out : Int32 × g_S} (hf : fX7_write σ x0 x1 x2 = some out) : Met l yX7_write (Cond.code yX7_write cX7_write 3 (some .int) :: lw_g) rmX7_write (g_P D σ [.ref x0, .int x1, .int x2]) (g_Q D out.2 (some (.int out.1))) 0 0 (g_A D) := by
  refine Met.ofW (cc := cX7_write) (maxL := 3) (ret := (some .int)) (by decide +kernel) rfl ?_
  intro p e s m args below meth c s₁ B hml hv
  obtain ⟨rfl, hG, hK⟩ := hv
  have hts : ∀ w ∈ lw_g, w.before _ s = true := fun w h => atoms_spec (ws := (Cond.code yX7_write cX7_write 3 (some .int) :: lw_g)) B.pre w (List.mem_cons_of_mem _ h)
  have C : g_C RX7 cX7_write 3 (some .int) True p s m _ meth c := ⟨B.exec, B.bytes, hml, findClass_of_methodNamed B.named, hts, B.returns, B.notSynchronized, trivial⟩
  obtain ⟨hx, hb, hml, hown, hts, hr, hlocks, hin⟩ := id C
  have hS : va_S (g_A D) s.heap s.heap [] := va_S.rf
  have hl := lv_entry ([.ref x0, .int x1, .int x2]) (n := 3) (Nat.le_of_ble_eq_true rfl)
  rw [lg_entry_eq]
  generalize (lg_sl ([.ref x0, .int x1, .int x2]) ++ List.replicate (3 - (lg_sl ([.ref x0, .int x1, .int x2])).length) Slot.unset).toArray = ls at hl ⊢
  have hl : lv_has ls 3 [(0, .ref x0), (1, .int x1), (2, .int x2)] := hl
  unfold fX7_write at hf
  refine lv_iload_n hx hb dX7_write_0 rfl (lv_at hl 1 rfl) ?_
  obtain ⟨r1, hr1, hf⟩ := g_bind hf
  refine g_callS hx hb hml hl.1 hts hown hK hG hS (As := [.int x1]) (rest := []) (tX7_isPlace l D hr1) vX7_isPlace mlX7_54 rfl rfl ⟨Nat.le_of_ble_eq_true rfl, Nat.le_of_ble_eq_true rfl⟩ rfl rfl (Nat.le_of_ble_eq_true rfl) ⟨Nat.le_of_ble_eq_true rfl, Nat.le_of_ble_eq_true rfl⟩ dX7_write_1 (fun H locs hG hS => ?_)
  refine lv_if_eq (tgt := 18) hx hb dX7_write_4 (by decide) (fun c2 => ?_) (fun c2 => ?_)
  · rw [if_pos c2] at hf
    exact tBX7_write_18 C hK   _  _ _ _ hG hS (lv_sub hl [] rfl) hf
  · rw [if_neg c2] at hf
    refine lv_iload_n hx hb dX7_write_7 rfl (lv_at hl 2 rfl) ?_
    refine lv_iconst (v := 2) hx hb dX7_write_8 (by decide +kernel) ?_
    refine lv_icmp_lt (tgt := 18) hx hb dX7_write_9 (by decide) (fun c3 => ?_) (fun c3 => ?_)
    · rw [if_pos c3] at hf
      exact tBX7_write_18 C hK   _  _ _ _ hG hS (lv_sub hl [] rfl) hf
    · rw [if_neg c3] at hf
      refine lv_iload_n hx hb dX7_write_12 rfl (lv_at hl 2 rfl) ?_
      refine lv_bipush (v := 36) hx hb dX7_write_13 (by decide +kernel) ?_
      refine lv_icmp_le (tgt := 20) hx hb dX7_write_15 (by decide) (fun c4 => ?_) (fun c4 => ?_)
      · rw [if_pos c4] at hf
        refine lv_aload_n hx hb dX7_write_20 rfl (lv_at hl 0 rfl) ?_
        obtain ⟨v5, hv5, hf⟩ := g_bind hf
        refine g_getr hx hb hts hown hK hG hv5 rfl iX7 (by decide) flX7_32 dX7_write_21 ?_
        refine lv_aload_n hx hb dX7_write_24 rfl (lv_at hl 0 rfl) ?_
        obtain ⟨v6, hv6, hf⟩ := g_bind hf
        refine g_getr hx hb hts hown hK hG hv6 rfl iX7 (by decide) flX7_11 dX7_write_25 ?_
        refine lv_iload_n hx hb dX7_write_28 rfl (lv_at hl 1 rfl) ?_
        obtain ⟨v7, hv7, hf⟩ := g_bind hf
        refine g_qald hx hb hK hG hv7 rfl dX7_write_29 ?_
        refine lv_iload_n hx hb dX7_write_30 rfl (lv_at hl 2 rfl) ?_
        obtain ⟨o8, ho8, hf⟩ := g_bind hf
        obtain ⟨r9, hr9, hf⟩ := g_bind hf
        refine g_callV hx hb hml hl.1 hts hown hK hG hS (As := [.ref v7, .int x2]) (rest := []) (tX6_become l D hr9) vX6_become mlX7_85 ho8 rfl rfl rfl rfl ⟨Nat.le_of_ble_eq_true rfl, Nat.le_of_ble_eq_true rfl⟩ rfl rfl (Nat.le_of_ble_eq_true rfl) ⟨Nat.le_of_ble_eq_true rfl, Nat.le_of_ble_eq_true rfl⟩ dX7_write_31 (fun H locs hG hS => ?_)
        refine lv_aload_n hx hb dX7_write_34 rfl (lv_at hl 0 rfl) ?_
        obtain ⟨v10, hv10, hf⟩ := g_bind hf
        refine g_getr hx hb hts hown hK hG hv10 rfl iX7 (by decide) flX7_32 dX7_write_35 ?_
        obtain ⟨v11, hv11, hf⟩ := g_bind hf
        refine g_geti hx hb hts hown hK hG hv11 rfl iX6 (by decide) flX7_88 dX7_write_38 ?_
        cases hf
        exact g_iret hx hb hr hlocks hG hS dX7_write_41
      · rw [if_neg c4] at hf
        exact tBX7_write_18 C hK   _  _ _ _ hG hS (lv_sub hl [] rfl) hf

def rmX7_bits : Room := { frames := 1, cells := 0, slots := 0, locals := 22 }
noncomputable def BX7_bits_23  (σ : g_S) (y0 : Int32) : Option (Int32 × g_S) := some (y0, σ)
noncomputable def fX7_bits (σ : g_S) (x0 : Nat) (x1 : Int32) : Option (Int32 × g_S) := (fX7_isPlace σ x1).bind fun r1 => if r1.1 = 0 then (BX7_bits_23 r1.2 (-1)) else ((g_fr r1.2 7 x0 0).bind fun v3 => (g_lq r1.2 4 v3 x1).bind fun v4 => (g_fr r1.2 2 v4 0).bind fun v5 => (g_o r1.2 3 v5).bind fun o6 => (fX3_bitLength r1.2 v5).bind fun r7 => BX7_bits_23 r7.2 r7.1)
set_option maxHeartbeats 4000000 in
set_option maxRecDepth 100000 in
theorem tBX7_bits_23 {p : Program} {l : Launch} {e : Env} {s : State} {m : MethodId} {args : Array Value} {below : List Frame} {meth : Method} {c : Code} {D : g_D} {out : Int32 × g_S} (C : g_C RX7 cX7_bits 2 (some .int) True p s m args meth c) (hK : g_K D s)  : ∀ (σ : g_S) (y0 : Int32) (H : Heap) (locs : List Loc) (ls : Array Slot), g_H D σ H → va_S (g_A D) s.heap H locs → lv_has ls 2 [] → BX7_bits_23  σ y0 = some out → W p l e rmX7_bits s m args below meth c H locs 0 0 (MQ below (g_Q D out.2 (some (.int out.1))) args s 0 0 (g_A D)) (F0 m 23 ls [.int y0]) := by
  obtain ⟨hx, hb, hml, hown, hts, hr, hlocks, hin⟩ := id C
  intro σ y0 H locs ls hG hS hl hf
  unfold BX7_bits_23 at hf
  cases hf
  exact g_iret hx hb hr hlocks hG hS dX7_bits_23

set_option maxHeartbeats 4000000 in
set_option maxRecDepth 100000 in
theorem tX7_bits (l : Launch) (D : g_D) {σ : g_S} {x0 : Nat} {x1 : Int32} {out : Int32 × g_S} (hf : fX7_bits σ x0 x1 = some out) : Met l yX7_bits (Cond.code yX7_bits cX7_bits 2 (some .int) :: lw_g) rmX7_bits (g_P D σ [.ref x0, .int x1]) (g_Q D out.2 (some (.int out.1))) 0 0 (g_A D) := by
  refine Met.ofW (cc := cX7_bits) (maxL := 2) (ret := (some .int)) (by decide +kernel) rfl ?_
  intro p e s m args below meth c s₁ B hml hv
  obtain ⟨rfl, hG, hK⟩ := hv
  have hts : ∀ w ∈ lw_g, w.before _ s = true := fun w h => atoms_spec (ws := (Cond.code yX7_bits cX7_bits 2 (some .int) :: lw_g)) B.pre w (List.mem_cons_of_mem _ h)
  have C : g_C RX7 cX7_bits 2 (some .int) True p s m _ meth c := ⟨B.exec, B.bytes, hml, findClass_of_methodNamed B.named, hts, B.returns, B.notSynchronized, trivial⟩
  obtain ⟨hx, hb, hml, hown, hts, hr, hlocks, hin⟩ := id C
  have hS : va_S (g_A D) s.heap s.heap [] := va_S.rf
  have hl := lv_entry ([.ref x0, .int x1]) (n := 2) (Nat.le_of_ble_eq_true rfl)
  rw [lg_entry_eq]
  generalize (lg_sl ([.ref x0, .int x1]) ++ List.replicate (2 - (lg_sl ([.ref x0, .int x1])).length) Slot.unset).toArray = ls at hl ⊢
  have hl : lv_has ls 2 [(0, .ref x0), (1, .int x1)] := hl
  unfold fX7_bits at hf
  refine lv_iload_n hx hb dX7_bits_0 rfl (lv_at hl 1 rfl) ?_
  obtain ⟨r1, hr1, hf⟩ := g_bind hf
  refine g_callS hx hb hml hl.1 hts hown hK hG hS (As := [.int x1]) (rest := []) (tX7_isPlace l D hr1) vX7_isPlace mlX7_54 rfl rfl ⟨Nat.le_of_ble_eq_true rfl, Nat.le_of_ble_eq_true rfl⟩ rfl rfl (Nat.le_of_ble_eq_true rfl) ⟨Nat.le_of_ble_eq_true rfl, Nat.le_of_ble_eq_true rfl⟩ dX7_bits_1 (fun H locs hG hS => ?_)
  refine lv_if_eq (tgt := 22) hx hb dX7_bits_4 (by decide) (fun c2 => ?_) (fun c2 => ?_)
  · rw [if_pos c2] at hf
    refine lv_iconst (v := (-1)) hx hb dX7_bits_22 (by decide +kernel) ?_
    exact tBX7_bits_23 C hK   _ _ _ _ _ hG hS (lv_sub hl [] rfl) hf
  · rw [if_neg c2] at hf
    refine lv_aload_n hx hb dX7_bits_7 rfl (lv_at hl 0 rfl) ?_
    obtain ⟨v3, hv3, hf⟩ := g_bind hf
    refine g_getr hx hb hts hown hK hG hv3 rfl iX7 (by decide) flX7_11 dX7_bits_8 ?_
    refine lv_iload_n hx hb dX7_bits_11 rfl (lv_at hl 1 rfl) ?_
    obtain ⟨v4, hv4, hf⟩ := g_bind hf
    refine g_qald hx hb hK hG hv4 rfl dX7_bits_12 ?_
    obtain ⟨v5, hv5, hf⟩ := g_bind hf
    refine g_getr hx hb hts hown hK hG hv5 rfl iX2 (by decide) flX7_100 dX7_bits_13 ?_
    obtain ⟨o6, ho6, hf⟩ := g_bind hf
    obtain ⟨r7, hr7, hf⟩ := g_bind hf
    refine g_callV hx hb hml hl.1 hts hown hK hG hS (As := []) (rest := []) (tX3_bitLength l D hr7) vX3_bitLength mlX7_104 ho6 rfl rfl rfl rfl ⟨Nat.le_of_ble_eq_true rfl, Nat.le_of_ble_eq_true rfl⟩ rfl rfl (Nat.le_of_ble_eq_true rfl) ⟨Nat.le_of_ble_eq_true rfl, Nat.le_of_ble_eq_true rfl⟩ dX7_bits_16 (fun H locs hG hS => ?_)
    refine lv_goto (tgt := 23) hx hb dX7_bits_19 (by decide) ?_
    exact tBX7_bits_23 C hK   _ _ _ _ _ hG hS (lv_sub hl [] rfl) hf

def rmX7_isInteger : Room := { frames := 2, cells := 0, slots := 0, locals := 40 }
noncomputable def BX7_isInteger_24  (σ : g_S) (y0 : Int32) : Option (Int32 × g_S) := g_if (y0 = 0 ∨ y0 = 1) <| some (y0, σ)
noncomputable def BX7_isInteger_23  (σ : g_S)  : Option (Int32 × g_S) := BX7_isInteger_24 σ 0
noncomputable def fX7_isInteger (σ : g_S) (x0 : Nat) (x1 : Int32) : Option (Int32 × g_S) := (fX7_isPlace σ x1).bind fun r1 => if r1.1 = 0 then (BX7_isInteger_23 r1.2) else ((g_fr r1.2 7 x0 0).bind fun v4 => (g_lq r1.2 4 v4 x1).bind fun v5 => (g_o r1.2 2 v5).bind fun o6 => (fX2_isWhole r1.2 v5).bind fun r7 => if r7.1 = 0 then (BX7_isInteger_23 r7.2) else (BX7_isInteger_24 r7.2 1))
set_option maxHeartbeats 4000000 in
set_option maxRecDepth 100000 in
theorem tBX7_isInteger_24 {p : Program} {l : Launch} {e : Env} {s : State} {m : MethodId} {args : Array Value} {below : List Frame} {meth : Method} {c : Code} {D : g_D} {out : Int32 × g_S} (C : g_C RX7 cX7_isInteger 2 (some .boolean) True p s m args meth c) (hK : g_K D s)  : ∀ (σ : g_S) (y0 : Int32) (H : Heap) (locs : List Loc) (ls : Array Slot), g_H D σ H → va_S (g_A D) s.heap H locs → lv_has ls 2 [] → BX7_isInteger_24  σ y0 = some out → W p l e rmX7_isInteger s m args below meth c H locs 0 0 (MQ below (g_Q D out.2 (some (.int out.1))) args s 0 0 (g_A D)) (F0 m 24 ls [.int y0]) := by
  obtain ⟨hx, hb, hml, hown, hts, hr, hlocks, hin⟩ := id C
  intro σ y0 H locs ls hG hS hl hf
  unfold BX7_isInteger_24 at hf
  obtain ⟨z3, hf⟩ := g_if_spec hf
  cases hf
  exact g_zret hx hb hr hlocks z3 hG hS dX7_isInteger_24

set_option maxHeartbeats 4000000 in
set_option maxRecDepth 100000 in
theorem tBX7_isInteger_23 {p : Program} {l : Launch} {e : Env} {s : State} {m : MethodId} {args : Array Value} {below : List Frame} {meth : Method} {c : Code} {D : g_D} {out : Int32 × g_S} (C : g_C RX7 cX7_isInteger 2 (some .boolean) True p s m args meth c) (hK : g_K D s)  : ∀ (σ : g_S)  (H : Heap) (locs : List Loc) (ls : Array Slot), g_H D σ H → va_S (g_A D) s.heap H locs → lv_has ls 2 [] → BX7_isInteger_23  σ  = some out → W p l e rmX7_isInteger s m args below meth c H locs 0 0 (MQ below (g_Q D out.2 (some (.int out.1))) args s 0 0 (g_A D)) (F0 m 23 ls []) := by
  obtain ⟨hx, hb, hml, hown, hts, hr, hlocks, hin⟩ := id C
  intro σ  H locs ls hG hS hl hf
  unfold BX7_isInteger_23 at hf
  refine lv_iconst (v := 0) hx hb dX7_isInteger_23 (by decide +kernel) ?_
  exact tBX7_isInteger_24 C hK   _ _ _ _ _ hG hS (lv_sub hl [] rfl) hf

set_option maxHeartbeats 4000000 in
set_option maxRecDepth 100000 in
theorem tX7_isInteger (l : Launch) (D : g_D) {σ : g_S} {x0 : Nat} {x1 : Int32} {out : Int32 × g_S} (hf : fX7_isInteger σ x0 x1 = some out) : Met l yX7_isInteger (Cond.code yX7_isInteger cX7_isInteger 2 (some .boolean) :: lw_g) rmX7_isInteger (g_P D σ [.ref x0, .int x1]) (g_Q D out.2 (some (.int out.1))) 0 0 (g_A D) := by
  refine Met.ofW (cc := cX7_isInteger) (maxL := 2) (ret := (some .boolean)) (by decide +kernel) rfl ?_
  intro p e s m args below meth c s₁ B hml hv
  obtain ⟨rfl, hG, hK⟩ := hv
  have hts : ∀ w ∈ lw_g, w.before _ s = true := fun w h => atoms_spec (ws := (Cond.code yX7_isInteger cX7_isInteger 2 (some .boolean) :: lw_g)) B.pre w (List.mem_cons_of_mem _ h)
  have C : g_C RX7 cX7_isInteger 2 (some .boolean) True p s m _ meth c := ⟨B.exec, B.bytes, hml, findClass_of_methodNamed B.named, hts, B.returns, B.notSynchronized, trivial⟩
  obtain ⟨hx, hb, hml, hown, hts, hr, hlocks, hin⟩ := id C
  have hS : va_S (g_A D) s.heap s.heap [] := va_S.rf
  have hl := lv_entry ([.ref x0, .int x1]) (n := 2) (Nat.le_of_ble_eq_true rfl)
  rw [lg_entry_eq]
  generalize (lg_sl ([.ref x0, .int x1]) ++ List.replicate (2 - (lg_sl ([.ref x0, .int x1])).length) Slot.unset).toArray = ls at hl ⊢
  have hl : lv_has ls 2 [(0, .ref x0), (1, .int x1)] := hl
  unfold fX7_isInteger at hf
  refine lv_iload_n hx hb dX7_isInteger_0 rfl (lv_at hl 1 rfl) ?_
  obtain ⟨r1, hr1, hf⟩ := g_bind hf
  refine g_callS hx hb hml hl.1 hts hown hK hG hS (As := [.int x1]) (rest := []) (tX7_isPlace l D hr1) vX7_isPlace mlX7_54 rfl rfl ⟨Nat.le_of_ble_eq_true rfl, Nat.le_of_ble_eq_true rfl⟩ rfl rfl (Nat.le_of_ble_eq_true rfl) ⟨Nat.le_of_ble_eq_true rfl, Nat.le_of_ble_eq_true rfl⟩ dX7_isInteger_1 (fun H locs hG hS => ?_)
  refine lv_if_eq (tgt := 23) hx hb dX7_isInteger_4 (by decide) (fun c2 => ?_) (fun c2 => ?_)
  · rw [if_pos c2] at hf
    exact tBX7_isInteger_23 C hK   _  _ _ _ hG hS (lv_sub hl [] rfl) hf
  · rw [if_neg c2] at hf
    refine lv_aload_n hx hb dX7_isInteger_7 rfl (lv_at hl 0 rfl) ?_
    obtain ⟨v4, hv4, hf⟩ := g_bind hf
    refine g_getr hx hb hts hown hK hG hv4 rfl iX7 (by decide) flX7_11 dX7_isInteger_8 ?_
    refine lv_iload_n hx hb dX7_isInteger_11 rfl (lv_at hl 1 rfl) ?_
    obtain ⟨v5, hv5, hf⟩ := g_bind hf
    refine g_qald hx hb hK hG hv5 rfl dX7_isInteger_12 ?_
    obtain ⟨o6, ho6, hf⟩ := g_bind hf
    obtain ⟨r7, hr7, hf⟩ := g_bind hf
    refine g_callV hx hb hml hl.1 hts hown hK hG hS (As := []) (rest := []) (tX2_isWhole l D hr7) vX2_isWhole mlX7_110 ho6 rfl rfl rfl rfl ⟨Nat.le_of_ble_eq_true rfl, Nat.le_of_ble_eq_true rfl⟩ rfl rfl (Nat.le_of_ble_eq_true rfl) ⟨Nat.le_of_ble_eq_true rfl, Nat.le_of_ble_eq_true rfl⟩ dX7_isInteger_13 (fun H locs hG hS => ?_)
    refine lv_if_eq (tgt := 23) hx hb dX7_isInteger_16 (by decide) (fun c8 => ?_) (fun c8 => ?_)
    · rw [if_pos c8] at hf
      exact tBX7_isInteger_23 C hK   _  _ _ _ hG hS (lv_sub hl [] rfl) hf
    · rw [if_neg c8] at hf
      refine lv_iconst (v := 1) hx hb dX7_isInteger_19 (by decide +kernel) ?_
      refine lv_goto (tgt := 24) hx hb dX7_isInteger_20 (by decide) ?_
      exact tBX7_isInteger_24 C hK   _ _ _ _ _ hG hS (lv_sub hl [] rfl) hf

