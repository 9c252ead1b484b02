def rmX2_init : Room := { frames := 2, cells := 4, slots := 276, locals := 43 }
noncomputable def fX2_init (σ : g_S) (x0 : Nat) (x1 : Int32) : Option (g_S) := g_let σ.2 fun a2 => g_let (g_mk σ (.inr (3, [.null, .int 0]))) fun σ1 => (fX3_init σ1 a2 x1).bind fun r3 => (g_p r3 2 x0 0 (.ref a2)).bind fun σ4 => g_let σ4.2 fun a6 => g_let (g_mk σ4 (.inr (3, [.null, .int 0]))) fun σ5 => (fX3_init σ5 a6 x1).bind fun r7 => (g_p r7 2 x0 1 (.ref a6)).bind fun σ8 => (g_fr σ8 2 x0 1).bind fun v9 => (g_o σ8 3 v9).bind fun o10 => (fX3_becomeUnsigned σ8 v9 1).bind fun r11 => some r11
set_option maxHeartbeats 4000000 in
set_option maxRecDepth 100000 in
theorem tX2_init (l : Launch) (D : g_D) {σ : g_S} {x0 : Nat} {x1 : Int32} {out : g_S} (hf : fX2_init σ x0 x1 = some out) : Met l yX2_init (Cond.code yX2_init cX2_init 2 none :: lw_g) rmX2_init (g_P D σ [.ref x0, .int x1]) (g_Q D out (none)) 4 276 (g_A D) := by
  refine Met.ofW (cc := cX2_init) (maxL := 2) (ret := none) (by decide +kernel) rfl ?_
  intro p e s m args below meth c s₁ B hml hv
  obtain ⟨rfl, hG, hK⟩ := hv
  have hts : ∀ w ∈ lw_g, w.before _ s = true := fun w h => atoms_spec (ws := (Cond.code yX2_init cX2_init 2 none :: lw_g)) B.pre w (List.mem_cons_of_mem _ h)
  have C : g_C RX2 cX2_init 2 none (meth.name = "<init>") p s m _ meth c := ⟨B.exec, B.bytes, hml, findClass_of_methodNamed B.named, hts, B.returns, B.notSynchronized, (name_of_methodNamed B.named B.method).1⟩
  obtain ⟨hx, hb, hml, hown, hts, hr, hlocks, hin⟩ := id C
  have hS : va_S (g_A D) s.heap s.heap [] := va_S.rf
  have hl := lv_entry ([.ref x0, .int x1]) (n := 2) (Nat.le_of_ble_eq_true rfl)
  rw [lg_entry_eq]
  generalize (lg_sl ([.ref x0, .int x1]) ++ List.replicate (2 - (lg_sl ([.ref x0, .int x1])).length) Slot.unset).toArray = ls at hl ⊢
  have hl : lv_has ls 2 [(0, .ref x0), (1, .int x1)] := hl
  unfold fX2_init at hf
  refine lv_aload_n hx hb dX2_init_0 rfl (lv_at hl 0 rfl) ?_
  refine W.objInit hx hb hown (hts _ oi_lX2) (hts _ oi_i) (hts _ oi_c) rfl (by rw [hml]; exact hl.1) rfl dX2_init_1 (Nat.le_of_ble_eq_true rfl) (Nat.le_of_ble_eq_true rfl) ?_
  refine W.eq (g2 := F0 m 4 ls []) rfl ?_
  refine lv_aload_n hx hb dX2_init_4 rfl (lv_at hl 0 rfl) ?_
  obtain ⟨a2, ea2, hf⟩ := g_let_spec hf
  obtain ⟨σ1, eσ1, hf⟩ := g_let_spec hf
  refine g_new (fs := [.null, .int 0]) hx hb hts hown hK hG hS (ci := 3) rfl iX3 tyX3 tyX3_ok clX2_7 inX3 itX3 (fun j hj => by rcases (show j = 0 ∨ j = 1 by omega) with rfl | rfl <;> rfl) (Nat.le_of_ble_eq_true rfl) (Nat.le_of_ble_eq_true rfl) dX2_init_5 (fun H hG hS => ?_)
  rw [eσ1] at hG
  rw [ea2]
  refine W.cs (cells' := 1) (slots' := 2) rfl rfl ?_
  refine lv_dup hx hb dX2_init_8 rfl ?_
  refine lv_iload_n hx hb dX2_init_9 rfl (lv_at hl 1 rfl) ?_
  obtain ⟨r3, hr3, hf⟩ := g_bind hf
  refine g_callI hx hb hml hl.1 hts hown hK hG hS (As := [.int x1]) (rest := [.ref a2, .ref x0]) (tX3_init l D hr3) vX3_init mlX2_9 rfl rfl ⟨Nat.le_of_ble_eq_true rfl, Nat.le_of_ble_eq_true rfl⟩ rfl rfl (Nat.le_of_ble_eq_true rfl) ⟨Nat.le_of_ble_eq_true rfl, Nat.le_of_ble_eq_true rfl⟩ dX2_init_10 (fun H locs hG hS => ?_)
  refine W.cs (cells' := 2) (slots' := 138) rfl rfl ?_
  obtain ⟨σ4, hσ4, hf⟩ := g_bind hf
  refine g_putF hx hb hts hown hin hK hG hS hσ4 rfl iX2 tyX2 tyX2_ok nmX2 (by decide) flX2_12 rfl rfl rfl rfl dX2_init_13 (fun H locs hG hS => ?_)
  refine lv_aload_n hx hb dX2_init_16 rfl (lv_at hl 0 rfl) ?_
  obtain ⟨a6, ea6, hf⟩ := g_let_spec hf
  obtain ⟨σ5, eσ5, hf⟩ := g_let_spec hf
  refine g_new (fs := [.null, .int 0]) hx hb hts hown hK hG hS (ci := 3) rfl iX3 tyX3 tyX3_ok clX2_7 inX3 itX3 (fun j hj => by rcases (show j = 0 ∨ j = 1 by omega) with rfl | rfl <;> rfl) (Nat.le_of_ble_eq_true rfl) (Nat.le_of_ble_eq_true rfl) dX2_init_17 (fun H hG hS => ?_)
  rw [eσ5] at hG
  rw [ea6]
  refine W.cs (cells' := 3) (slots' := 140) rfl rfl ?_
  refine lv_dup hx hb dX2_init_20 rfl ?_
  refine lv_iload_n hx hb dX2_init_21 rfl (lv_at hl 1 rfl) ?_
  obtain ⟨r7, hr7, hf⟩ := g_bind hf
  refine g_callI hx hb hml hl.1 hts hown hK hG hS (As := [.int x1]) (rest := [.ref a6, .ref x0]) (tX3_init l D hr7) vX3_init mlX2_9 rfl rfl ⟨Nat.le_of_ble_eq_true rfl, Nat.le_of_ble_eq_true rfl⟩ rfl rfl (Nat.le_of_ble_eq_true rfl) ⟨Nat.le_of_ble_eq_true rfl, Nat.le_of_ble_eq_true rfl⟩ dX2_init_22 (fun H locs hG hS => ?_)
  refine W.cs (cells' := 4) (slots' := 276) rfl rfl ?_
  obtain ⟨σ8, hσ8, hf⟩ := g_bind hf
  refine g_putF hx hb hts hown hin hK hG hS hσ8 rfl iX2 tyX2 tyX2_ok nmX2 (by decide) flX2_18 rfl rfl rfl rfl dX2_init_25 (fun H locs hG hS => ?_)
  refine lv_aload_n hx hb dX2_init_28 rfl (lv_at hl 0 rfl) ?_
  obtain ⟨v9, hv9, hf⟩ := g_bind hf
  refine g_getr hx hb hts hown hK hG hv9 rfl iX2 (by decide) flX2_18 dX2_init_29 ?_
  refine lv_lconst (v := 1) hx hb dX2_init_32 (by decide +kernel) ?_
  obtain ⟨o10, ho10, hf⟩ := g_bind hf
  obtain ⟨r11, hr11, hf⟩ := g_bind hf
  refine g_callV hx hb hml hl.1 hts hown hK hG hS (As := [.long 1]) (rest := []) (tX3_becomeUnsigned l D hr11) vX3_becomeUnsigned mlX2_21 ho10 rfl rfl rfl rfl ⟨Nat.le_of_ble_eq_true rfl, Nat.le_of_ble_eq_true rfl⟩ rfl rfl (Nat.le_of_ble_eq_true rfl) ⟨Nat.le_of_ble_eq_true rfl, Nat.le_of_ble_eq_true rfl⟩ dX2_init_33 (fun H locs hG hS => ?_)
  cases hf
  exact g_vret hx hb hr hlocks hG hS dX2_init_36

def rmX2_isWhole : Room := { frames := 1, cells := 0, slots := 0, locals := 20 }
noncomputable def fX2_isWhole (σ : g_S) (x0 : Nat) : Option (Int32 × g_S) := (g_fr σ 2 x0 1).bind fun v1 => (g_o σ 3 v1).bind fun o2 => (fX3_isOne σ v1).bind fun r3 => g_if (r3.1 = 0 ∨ r3.1 = 1) <| some (r3.1, r3.2)
set_option maxHeartbeats 4000000 in
set_option maxRecDepth 100000 in
theorem tX2_isWhole (l : Launch) (D : g_D) {σ : g_S} {x0 : Nat} {out : Int32 × g_S} (hf : fX2_isWhole σ x0 = some out) : Met l yX2_isWhole (Cond.code yX2_isWhole cX2_isWhole 1 (some .boolean) :: lw_g) rmX2_isWhole (g_P D σ [.ref x0]) (g_Q D out.2 (some (.int out.1))) 0 0 (g_A D) := by
  refine Met.ofW (cc := cX2_isWhole) (maxL := 1) (ret := (some .boolean)) (by decide +kernel) rfl ?_
  intro p e s m args below meth c s₁ B hml hv
  obtain ⟨rfl, hG, hK⟩ := hv
  have hts : ∀ w ∈ lw_g, w.before _ s = true := fun w h => atoms_spec (ws := (Cond.code yX2_isWhole cX2_isWhole 1 (some .boolean) :: lw_g)) B.pre w (List.mem_cons_of_mem _ h)
  have C : g_C RX2 cX2_isWhole 1 (some .boolean) True p s m _ meth c := ⟨B.exec, B.bytes, hml, findClass_of_methodNamed B.named, hts, B.returns, B.notSynchronized, trivial⟩
  obtain ⟨hx, hb, hml, hown, hts, hr, hlocks, hin⟩ := id C
  have hS : va_S (g_A D) s.heap s.heap [] := va_S.rf
  have hl := lv_entry ([.ref x0]) (n := 1) (Nat.le_of_ble_eq_true rfl)
  rw [lg_entry_eq]
  generalize (lg_sl ([.ref x0]) ++ List.replicate (1 - (lg_sl ([.ref x0])).length) Slot.unset).toArray = ls at hl ⊢
  have hl : lv_has ls 1 [(0, .ref x0)] := hl
  unfold fX2_isWhole at hf
  refine lv_aload_n hx hb dX2_isWhole_0 rfl (lv_at hl 0 rfl) ?_
  obtain ⟨v1, hv1, hf⟩ := g_bind hf
  refine g_getr hx hb hts hown hK hG hv1 rfl iX2 (by decide) flX2_18 dX2_isWhole_1 ?_
  obtain ⟨o2, ho2, hf⟩ := g_bind hf
  obtain ⟨r3, hr3, hf⟩ := g_bind hf
  refine g_callV hx hb hml hl.1 hts hown hK hG hS (As := []) (rest := []) (tX3_isOne l D hr3) vX3_isOne mlX2_25 ho2 rfl rfl rfl rfl ⟨Nat.le_of_ble_eq_true rfl, Nat.le_of_ble_eq_true rfl⟩ rfl rfl (Nat.le_of_ble_eq_true rfl) ⟨Nat.le_of_ble_eq_true rfl, Nat.le_of_ble_eq_true rfl⟩ dX2_isWhole_4 (fun H locs hG hS => ?_)
  obtain ⟨z4, hf⟩ := g_if_spec hf
  cases hf
  exact g_zret hx hb hr hlocks z4 hG hS dX2_isWhole_7

def rmX2_fits : Room := { frames := 2, cells := 0, slots := 0, locals := 42 }
noncomputable def BX2_fits_25  (σ : g_S) (y0 : Int32) : Option (Int32 × g_S) := g_if (y0 = 0 ∨ y0 = 1) <| some (y0, σ)
noncomputable def BX2_fits_24  (σ : g_S)  : Option (Int32 × g_S) := BX2_fits_25 σ 0
noncomputable def fX2_fits (σ : g_S) (x0 : Nat) : Option (Int32 × g_S) := (g_fr σ 2 x0 0).bind fun v1 => (g_o σ 3 v1).bind fun o2 => (fX3_fits σ v1).bind fun r3 => if r3.1 = 0 then (BX2_fits_24 r3.2) else ((g_fr r3.2 2 x0 1).bind fun v6 => (g_o r3.2 3 v6).bind fun o7 => (fX3_fits r3.2 v6).bind fun r8 => if r8.1 = 0 then (BX2_fits_24 r8.2) else (BX2_fits_25 r8.2 1))
set_option maxHeartbeats 4000000 in
set_option maxRecDepth 100000 in
theorem tBX2_fits_25 {p : Program} {l : Launch} {e : Env} {s : State} {m : MethodId} {args : Array Value} {below : List Frame} {meth : Method} {c : Code} {D : g_D} {out : Int32 × g_S} (C : g_C RX2 cX2_fits 1 (some .boolean) True p s m args meth c) (hK : g_K D s)  : ∀ (σ : g_S) (y0 : Int32) (H : Heap) (locs : List Loc) (ls : Array Slot), g_H D σ H → va_S (g_A D) s.heap H locs → lv_has ls 1 [] → BX2_fits_25  σ y0 = some out → W p l e rmX2_fits s m args below meth c H locs 0 0 (MQ below (g_Q D out.2 (some (.int out.1))) args s 0 0 (g_A D)) (F0 m 25 ls [.int y0]) := by
  obtain ⟨hx, hb, hml, hown, hts, hr, hlocks, hin⟩ := id C
  intro σ y0 H locs ls hG hS hl hf
  unfold BX2_fits_25 at hf
  obtain ⟨z5, hf⟩ := g_if_spec hf
  cases hf
  exact g_zret hx hb hr hlocks z5 hG hS dX2_fits_25

set_option maxHeartbeats 4000000 in
set_option maxRecDepth 100000 in
theorem tBX2_fits_24 {p : Program} {l : Launch} {e : Env} {s : State} {m : MethodId} {args : Array Value} {below : List Frame} {meth : Method} {c : Code} {D : g_D} {out : Int32 × g_S} (C : g_C RX2 cX2_fits 1 (some .boolean) True p s m args meth c) (hK : g_K D s)  : ∀ (σ : g_S)  (H : Heap) (locs : List Loc) (ls : Array Slot), g_H D σ H → va_S (g_A D) s.heap H locs → lv_has ls 1 [] → BX2_fits_24  σ  = some out → W p l e rmX2_fits s m args below meth c H locs 0 0 (MQ below (g_Q D out.2 (some (.int out.1))) args s 0 0 (g_A D)) (F0 m 24 ls []) := by
  obtain ⟨hx, hb, hml, hown, hts, hr, hlocks, hin⟩ := id C
  intro σ  H locs ls hG hS hl hf
  unfold BX2_fits_24 at hf
  refine lv_iconst (v := 0) hx hb dX2_fits_24 (by decide +kernel) ?_
  exact tBX2_fits_25 C hK   _ _ _ _ _ hG hS (lv_sub hl [] rfl) hf

set_option maxHeartbeats 4000000 in
set_option maxRecDepth 100000 in
theorem tX2_fits (l : Launch) (D : g_D) {σ : g_S} {x0 : Nat} {out : Int32 × g_S} (hf : fX2_fits σ x0 = some out) : Met l yX2_fits (Cond.code yX2_fits cX2_fits 1 (some .boolean) :: lw_g) rmX2_fits (g_P D σ [.ref x0]) (g_Q D out.2 (some (.int out.1))) 0 0 (g_A D) := by
  refine Met.ofW (cc := cX2_fits) (maxL := 1) (ret := (some .boolean)) (by decide +kernel) rfl ?_
  intro p e s m args below meth c s₁ B hml hv
  obtain ⟨rfl, hG, hK⟩ := hv
  have hts : ∀ w ∈ lw_g, w.before _ s = true := fun w h => atoms_spec (ws := (Cond.code yX2_fits cX2_fits 1 (some .boolean) :: lw_g)) B.pre w (List.mem_cons_of_mem _ h)
  have C : g_C RX2 cX2_fits 1 (some .boolean) True p s m _ meth c := ⟨B.exec, B.bytes, hml, findClass_of_methodNamed B.named, hts, B.returns, B.notSynchronized, trivial⟩
  obtain ⟨hx, hb, hml, hown, hts, hr, hlocks, hin⟩ := id C
  have hS : va_S (g_A D) s.heap s.heap [] := va_S.rf
  have hl := lv_entry ([.ref x0]) (n := 1) (Nat.le_of_ble_eq_true rfl)
  rw [lg_entry_eq]
  generalize (lg_sl ([.ref x0]) ++ List.replicate (1 - (lg_sl ([.ref x0])).length) Slot.unset).toArray = ls at hl ⊢
  have hl : lv_has ls 1 [(0, .ref x0)] := hl
  unfold fX2_fits at hf
  refine lv_aload_n hx hb dX2_fits_0 rfl (lv_at hl 0 rfl) ?_
  obtain ⟨v1, hv1, hf⟩ := g_bind hf
  refine g_getr hx hb hts hown hK hG hv1 rfl iX2 (by decide) flX2_12 dX2_fits_1 ?_
  obtain ⟨o2, ho2, hf⟩ := g_bind hf
  obtain ⟨r3, hr3, hf⟩ := g_bind hf
  refine g_callV hx hb hml hl.1 hts hown hK hG hS (As := []) (rest := []) (tX3_fits l D hr3) vX3_fits mlX2_29 ho2 rfl rfl rfl rfl ⟨Nat.le_of_ble_eq_true rfl, Nat.le_of_ble_eq_true rfl⟩ rfl rfl (Nat.le_of_ble_eq_true rfl) ⟨Nat.le_of_ble_eq_true rfl, Nat.le_of_ble_eq_true rfl⟩ dX2_fits_4 (fun H locs hG hS => ?_)
  refine lv_if_eq (tgt := 24) hx hb dX2_fits_7 (by decide) (fun c4 => ?_) (fun c4 => ?_)
  · rw [if_pos c4] at hf
    exact tBX2_fits_24 C hK   _  _ _ _ hG hS (lv_sub hl [] rfl) hf
  · rw [if_neg c4] at hf
    refine lv_aload_n hx hb dX2_fits_10 rfl (lv_at hl 0 rfl) ?_
    obtain ⟨v6, hv6, hf⟩ := g_bind hf
    refine g_getr hx hb hts hown hK hG hv6 rfl iX2 (by decide) flX2_18 dX2_fits_11 ?_
    obtain ⟨o7, ho7, hf⟩ := g_bind hf
    obtain ⟨r8, hr8, hf⟩ := g_bind hf
    refine g_callV hx hb hml hl.1 hts hown hK hG hS (As := []) (rest := []) (tX3_fits l D hr8) vX3_fits mlX2_29 ho7 rfl rfl rfl rfl ⟨Nat.le_of_ble_eq_true rfl, Nat.le_of_ble_eq_true rfl⟩ rfl rfl (Nat.le_of_ble_eq_true rfl) ⟨Nat.le_of_ble_eq_true rfl, Nat.le_of_ble_eq_true rfl⟩ dX2_fits_14 (fun H locs hG hS => ?_)
    refine lv_if_eq (tgt := 24) hx hb dX2_fits_17 (by decide) (fun c9 => ?_) (fun c9 => ?_)
    · rw [if_pos c9] at hf
      exact tBX2_fits_24 C hK   _  _ _ _ hG hS (lv_sub hl [] rfl) hf
    · rw [if_neg c9] at hf
      refine lv_iconst (v := 1) hx hb dX2_fits_20 (by decide +kernel) ?_
      refine lv_goto (tgt := 25) hx hb dX2_fits_21 (by decide) ?_
      exact tBX2_fits_25 C hK   _ _ _ _ _ hG hS (lv_sub hl [] rfl) hf

def rmX2_become : Room := { frames := 2, cells := 0, slots := 0, locals := 61 }
noncomputable def fX2_become (σ : g_S) (x0 : Nat) (x1 : Nat) : Option (g_S) := (g_fr σ 2 x0 0).bind fun v1 => (g_fr σ 2 x1 0).bind fun v2 => (g_o σ 3 v1).bind fun o3 => (fX3_become σ v1 v2).bind fun r4 => (g_fr r4 2 x0 1).bind fun v5 => (g_fr r4 2 x1 1).bind fun v6 => (g_o r4 3 v5).bind fun o7 => (fX3_become r4 v5 v6).bind fun r8 => (g_fi r8 2 x1 2).bind fun v9 => g_if (v9 = 0 ∨ v9 = 1) <| (g_p r8 2 x0 2 (.int v9)).bind fun σ11 => some σ11
set_option maxHeartbeats 4000000 in
set_option maxRecDepth 100000 in
theorem tX2_become (l : Launch) (D : g_D) {σ : g_S} {x0 : Nat} {x1 : Nat} {out : g_S} (hf : fX2_become σ x0 x1 = some out) : Met l yX2_become (Cond.code yX2_become cX2_become 2 none :: lw_g) rmX2_become (g_P D σ [.ref x0, .ref x1]) (g_Q D out (none)) 0 0 (g_A D) := by
  refine Met.ofW (cc := cX2_become) (maxL := 2) (ret := none) (by decide +kernel) rfl ?_
  intro p e s m args below meth c s₁ B hml hv
  obtain ⟨rfl, hG, hK⟩ := hv
  have hts : ∀ w ∈ lw_g, w.before _ s = true := fun w h => atoms_spec (ws := (Cond.code yX2_become cX2_become 2 none :: lw_g)) B.pre w (List.mem_cons_of_mem _ h)
  have C : g_C RX2 cX2_become 2 none True p s m _ meth c := ⟨B.exec, B.bytes, hml, findClass_of_methodNamed B.named, hts, B.returns, B.notSynchronized, trivial⟩
  obtain ⟨hx, hb, hml, hown, hts, hr, hlocks, hin⟩ := id C
  have hS : va_S (g_A D) s.heap s.heap [] := va_S.rf
  have hl := lv_entry ([.ref x0, .ref x1]) (n := 2) (Nat.le_of_ble_eq_true rfl)
  rw [lg_entry_eq]
  generalize (lg_sl ([.ref x0, .ref x1]) ++ List.replicate (2 - (lg_sl ([.ref x0, .ref x1])).length) Slot.unset).toArray = ls at hl ⊢
  have hl : lv_has ls 2 [(0, .ref x0), (1, .ref x1)] := hl
  unfold fX2_become at hf
  refine lv_aload_n hx hb dX2_become_0 rfl (lv_at hl 0 rfl) ?_
  obtain ⟨v1, hv1, hf⟩ := g_bind hf
  refine g_getr hx hb hts hown hK hG hv1 rfl iX2 (by decide) flX2_12 dX2_become_1 ?_
  refine lv_aload_n hx hb dX2_become_4 rfl (lv_at hl 1 rfl) ?_
  obtain ⟨v2, hv2, hf⟩ := g_bind hf
  refine g_getr hx hb hts hown hK hG hv2 rfl iX2 (by decide) flX2_12 dX2_become_5 ?_
  obtain ⟨o3, ho3, hf⟩ := g_bind hf
  obtain ⟨r4, hr4, hf⟩ := g_bind hf
  refine g_callV hx hb hml hl.1 hts hown hK hG hS (As := [.ref v2]) (rest := []) (tX3_become l D hr4) vX3_become mlX2_32 ho3 rfl rfl rfl rfl ⟨Nat.le_of_ble_eq_true rfl, Nat.le_of_ble_eq_true rfl⟩ rfl rfl (Nat.le_of_ble_eq_true rfl) ⟨Nat.le_of_ble_eq_true rfl, Nat.le_of_ble_eq_true rfl⟩ dX2_become_8 (fun H locs hG hS => ?_)
  refine lv_aload_n hx hb dX2_become_11 rfl (lv_at hl 0 rfl) ?_
  obtain ⟨v5, hv5, hf⟩ := g_bind hf
  refine g_getr hx hb hts hown hK hG hv5 rfl iX2 (by decide) flX2_18 dX2_become_12 ?_
  refine lv_aload_n hx hb dX2_become_15 rfl (lv_at hl 1 rfl) ?_
  obtain ⟨v6, hv6, hf⟩ := g_bind hf
  refine g_getr hx hb hts hown hK hG hv6 rfl iX2 (by decide) flX2_18 dX2_become_16 ?_
  obtain ⟨o7, ho7, hf⟩ := g_bind hf
  obtain ⟨r8, hr8, hf⟩ := g_bind hf
  refine g_callV hx hb hml hl.1 hts hown hK hG hS (As := [.ref v6]) (rest := []) (tX3_become l D hr8) vX3_become mlX2_32 ho7 rfl rfl rfl rfl ⟨Nat.le_of_ble_eq_true rfl, Nat.le_of_ble_eq_true rfl⟩ rfl rfl (Nat.le_of_ble_eq_true rfl) ⟨Nat.le_of_ble_eq_true rfl, Nat.le_of_ble_eq_true rfl⟩ dX2_become_19 (fun H locs hG hS => ?_)
  refine lv_aload_n hx hb dX2_become_22 rfl (lv_at hl 0 rfl) ?_
  refine lv_aload_n hx hb dX2_become_23 rfl (lv_at hl 1 rfl) ?_
  obtain ⟨v9, hv9, hf⟩ := g_bind hf
  refine g_geti hx hb hts hown hK hG hv9 rfl iX2 (by decide) flX2_36 dX2_become_24 ?_
  obtain ⟨z10, hf⟩ := g_if_spec hf
  obtain ⟨σ11, hσ11, hf⟩ := g_bind hf
  refine g_put hx hb hts hown hK hG hS hσ11 rfl iX2 tyX2 tyX2_ok nmX2 (by decide) flX2_36 rfl (g_nz z10).1 (g_nz z10).2 dX2_become_27 (fun H locs hG hS => ?_)
  cases hf
  exact g_vret hx hb hr hlocks hG hS dX2_become_30

def rmX2_becomeWhole : Room := { frames := 2, cells := 0, slots := 0, locals := 43 }
noncomputable def BX2_becomeWhole_39  (σ : g_S) (y0 : Nat) (y1 : Int32) : Option (g_S) := g_if (y1 = 0 ∨ y1 = 1) <| (g_p σ 2 y0 2 (.int y1)).bind fun σ10 => some σ10
noncomputable def BX2_becomeWhole_16  (σ : g_S) (x0 : Nat) (x1 : Int64) (y0 : Nat) (y1 : Int64) : Option (g_S) := (g_o σ 3 y0).bind fun o3 => (fX3_becomeUnsigned σ y0 y1).bind fun r4 => (g_fr r4 2 x0 1).bind fun v5 => (g_o r4 3 v5).bind fun o6 => (fX3_becomeUnsigned r4 v5 1).bind fun r7 => if 0 ≤ (lg_cmp x1 0) then (BX2_becomeWhole_39 r7 x0 0) else (BX2_becomeWhole_39 r7 x0 1)
noncomputable def fX2_becomeWhole (σ : g_S) (x0 : Nat) (x1 : Int64) : Option (g_S) := (g_fr σ 2 x0 0).bind fun v1 => if 0 ≤ (lg_cmp x1 0) then (BX2_becomeWhole_16 σ x0 x1 v1 x1) else (BX2_becomeWhole_16 σ x0 x1 v1 (-x1))
set_option maxHeartbeats 4000000 in
set_option maxRecDepth 100000 in
theorem tBX2_becomeWhole_39 {p : Program} {l : Launch} {e : Env} {s : State} {m : MethodId} {args : Array Value} {below : List Frame} {meth : Method} {c : Code} {D : g_D} {out : g_S} (C : g_C RX2 cX2_becomeWhole 3 none True p s m args meth c) (hK : g_K D s)  : ∀ (σ : g_S) (y0 : Nat) (y1 : Int32) (H : Heap) (locs : List Loc) (ls : Array Slot), g_H D σ H → va_S (g_A D) s.heap H locs → lv_has ls 3 [] → BX2_becomeWhole_39  σ y0 y1 = some out → W p l e rmX2_becomeWhole s m args below meth c H locs 0 0 (MQ below (g_Q D out (none)) args s 0 0 (g_A D)) (F0 m 39 ls [.int y1, .ref y0]) := by
  obtain ⟨hx, hb, hml, hown, hts, hr, hlocks, hin⟩ := id C
  intro σ y0 y1 H locs ls hG hS hl hf
  unfold BX2_becomeWhole_39 at hf
  obtain ⟨z9, hf⟩ := g_if_spec hf
  obtain ⟨σ10, hσ10, hf⟩ := g_bind hf
  refine g_put hx hb hts hown hK hG hS hσ10 rfl iX2 tyX2 tyX2_ok nmX2 (by decide) flX2_36 rfl (g_nz z9).1 (g_nz z9).2 dX2_becomeWhole_39 (fun H locs hG hS => ?_)
  cases hf
  exact g_vret hx hb hr hlocks hG hS dX2_becomeWhole_42

set_option maxHeartbeats 4000000 in
set_option maxRecDepth 100000 in
theorem tBX2_becomeWhole_16 {p : Program} {l : Launch} {e : Env} {s : State} {m : MethodId} {args : Array Value} {below : List Frame} {meth : Method} {c : Code} {D : g_D} {out : g_S} (C : g_C RX2 cX2_becomeWhole 3 none True p s m args meth c) (hK : g_K D s)  : ∀ (σ : g_S) (x0 : Nat) (x1 : Int64) (y0 : Nat) (y1 : Int64) (H : Heap) (locs : List Loc) (ls : Array Slot), g_H D σ H → va_S (g_A D) s.heap H locs → lv_has ls 3 [(0, .ref x0), (1, .long x1)] → BX2_becomeWhole_16  σ x0 x1 y0 y1 = some out → W p l e rmX2_becomeWhole s m args below meth c H locs 0 0 (MQ below (g_Q D out (none)) args s 0 0 (g_A D)) (F0 m 16 ls [.long y1, .ref y0]) := by
  obtain ⟨hx, hb, hml, hown, hts, hr, hlocks, hin⟩ := id C
  intro σ x0 x1 y0 y1 H locs ls hG hS hl hf
  unfold BX2_becomeWhole_16 at hf
  obtain ⟨o3, ho3, hf⟩ := g_bind hf
  obtain ⟨r4, hr4, hf⟩ := g_bind hf
  refine g_callV hx hb hml hl.1 hts hown hK hG hS (As := [.long y1]) (rest := []) (tX3_becomeUnsigned l D hr4) vX3_becomeUnsigned mlX2_21 ho3 rfl rfl rfl rfl ⟨Nat.le_of_ble_eq_true rfl, Nat.le_of_ble_eq_true rfl⟩ rfl rfl (Nat.le_of_ble_eq_true rfl) ⟨Nat.le_of_ble_eq_true rfl, Nat.le_of_ble_eq_true rfl⟩ dX2_becomeWhole_16 (fun H locs hG hS => ?_)
  refine lv_aload_n hx hb dX2_becomeWhole_19 rfl (lv_at hl 0 rfl) ?_
  obtain ⟨v5, hv5, hf⟩ := g_bind hf
  refine g_getr hx hb hts hown hK hG hv5 rfl iX2 (by decide) flX2_18 dX2_becomeWhole_20 ?_
  refine lv_lconst (v := 1) hx hb dX2_becomeWhole_23 (by decide +kernel) ?_
  obtain ⟨o6, ho6, hf⟩ := g_bind hf
  obtain ⟨r7, hr7, hf⟩ := g_bind hf
  refine g_callV hx hb hml hl.1 hts hown hK hG hS (As := [.long 1]) (rest := []) (tX3_becomeUnsigned l D hr7) vX3_becomeUnsigned mlX2_21 ho6 rfl rfl rfl rfl ⟨Nat.le_of_ble_eq_true rfl, Nat.le_of_ble_eq_true rfl⟩ rfl rfl (Nat.le_of_ble_eq_true rfl) ⟨Nat.le_of_ble_eq_true rfl, Nat.le_of_ble_eq_true rfl⟩ dX2_becomeWhole_24 (fun H locs hG hS => ?_)
  refine lv_aload_n hx hb dX2_becomeWhole_27 rfl (lv_at hl 0 rfl) ?_
  refine lv_lload_n hx hb dX2_becomeWhole_28 rfl (lv_at hl 1 rfl) ?_
  refine lv_lconst (v := 0) hx hb dX2_becomeWhole_29 (by decide +kernel) ?_
  refine W.lcmp hx hb dX2_becomeWhole_30 ?_
  refine lv_if_ge (tgt := 38) hx hb dX2_becomeWhole_31 (by decide) (fun c8 => ?_) (fun c8 => ?_)
  · rw [if_pos c8] at hf
    refine lv_iconst (v := 0) hx hb dX2_becomeWhole_38 (by decide +kernel) ?_
    exact tBX2_becomeWhole_39 C hK   _ _ _ _ _ _ hG hS (lv_sub hl [] rfl) hf
  · rw [if_neg c8] at hf
    refine lv_iconst (v := 1) hx hb dX2_becomeWhole_34 (by decide +kernel) ?_
    refine lv_goto (tgt := 39) hx hb dX2_becomeWhole_35 (by decide) ?_
    exact tBX2_becomeWhole_39 C hK   _ _ _ _ _ _ hG hS (lv_sub hl [] rfl) hf

set_option maxHeartbeats 4000000 in
set_option maxRecDepth 100000 in
theorem tX2_becomeWhole (l : Launch) (D : g_D) {σ : g_S} {x0 : Nat} {x1 : Int64} {out : g_S} (hf : fX2_becomeWhole σ x0 x1 = some out) : Met l yX2_becomeWhole (Cond.code yX2_becomeWhole cX2_becomeWhole 3 none :: lw_g) rmX2_becomeWhole (g_P D σ [.ref x0, .long x1]) (g_Q D out (none)) 0 0 (g_A D) := by
  refine Met.ofW (cc := cX2_becomeWhole) (maxL := 3) (ret := none) (by decide +kernel) rfl ?_
  intro p e s m args below meth c s₁ B hml hv
  obtain ⟨rfl, hG, hK⟩ := hv
  have hts : ∀ w ∈ lw_g, w.before _ s = true := fun w h => atoms_spec (ws := (Cond.code yX2_becomeWhole cX2_becomeWhole 3 none :: lw_g)) B.pre w (List.mem_cons_of_mem _ h)
  have C : g_C RX2 cX2_becomeWhole 3 none True p s m _ meth c := ⟨B.exec, B.bytes, hml, findClass_of_methodNamed B.named, hts, B.returns, B.notSynchronized, trivial⟩
  obtain ⟨hx, hb, hml, hown, hts, hr, hlocks, hin⟩ := id C
  have hS : va_S (g_A D) s.heap s.heap [] := va_S.rf
  have hl := lv_entry ([.ref x0, .long x1]) (n := 3) (Nat.le_of_ble_eq_true rfl)
  rw [lg_entry_eq]
  generalize (lg_sl ([.ref x0, .long x1]) ++ List.replicate (3 - (lg_sl ([.ref x0, .long x1])).length) Slot.unset).toArray = ls at hl ⊢
  have hl : lv_has ls 3 [(0, .ref x0), (1, .long x1)] := hl
  unfold fX2_becomeWhole at hf
  refine lv_aload_n hx hb dX2_becomeWhole_0 rfl (lv_at hl 0 rfl) ?_
  obtain ⟨v1, hv1, hf⟩ := g_bind hf
  refine g_getr hx hb hts hown hK hG hv1 rfl iX2 (by decide) flX2_12 dX2_becomeWhole_1 ?_
  refine lv_lload_n hx hb dX2_becomeWhole_4 rfl (lv_at hl 1 rfl) ?_
  refine lv_lconst (v := 0) hx hb dX2_becomeWhole_5 (by decide +kernel) ?_
  refine W.lcmp hx hb dX2_becomeWhole_6 ?_
  refine lv_if_ge (tgt := 15) hx hb dX2_becomeWhole_7 (by decide) (fun c2 => ?_) (fun c2 => ?_)
  · rw [if_pos c2] at hf
    refine lv_lload_n hx hb dX2_becomeWhole_15 rfl (lv_at hl 1 rfl) ?_
    exact tBX2_becomeWhole_16 C hK   _ _ _ _ _ _ _ _ hG hS (lv_sub hl [0, 1] rfl) hf
  · rw [if_neg c2] at hf
    refine lv_lload_n hx hb dX2_becomeWhole_10 rfl (lv_at hl 1 rfl) ?_
    refine lv_lneg hx hb dX2_becomeWhole_11 ?_
    refine lv_goto (tgt := 16) hx hb dX2_becomeWhole_12 (by decide) ?_
    exact tBX2_becomeWhole_16 C hK   _ _ _ _ _ _ _ _ hG hS (lv_sub hl [0, 1] rfl) hf

def rmX2_sign : Room := { frames := 1, cells := 0, slots := 0, locals := 20 }
noncomputable def BX2_sign_20  (σ : g_S) (y0 : Nat) (y1 : Int32) : Option (g_S) := g_if (y1 = 0 ∨ y1 = 1) <| (g_p σ 2 y0 2 (.int y1)).bind fun σ3 => some σ3
noncomputable def BX2_sign_19  (σ : g_S) (y0 : Nat) : Option (g_S) := BX2_sign_20 σ y0 0
noncomputable def fX2_sign (σ : g_S) (x0 : Nat) (x1 : Int32) : Option (g_S) := if x1 = 0 then (BX2_sign_19 σ x0) else ((g_fr σ 2 x0 0).bind fun v4 => (g_o σ 3 v4).bind fun o5 => (fX3_isZero σ v4).bind fun r6 => if r6.1 = 0 then (BX2_sign_20 r6.2 x0 1) else (BX2_sign_19 r6.2 x0))
set_option maxHeartbeats 4000000 in
set_option maxRecDepth 100000 in
theorem tBX2_sign_20 {p : Program} {l : Launch} {e : Env} {s : State} {m : MethodId} {args : Array Value} {below : List Frame} {meth : Method} {c : Code} {D : g_D} {out : g_S} (C : g_C RX2 cX2_sign 2 none True p s m args meth c) (hK : g_K D s)  : ∀ (σ : g_S) (y0 : Nat) (y1 : Int32) (H : Heap) (locs : List Loc) (ls : Array Slot), g_H D σ H → va_S (g_A D) s.heap H locs → lv_has ls 2 [] → BX2_sign_20  σ y0 y1 = some out → W p l e rmX2_sign s m args below meth c H locs 0 0 (MQ below (g_Q D out (none)) args s 0 0 (g_A D)) (F0 m 20 ls [.int y1, .ref y0]) := by
  obtain ⟨hx, hb, hml, hown, hts, hr, hlocks, hin⟩ := id C
  intro σ y0 y1 H locs ls hG hS hl hf
  unfold BX2_sign_20 at hf
  obtain ⟨z2, hf⟩ := g_if_spec hf
  obtain ⟨σ3, hσ3, hf⟩ := g_bind hf
  refine g_put hx hb hts hown hK hG hS hσ3 rfl iX2 tyX2 tyX2_ok nmX2 (by decide) flX2_36 rfl (g_nz z2).1 (g_nz z2).2 dX2_sign_20 (fun H locs hG hS => ?_)
  cases hf
  exact g_vret hx hb hr hlocks hG hS dX2_sign_23

set_option maxHeartbeats 4000000 in
set_option maxRecDepth 100000 in
theorem tBX2_sign_19 {p : Program} {l : Launch} {e : Env} {s : State} {m : MethodId} {args : Array Value} {below : List Frame} {meth : Method} {c : Code} {D : g_D} {out : g_S} (C : g_C RX2 cX2_sign 2 none True p s m args meth c) (hK : g_K D s)  : ∀ (σ : g_S) (y0 : Nat) (H : Heap) (locs : List Loc) (ls : Array Slot), g_H D σ H → va_S (g_A D) s.heap H locs → lv_has ls 2 [] → BX2_sign_19  σ y0 = some out → W p l e rmX2_sign s m args below meth c H locs 0 0 (MQ below (g_Q D out (none)) args s 0 0 (g_A D)) (F0 m 19 ls [.ref y0]) := by
  obtain ⟨hx, hb, hml, hown, hts, hr, hlocks, hin⟩ := id C
  intro σ y0 H locs ls hG hS hl hf
  unfold BX2_sign_19 at hf
  refine lv_iconst (v := 0) hx hb dX2_sign_19 (by decide +kernel) ?_
  exact tBX2_sign_20 C hK   _ _ _ _ _ _ hG hS (lv_sub hl [] rfl) hf

set_option maxHeartbeats 4000000 in
set_option maxRecDepth 100000 in
theorem tX2_sign (l : Launch) (D : g_D) {σ : g_S} {x0 : Nat} {x1 : Int32} {out : g_S} (hf : fX2_sign σ x0 x1 = some out) : Met l yX2_sign (Cond.code yX2_sign cX2_sign 2 none :: lw_g) rmX2_sign (g_P D σ [.ref x0, .int x1]) (g_Q D out (none)) 0 0 (g_A D) := by
  refine Met.ofW (cc := cX2_sign) (maxL := 2) (ret := none) (by decide +kernel) rfl ?_
  intro p e s m args below meth c s₁ B hml hv
  obtain ⟨rfl, hG, hK⟩ := hv
  have hts : ∀ w ∈ lw_g, w.before _ s = true := fun w h => atoms_spec (ws := (Cond.code yX2_sign cX2_sign 2 none :: lw_g)) B.pre w (List.mem_cons_of_mem _ h)
  have C : g_C RX2 cX2_sign 2 none True p s m _ meth c := ⟨B.exec, B.bytes, hml, findClass_of_methodNamed B.named, hts, B.returns, B.notSynchronized, trivial⟩
  obtain ⟨hx, hb, hml, hown, hts, hr, hlocks, hin⟩ := id C
  have hS : va_S (g_A D) s.heap s.heap [] := va_S.rf
  have hl := lv_entry ([.ref x0, .int x1]) (n := 2) (Nat.le_of_ble_eq_true rfl)
  rw [lg_entry_eq]
  generalize (lg_sl ([.ref x0, .int x1]) ++ List.replicate (2 - (lg_sl ([.ref x0, .int x1])).length) Slot.unset).toArray = ls at hl ⊢
  have hl : lv_has ls 2 [(0, .ref x0), (1, .int x1)] := hl
  unfold fX2_sign at hf
  refine lv_aload_n hx hb dX2_sign_0 rfl (lv_at hl 0 rfl) ?_
  refine lv_iload_n hx hb dX2_sign_1 rfl (lv_at hl 1 rfl) ?_
  refine lv_if_eq (tgt := 19) hx hb dX2_sign_2 (by decide) (fun c1 => ?_) (fun c1 => ?_)
  · rw [if_pos c1] at hf
    exact tBX2_sign_19 C hK   _ _ _ _ _ hG hS (lv_sub hl [] rfl) hf
  · rw [if_neg c1] at hf
    refine lv_aload_n hx hb dX2_sign_5 rfl (lv_at hl 0 rfl) ?_
    obtain ⟨v4, hv4, hf⟩ := g_bind hf
    refine g_getr hx hb hts hown hK hG hv4 rfl iX2 (by decide) flX2_12 dX2_sign_6 ?_
    obtain ⟨o5, ho5, hf⟩ := g_bind hf
    obtain ⟨r6, hr6, hf⟩ := g_bind hf
    refine g_callV hx hb hml hl.1 hts hown hK hG hS (As := []) (rest := [.ref x0]) (tX3_isZero l D hr6) vX3_isZero mlX2_44 ho5 rfl rfl rfl rfl ⟨Nat.le_of_ble_eq_true rfl, Nat.le_of_ble_eq_true rfl⟩ rfl rfl (Nat.le_of_ble_eq_true rfl) ⟨Nat.le_of_ble_eq_true rfl, Nat.le_of_ble_eq_true rfl⟩ dX2_sign_9 (fun H locs hG hS => ?_)
    refine lv_if_ne (tgt := 19) hx hb dX2_sign_12 (by decide) (fun c7 => ?_) (fun c7 => ?_)
    · rw [if_neg c7] at hf
      exact tBX2_sign_19 C hK   _ _ _ _ _ hG hS (lv_sub hl [] rfl) hf
    · rw [if_pos c7] at hf
      refine lv_iconst (v := 1) hx hb dX2_sign_15 (by decide +kernel) ?_
      refine lv_goto (tgt := 20) hx hb dX2_sign_16 (by decide) ?_
      exact tBX2_sign_20 C hK   _ _ _ _ _ _ hG hS (lv_sub hl [] rfl) hf

def rmX2_becomeWhole_ : Room := { frames := 2, cells := 0, slots := 0, locals := 61 }
noncomputable def fX2_becomeWhole_ (σ : g_S) (x0 : Nat) (x1 : Nat) (x2 : Int32) : Option (g_S) := (g_fr σ 2 x0 0).bind fun v1 => (g_o σ 3 v1).bind fun o2 => (fX3_become σ v1 x1).bind fun r3 => (g_fr r3 2 x0 1).bind fun v4 => (g_o r3 3 v4).bind fun o5 => (fX3_becomeUnsigned r3 v4 1).bind fun r6 => (g_o r6 2 x0).bind fun o7 => (fX2_sign r6 x0 x2).bind fun r8 => some r8
set_option maxHeartbeats 4000000 in
set_option maxRecDepth 100000 in
theorem tX2_becomeWhole_ (l : Launch) (D : g_D) {σ : g_S} {x0 : Nat} {x1 : Nat} {x2 : Int32} {out : g_S} (hf : fX2_becomeWhole_ σ x0 x1 x2 = some out) : Met l yX2_becomeWhole_ (Cond.code yX2_becomeWhole_ cX2_becomeWhole_ 3 none :: lw_g) rmX2_becomeWhole_ (g_P D σ [.ref x0, .ref x1, .int x2]) (g_Q D out (none)) 0 0 (g_A D) := by
  refine Met.ofW (cc := cX2_becomeWhole_) (maxL := 3) (ret := none) (by decide +kernel) rfl ?_
  intro p e s m args below meth c s₁ B hml hv
  obtain ⟨rfl, hG, hK⟩ := hv
  have hts : ∀ w ∈ lw_g, w.before _ s = true := fun w h => atoms_spec (ws := (Cond.code yX2_becomeWhole_ cX2_becomeWhole_ 3 none :: lw_g)) B.pre w (List.mem_cons_of_mem _ h)
  have C : g_C RX2 cX2_becomeWhole_ 3 none True p s m _ meth c := ⟨B.exec, B.bytes, hml, findClass_of_methodNamed B.named, hts, B.returns, B.notSynchronized, trivial⟩
  obtain ⟨hx, hb, hml, hown, hts, hr, hlocks, hin⟩ := id C
  have hS : va_S (g_A D) s.heap s.heap [] := va_S.rf
  have hl := lv_entry ([.ref x0, .ref x1, .int x2]) (n := 3) (Nat.le_of_ble_eq_true rfl)
  rw [lg_entry_eq]
  generalize (lg_sl ([.ref x0, .ref x1, .int x2]) ++ List.replicate (3 - (lg_sl ([.ref x0, .ref x1, .int x2])).length) Slot.unset).toArray = ls at hl ⊢
  have hl : lv_has ls 3 [(0, .ref x0), (1, .ref x1), (2, .int x2)] := hl
  unfold fX2_becomeWhole_ at hf
  refine lv_aload_n hx hb dX2_becomeWhole__0 rfl (lv_at hl 0 rfl) ?_
  obtain ⟨v1, hv1, hf⟩ := g_bind hf
  refine g_getr hx hb hts hown hK hG hv1 rfl iX2 (by decide) flX2_12 dX2_becomeWhole__1 ?_
  refine lv_aload_n hx hb dX2_becomeWhole__4 rfl (lv_at hl 1 rfl) ?_
  obtain ⟨o2, ho2, hf⟩ := g_bind hf
  obtain ⟨r3, hr3, hf⟩ := g_bind hf
  refine g_callV hx hb hml hl.1 hts hown hK hG hS (As := [.ref x1]) (rest := []) (tX3_become l D hr3) vX3_become mlX2_32 ho2 rfl rfl rfl rfl ⟨Nat.le_of_ble_eq_true rfl, Nat.le_of_ble_eq_true rfl⟩ rfl rfl (Nat.le_of_ble_eq_true rfl) ⟨Nat.le_of_ble_eq_true rfl, Nat.le_of_ble_eq_true rfl⟩ dX2_becomeWhole__5 (fun H locs hG hS => ?_)
  refine lv_aload_n hx hb dX2_becomeWhole__8 rfl (lv_at hl 0 rfl) ?_
  obtain ⟨v4, hv4, hf⟩ := g_bind hf
  refine g_getr hx hb hts hown hK hG hv4 rfl iX2 (by decide) flX2_18 dX2_becomeWhole__9 ?_
  refine lv_lconst (v := 1) hx hb dX2_becomeWhole__12 (by decide +kernel) ?_
  obtain ⟨o5, ho5, hf⟩ := g_bind hf
  obtain ⟨r6, hr6, hf⟩ := g_bind hf
  refine g_callV hx hb hml hl.1 hts hown hK hG hS (As := [.long 1]) (rest := []) (tX3_becomeUnsigned l D hr6) vX3_becomeUnsigned mlX2_21 ho5 rfl rfl rfl rfl ⟨Nat.le_of_ble_eq_true rfl, Nat.le_of_ble_eq_true rfl⟩ rfl rfl (Nat.le_of_ble_eq_true rfl) ⟨Nat.le_of_ble_eq_true rfl, Nat.le_of_ble_eq_true rfl⟩ dX2_becomeWhole__13 (fun H locs hG hS => ?_)
  refine lv_aload_n hx hb dX2_becomeWhole__16 rfl (lv_at hl 0 rfl) ?_
  refine lv_iload_n hx hb dX2_becomeWhole__17 rfl (lv_at hl 2 rfl) ?_
  obtain ⟨o7, ho7, hf⟩ := g_bind hf
  obtain ⟨r8, hr8, hf⟩ := g_bind hf
  refine g_callV hx hb hml hl.1 hts hown hK hG hS (As := [.int x2]) (rest := []) (tX2_sign l D hr8) vX2_sign mlX2_40 ho7 rfl rfl rfl rfl ⟨Nat.le_of_ble_eq_true rfl, Nat.le_of_ble_eq_true rfl⟩ rfl rfl (Nat.le_of_ble_eq_true rfl) ⟨Nat.le_of_ble_eq_true rfl, Nat.le_of_ble_eq_true rfl⟩ dX2_becomeWhole__18 (fun H locs hG hS => ?_)
  cases hf
  exact g_vret hx hb hr hlocks hG hS dX2_becomeWhole__21

