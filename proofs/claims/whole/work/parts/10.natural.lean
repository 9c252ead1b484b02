def rmJ9_max_7cf53 : Room := { frames := 0, cells := 0, slots := 0, locals := 0 }
noncomputable def BJ9_max_7cf53_10  (σ : g_S) (y0 : Int32) : Option (Int32 × g_S) := some (y0, σ)
noncomputable def fJ9_max_7cf53 (σ : g_S) (x0 : Int32) (x1 : Int32) : Option (Int32 × g_S) := if x0 < x1 then (BJ9_max_7cf53_10 σ x1) else (BJ9_max_7cf53_10 σ x0)
set_option maxHeartbeats 4000000 in
set_option maxRecDepth 100000 in
theorem tBJ9_max_7cf53_10 {p : Program} {l : Launch} {e : Env} {s : State} {m : MethodId} {args : Array Value} {below : List Frame} {meth : Method} {c : Code} {D : g_D} {out : Int32 × g_S} (C : g_C RJ9 cJ9_max_7cf53 2 (some .int) True p s m args meth c) (hK : g_K D s)  : ∀ (σ : g_S) (y0 : Int32) (H : Heap) (locs : List Loc) (ls : Array Slot), g_H D σ H → va_S (g_A D) s.heap H locs → lv_has ls 2 [] → BJ9_max_7cf53_10  σ y0 = some out → W p l e rmJ9_max_7cf53 s m args below meth c H locs 0 0 (MQ below (g_Q D out.2 (some (.int out.1))) args s 0 0 (g_A D)) (F0 m 10 ls [.int y0]) := by
  obtain ⟨hx, hb, hml, hown, hts, hr, hlocks, hin⟩ := id C
  intro σ y0 H locs ls hG hS hl hf
  unfold BJ9_max_7cf53_10 at hf
  cases hf
  exact g_iret hx hb hr hlocks hG hS dJ9_max_7cf53_10

set_option maxHeartbeats 4000000 in
set_option maxRecDepth 100000 in
theorem tJ9_max_7cf53 (l : Launch) (D : g_D) {σ : g_S} {x0 : Int32} {x1 : Int32} {out : Int32 × g_S} (hf : fJ9_max_7cf53 σ x0 x1 = some out) : Met l yJ9_max_7cf53 (Cond.code yJ9_max_7cf53 cJ9_max_7cf53 2 (some .int) :: lw_g) rmJ9_max_7cf53 (g_P D σ [.int x0, .int x1]) (g_Q D out.2 (some (.int out.1))) 0 0 (g_A D) := by
  refine va_MetF (cc := cJ9_max_7cf53) (maxL := 2) (ret := (some .int)) (by decide +kernel) rfl ?_
  intro p e s m args below meth c s₁ B hml hv
  obtain ⟨rfl, hG, hK⟩ := hv
  have hts : ∀ w ∈ lw_g, w.before _ s = true := fun w h => atoms_spec (ws := (Cond.code yJ9_max_7cf53 cJ9_max_7cf53 2 (some .int) :: lw_g)) B.pre w (List.mem_cons_of_mem _ h)
  have C : g_C RJ9 cJ9_max_7cf53 2 (some .int) True p s m _ meth c := ⟨B.exec, B.bytes, hml, findClass_of_methodNamed B.named, hts, B.returns, B.notSynchronized, trivial⟩
  obtain ⟨hx, hb, hml, hown, hts, hr, hlocks, hin⟩ := id C
  have hS : va_S (g_A D) s.heap s.heap [] := va_S.rf
  have hl := lv_entry ([.int x0, .int x1]) (n := 2) (Nat.le_of_ble_eq_true rfl)
  rw [lg_entry_eq]
  generalize (lg_sl ([.int x0, .int x1]) ++ List.replicate (2 - (lg_sl ([.int x0, .int x1])).length) Slot.unset).toArray = ls at hl ⊢
  have hl : lv_has ls 2 [(0, .int x0), (1, .int x1)] := hl
  unfold fJ9_max_7cf53 at hf
  refine lv_iload_n hx hb dJ9_max_7cf53_0 rfl (lv_at hl 0 rfl) ?_
  refine lv_iload_n hx hb dJ9_max_7cf53_1 rfl (lv_at hl 1 rfl) ?_
  refine lv_icmp_lt (tgt := 9) hx hb dJ9_max_7cf53_2 (by decide) (fun c1 => ?_) (fun c1 => ?_)
  · rw [if_pos c1] at hf
    refine lv_iload_n hx hb dJ9_max_7cf53_9 rfl (lv_at hl 1 rfl) ?_
    exact tBJ9_max_7cf53_10 C hK   _ _ _ _ _ hG hS (lv_sub hl [] rfl) hf
  · rw [if_neg c1] at hf
    refine lv_iload_n hx hb dJ9_max_7cf53_5 rfl (lv_at hl 0 rfl) ?_
    refine lv_goto (tgt := 10) hx hb dJ9_max_7cf53_6 (by decide) ?_
    exact tBJ9_max_7cf53_10 C hK   _ _ _ _ _ hG hS (lv_sub hl [] rfl) hf

def rmX3_init : Room := { frames := 1, cells := 1, slots := 136, locals := 21 }
noncomputable def fX3_init (σ : g_S) (x0 : Nat) (x1 : Int32) : Option (g_S) := (fJ9_max_7cf53 σ x1 67).bind fun r1 => g_if (0 ≤ (r1.1).toInt ∧ (r1.1).toInt ≤ 136) <| g_let r1.2.2 fun a3 => g_let (g_mk r1.2 (.inl (0, (r1.1).toNatClampNeg, .inl (fun _ => 0)))) fun σ2 => (g_p σ2 3 x0 0 (.ref a3)).bind fun σ5 => some σ5
set_option maxHeartbeats 4000000 in
set_option maxRecDepth 100000 in
theorem tX3_init (l : Launch) (D : g_D) {σ : g_S} {x0 : Nat} {x1 : Int32} {out : g_S} (hf : fX3_init σ x0 x1 = some out) : Met l yX3_init (Cond.code yX3_init cX3_init 2 none :: lw_g) rmX3_init (g_P D σ [.ref x0, .int x1]) (g_Q D out (none)) 1 136 (g_A D) := by
  refine Met.ofW (cc := cX3_init) (maxL := 2) (ret := none) (by decide +kernel) rfl ?_
  intro p e s m args below meth c s₁ B hml hv
  obtain ⟨rfl, hG, hK⟩ := hv
  have hts : ∀ w ∈ lw_g, w.before _ s = true := fun w h => atoms_spec (ws := (Cond.code yX3_init cX3_init 2 none :: lw_g)) B.pre w (List.mem_cons_of_mem _ h)
  have C : g_C RX3 cX3_init 2 none (meth.name = "<init>") p s m _ meth c := ⟨B.exec, B.bytes, hml, findClass_of_methodNamed B.named, hts, B.returns, B.notSynchronized, (name_of_methodNamed B.named B.method).1⟩
  obtain ⟨hx, hb, hml, hown, hts, hr, hlocks, hin⟩ := id C
  have hS : va_S (g_A D) s.heap s.heap [] := va_S.rf
  have hl := lv_entry ([.ref x0, .int x1]) (n := 2) (Nat.le_of_ble_eq_true rfl)
  rw [lg_entry_eq]
  generalize (lg_sl ([.ref x0, .int x1]) ++ List.replicate (2 - (lg_sl ([.ref x0, .int x1])).length) Slot.unset).toArray = ls at hl ⊢
  have hl : lv_has ls 2 [(0, .ref x0), (1, .int x1)] := hl
  unfold fX3_init at hf
  refine lv_aload_n hx hb dX3_init_0 rfl (lv_at hl 0 rfl) ?_
  refine W.objInit hx hb hown (hts _ oi_lX3) (hts _ oi_i) (hts _ oi_c) rfl (by rw [hml]; exact hl.1) rfl dX3_init_1 (Nat.le_of_ble_eq_true rfl) (Nat.le_of_ble_eq_true rfl) ?_
  refine W.eq (g2 := F0 m 4 ls []) rfl ?_
  refine lv_aload_n hx hb dX3_init_4 rfl (lv_at hl 0 rfl) ?_
  refine lv_iload_n hx hb dX3_init_5 rfl (lv_at hl 1 rfl) ?_
  refine lv_bipush (v := 67) hx hb dX3_init_6 (by decide +kernel) ?_
  obtain ⟨r1, hr1, hf⟩ := g_bind hf
  refine g_callS hx hb hml hl.1 hts hown hK hG hS (As := [.int x1, .int 67]) (rest := [.ref x0]) (tJ9_max_7cf53 l D hr1) vJ9_max_7cf53 mlX3_9 rfl rfl ⟨Nat.le_of_ble_eq_true rfl, Nat.le_of_ble_eq_true rfl⟩ rfl rfl (Nat.le_of_ble_eq_true rfl) ⟨Nat.le_of_ble_eq_true rfl, Nat.le_of_ble_eq_true rfl⟩ dX3_init_8 (fun H locs hG hS => ?_)
  obtain ⟨h4, hf⟩ := g_if_spec hf
  obtain ⟨a3, ea3, hf⟩ := g_let_spec hf
  obtain ⟨σ2, eσ2, hf⟩ := g_let_spec hf
  refine g_newa (N := (r1.1).toNatClampNeg) (t := 0) (f := .inl (fun _ => 0)) (atype := .int) hx hb hts hK hG hS ac_int (fun _ => rfl) rfl (fun _ => rfl) (g_cap0 h4) rfl (g_capB h4) (Nat.le_of_ble_eq_true rfl) (g_capS h4 (Nat.le_of_ble_eq_true rfl)) dX3_init_11 (fun H hG hS => ?_)
  rw [eσ2] at hG
  rw [ea3]
  refine W.widen (k := 1) (n := 136) (Nat.le_of_ble_eq_true rfl) (g_capW h4) ?_
  obtain ⟨σ5, hσ5, hf⟩ := g_bind hf
  refine g_putF hx hb hts hown hin hK hG hS hσ5 rfl iX3 tyX3 tyX3_ok nmX3 (by decide) flX3_15 rfl rfl rfl rfl dX3_init_13 (fun H locs hG hS => ?_)
  cases hf
  exact g_vret hx hb hr hlocks hG hS dX3_init_16

def rmX3_limbAt : Room := { frames := 0, cells := 0, slots := 0, locals := 0 }
noncomputable def BX3_limbAt_22  (σ : g_S) (y0 : Int32) : Option (Int32 × g_S) := some (y0, σ)
noncomputable def BX3_limbAt_21  (σ : g_S)  : Option (Int32 × g_S) := BX3_limbAt_22 σ 0
noncomputable def fX3_limbAt (σ : g_S) (x0 : Nat) (x1 : Int32) : Option (Int32 × g_S) := if x1 < 0 then (BX3_limbAt_21 σ) else ((g_fi σ 3 x0 1).bind fun v2 => if v2 ≤ x1 then (BX3_limbAt_21 σ) else ((g_fr σ 3 x0 0).bind fun v4 => (g_li σ 0 v4 x1).bind fun v5 => BX3_limbAt_22 σ v5))
set_option maxHeartbeats 4000000 in
set_option maxRecDepth 100000 in
theorem tBX3_limbAt_22 {p : Program} {l : Launch} {e : Env} {s : State} {m : MethodId} {args : Array Value} {below : List Frame} {meth : Method} {c : Code} {D : g_D} {out : Int32 × g_S} (C : g_C RX3 cX3_limbAt 2 (some .int) True p s m args meth c) (hK : g_K D s)  : ∀ (σ : g_S) (y0 : Int32) (H : Heap) (locs : List Loc) (ls : Array Slot), g_H D σ H → va_S (g_A D) s.heap H locs → lv_has ls 2 [] → BX3_limbAt_22  σ y0 = some out → W p l e rmX3_limbAt s m args below meth c H locs 0 0 (MQ below (g_Q D out.2 (some (.int out.1))) args s 0 0 (g_A D)) (F0 m 22 ls [.int y0]) := by
  obtain ⟨hx, hb, hml, hown, hts, hr, hlocks, hin⟩ := id C
  intro σ y0 H locs ls hG hS hl hf
  unfold BX3_limbAt_22 at hf
  cases hf
  exact g_iret hx hb hr hlocks hG hS dX3_limbAt_22

set_option maxHeartbeats 4000000 in
set_option maxRecDepth 100000 in
theorem tBX3_limbAt_21 {p : Program} {l : Launch} {e : Env} {s : State} {m : MethodId} {args : Array Value} {below : List Frame} {meth : Method} {c : Code} {D : g_D} {out : Int32 × g_S} (C : g_C RX3 cX3_limbAt 2 (some .int) True p s m args meth c) (hK : g_K D s)  : ∀ (σ : g_S)  (H : Heap) (locs : List Loc) (ls : Array Slot), g_H D σ H → va_S (g_A D) s.heap H locs → lv_has ls 2 [] → BX3_limbAt_21  σ  = some out → W p l e rmX3_limbAt s m args below meth c H locs 0 0 (MQ below (g_Q D out.2 (some (.int out.1))) args s 0 0 (g_A D)) (F0 m 21 ls []) := by
  obtain ⟨hx, hb, hml, hown, hts, hr, hlocks, hin⟩ := id C
  intro σ  H locs ls hG hS hl hf
  unfold BX3_limbAt_21 at hf
  refine lv_iconst (v := 0) hx hb dX3_limbAt_21 (by decide +kernel) ?_
  exact tBX3_limbAt_22 C hK   _ _ _ _ _ hG hS (lv_sub hl [] rfl) hf

set_option maxHeartbeats 4000000 in
set_option maxRecDepth 100000 in
theorem tX3_limbAt (l : Launch) (D : g_D) {σ : g_S} {x0 : Nat} {x1 : Int32} {out : Int32 × g_S} (hf : fX3_limbAt σ x0 x1 = some out) : Met l yX3_limbAt (Cond.code yX3_limbAt cX3_limbAt 2 (some .int) :: lw_g) rmX3_limbAt (g_P D σ [.ref x0, .int x1]) (g_Q D out.2 (some (.int out.1))) 0 0 (g_A D) := by
  refine Met.ofW (cc := cX3_limbAt) (maxL := 2) (ret := (some .int)) (by decide +kernel) rfl ?_
  intro p e s m args below meth c s₁ B hml hv
  obtain ⟨rfl, hG, hK⟩ := hv
  have hts : ∀ w ∈ lw_g, w.before _ s = true := fun w h => atoms_spec (ws := (Cond.code yX3_limbAt cX3_limbAt 2 (some .int) :: lw_g)) B.pre w (List.mem_cons_of_mem _ h)
  have C : g_C RX3 cX3_limbAt 2 (some .int) True p s m _ meth c := ⟨B.exec, B.bytes, hml, findClass_of_methodNamed B.named, hts, B.returns, B.notSynchronized, trivial⟩
  obtain ⟨hx, hb, hml, hown, hts, hr, hlocks, hin⟩ := id C
  have hS : va_S (g_A D) s.heap s.heap [] := va_S.rf
  have hl := lv_entry ([.ref x0, .int x1]) (n := 2) (Nat.le_of_ble_eq_true rfl)
  rw [lg_entry_eq]
  generalize (lg_sl ([.ref x0, .int x1]) ++ List.replicate (2 - (lg_sl ([.ref x0, .int x1])).length) Slot.unset).toArray = ls at hl ⊢
  have hl : lv_has ls 2 [(0, .ref x0), (1, .int x1)] := hl
  unfold fX3_limbAt at hf
  refine lv_iload_n hx hb dX3_limbAt_0 rfl (lv_at hl 1 rfl) ?_
  refine lv_if_lt (tgt := 21) hx hb dX3_limbAt_1 (by decide) (fun c1 => ?_) (fun c1 => ?_)
  · rw [if_pos c1] at hf
    exact tBX3_limbAt_21 C hK   _  _ _ _ hG hS (lv_sub hl [] rfl) hf
  · rw [if_neg c1] at hf
    refine lv_iload_n hx hb dX3_limbAt_4 rfl (lv_at hl 1 rfl) ?_
    refine lv_aload_n hx hb dX3_limbAt_5 rfl (lv_at hl 0 rfl) ?_
    obtain ⟨v2, hv2, hf⟩ := g_bind hf
    refine g_geti hx hb hts hown hK hG hv2 rfl iX3 (by decide) flX3_21 dX3_limbAt_6 ?_
    refine lv_icmp_ge (tgt := 21) hx hb dX3_limbAt_9 (by decide) (fun c3 => ?_) (fun c3 => ?_)
    · rw [if_pos c3] at hf
      exact tBX3_limbAt_21 C hK   _  _ _ _ hG hS (lv_sub hl [] rfl) hf
    · rw [if_neg c3] at hf
      refine lv_aload_n hx hb dX3_limbAt_12 rfl (lv_at hl 0 rfl) ?_
      obtain ⟨v4, hv4, hf⟩ := g_bind hf
      refine g_getr hx hb hts hown hK hG hv4 rfl iX3 (by decide) flX3_15 dX3_limbAt_13 ?_
      refine lv_iload_n hx hb dX3_limbAt_16 rfl (lv_at hl 1 rfl) ?_
      obtain ⟨v5, hv5, hf⟩ := g_bind hf
      refine g_iald hx hb hK hG hv5 rfl dX3_limbAt_17 ?_
      refine lv_goto (tgt := 22) hx hb dX3_limbAt_18 (by decide) ?_
      exact tBX3_limbAt_22 C hK   _ _ _ _ _ hG hS (lv_sub hl [] rfl) hf

def rmX3_trim : Room := { frames := 0, cells := 0, slots := 0, locals := 0 }
noncomputable def BX3_trim_39  (σ : g_S)  : Option (g_S) := some σ
noncomputable def LX3_trim_5  : Nat → g_S → Nat → Option (g_S)
  | 0, _, _ => none
  | n + 1, σ, x0 => (g_fi σ 3 x0 1).bind fun v2 => if v2 ≤ 0 then (BX3_trim_39 σ) else ((g_fr σ 3 x0 0).bind fun v4 => (g_fi σ 3 x0 1).bind fun v5 => (g_li σ 0 v4 (v5 - 1)).bind fun v6 => if v6 = 0 then ((g_fi σ 3 x0 1).bind fun v8 => (g_p σ 3 x0 1 (.int (v8 - 1))).bind fun σ9 => (LX3_trim_5  n) σ9 x0) else (BX3_trim_39 σ))
noncomputable def fX3_trim (σ : g_S) (x0 : Nat) (x1 : Int32) : Option (g_S) := (g_p σ 3 x0 1 (.int x1)).bind fun σ1 => LX3_trim_5 g_fuel σ1 x0
set_option maxHeartbeats 4000000 in
set_option maxRecDepth 100000 in
theorem tBX3_trim_39 {p : Program} {l : Launch} {e : Env} {s : State} {m : MethodId} {args : Array Value} {below : List Frame} {meth : Method} {c : Code} {D : g_D} {out : g_S} (C : g_C RX3 cX3_trim 2 none True p s m args meth c) (hK : g_K D s)  : ∀ (σ : g_S)  (H : Heap) (locs : List Loc) (ls : Array Slot), g_H D σ H → va_S (g_A D) s.heap H locs → lv_has ls 2 [] → BX3_trim_39  σ  = some out → W p l e rmX3_trim s m args below meth c H locs 0 0 (MQ below (g_Q D out (none)) args s 0 0 (g_A D)) (F0 m 39 ls []) := by
  obtain ⟨hx, hb, hml, hown, hts, hr, hlocks, hin⟩ := id C
  intro σ  H locs ls hG hS hl hf
  unfold BX3_trim_39 at hf
  cases hf
  exact g_vret hx hb hr hlocks hG hS dX3_trim_39

set_option maxHeartbeats 4000000 in
set_option maxRecDepth 100000 in
theorem tLX3_trim_5 {p : Program} {l : Launch} {e : Env} {s : State} {m : MethodId} {args : Array Value} {below : List Frame} {meth : Method} {c : Code} {D : g_D} {out : g_S} (C : g_C RX3 cX3_trim 2 none True p s m args meth c) (hK : g_K D s)  : ∀ (n : Nat) (σ : g_S) (x0 : Nat) (H : Heap) (locs : List Loc) (ls : Array Slot), g_H D σ H → va_S (g_A D) s.heap H locs → lv_has ls 2 [(0, .ref x0)] → LX3_trim_5  n σ x0 = some out → W p l e rmX3_trim s m args below meth c H locs 0 0 (MQ below (g_Q D out (none)) args s 0 0 (g_A D)) (F0 m 5 ls [])  := by
  obtain ⟨hx, hb, hml, hown, hts, hr, hlocks, hin⟩ := id C
  intro n
  induction n with
  | zero => intro σ x0 H locs ls hG hS hl hf; cases hf
  | succ n ih =>
    intro σ x0 H locs ls hG hS hl hf
    have hf : ((g_fi σ 3 x0 1).bind fun v2 => if v2 ≤ 0 then (BX3_trim_39 σ) else ((g_fr σ 3 x0 0).bind fun v4 => (g_fi σ 3 x0 1).bind fun v5 => (g_li σ 0 v4 (v5 - 1)).bind fun v6 => if v6 = 0 then ((g_fi σ 3 x0 1).bind fun v8 => (g_p σ 3 x0 1 (.int (v8 - 1))).bind fun σ9 => (LX3_trim_5  n) σ9 x0) else (BX3_trim_39 σ))) = some out := hf
    have hk5 := ih
    refine lv_aload_n hx hb dX3_trim_5 rfl (lv_at hl 0 rfl) ?_
    obtain ⟨v2, hv2, hf⟩ := g_bind hf
    refine g_geti hx hb hts hown hK hG hv2 rfl iX3 (by decide) flX3_21 dX3_trim_6 ?_
    refine lv_if_le (tgt := 39) hx hb dX3_trim_9 (by decide) (fun c3 => ?_) (fun c3 => ?_)
    · rw [if_pos c3] at hf
      exact tBX3_trim_39 C hK   _  _ _ _ hG hS (lv_sub hl [] rfl) hf
    · rw [if_neg c3] at hf
      refine lv_aload_n hx hb dX3_trim_12 rfl (lv_at hl 0 rfl) ?_
      obtain ⟨v4, hv4, hf⟩ := g_bind hf
      refine g_getr hx hb hts hown hK hG hv4 rfl iX3 (by decide) flX3_15 dX3_trim_13 ?_
      refine lv_aload_n hx hb dX3_trim_16 rfl (lv_at hl 0 rfl) ?_
      obtain ⟨v5, hv5, hf⟩ := g_bind hf
      refine g_geti hx hb hts hown hK hG hv5 rfl iX3 (by decide) flX3_21 dX3_trim_17 ?_
      refine lv_iconst (v := 1) hx hb dX3_trim_20 (by decide +kernel) ?_
      refine lv_isub hx hb dX3_trim_21 ?_
      obtain ⟨v6, hv6, hf⟩ := g_bind hf
      refine g_iald hx hb hK hG hv6 rfl dX3_trim_22 ?_
      refine lv_if_ne (tgt := 39) hx hb dX3_trim_23 (by decide) (fun c7 => ?_) (fun c7 => ?_)
      · rw [if_neg c7] at hf
        exact tBX3_trim_39 C hK   _  _ _ _ hG hS (lv_sub hl [] rfl) hf
      · rw [if_pos c7] at hf
        refine lv_aload_n hx hb dX3_trim_26 rfl (lv_at hl 0 rfl) ?_
        refine lv_dup hx hb dX3_trim_27 rfl ?_
        obtain ⟨v8, hv8, hf⟩ := g_bind hf
        refine g_geti hx hb hts hown hK hG hv8 rfl iX3 (by decide) flX3_21 dX3_trim_28 ?_
        refine lv_iconst (v := 1) hx hb dX3_trim_31 (by decide +kernel) ?_
        refine lv_isub hx hb dX3_trim_32 ?_
        obtain ⟨σ9, hσ9, hf⟩ := g_bind hf
        refine g_put hx hb hts hown hK hG hS hσ9 rfl iX3 tyX3 tyX3_ok nmX3 (by decide) flX3_21 rfl rfl rfl dX3_trim_33 (fun H locs hG hS => ?_)
        refine lv_goto (tgt := 5) hx hb dX3_trim_36 (by decide) ?_
        exact hk5 _ _ _ _ _ hG hS (lv_sub hl [0] rfl) hf

set_option maxHeartbeats 4000000 in
set_option maxRecDepth 100000 in
theorem tX3_trim (l : Launch) (D : g_D) {σ : g_S} {x0 : Nat} {x1 : Int32} {out : g_S} (hf : fX3_trim σ x0 x1 = some out) : Met l yX3_trim (Cond.code yX3_trim cX3_trim 2 none :: lw_g) rmX3_trim (g_P D σ [.ref x0, .int x1]) (g_Q D out (none)) 0 0 (g_A D) := by
  refine Met.ofW (cc := cX3_trim) (maxL := 2) (ret := none) (by decide +kernel) rfl ?_
  intro p e s m args below meth c s₁ B hml hv
  obtain ⟨rfl, hG, hK⟩ := hv
  have hts : ∀ w ∈ lw_g, w.before _ s = true := fun w h => atoms_spec (ws := (Cond.code yX3_trim cX3_trim 2 none :: lw_g)) B.pre w (List.mem_cons_of_mem _ h)
  have C : g_C RX3 cX3_trim 2 none True p s m _ meth c := ⟨B.exec, B.bytes, hml, findClass_of_methodNamed B.named, hts, B.returns, B.notSynchronized, trivial⟩
  obtain ⟨hx, hb, hml, hown, hts, hr, hlocks, hin⟩ := id C
  have hS : va_S (g_A D) s.heap s.heap [] := va_S.rf
  have hl := lv_entry ([.ref x0, .int x1]) (n := 2) (Nat.le_of_ble_eq_true rfl)
  rw [lg_entry_eq]
  generalize (lg_sl ([.ref x0, .int x1]) ++ List.replicate (2 - (lg_sl ([.ref x0, .int x1])).length) Slot.unset).toArray = ls at hl ⊢
  have hl : lv_has ls 2 [(0, .ref x0), (1, .int x1)] := hl
  unfold fX3_trim at hf
  refine lv_aload_n hx hb dX3_trim_0 rfl (lv_at hl 0 rfl) ?_
  refine lv_iload_n hx hb dX3_trim_1 rfl (lv_at hl 1 rfl) ?_
  obtain ⟨σ1, hσ1, hf⟩ := g_bind hf
  refine g_put hx hb hts hown hK hG hS hσ1 rfl iX3 tyX3 tyX3_ok nmX3 (by decide) flX3_21 rfl rfl rfl dX3_trim_2 (fun H locs hG hS => ?_)
  exact tLX3_trim_5 C hK  g_fuel _ _ _ _ _ hG hS (lv_sub hl [0] rfl) hf

def rmJ9_abs_067f4 : Room := { frames := 0, cells := 0, slots := 0, locals := 0 }
noncomputable def BJ9_abs_067f4_12  (σ : g_S) (y0 : Int64) : Option (Int64 × g_S) := some (y0, σ)
noncomputable def fJ9_abs_067f4 (σ : g_S) (x0 : Int64) : Option (Int64 × g_S) := if 0 ≤ (lg_cmp x0 0) then (BJ9_abs_067f4_12 σ x0) else (BJ9_abs_067f4_12 σ (-x0))
set_option maxHeartbeats 4000000 in
set_option maxRecDepth 100000 in
theorem tBJ9_abs_067f4_12 {p : Program} {l : Launch} {e : Env} {s : State} {m : MethodId} {args : Array Value} {below : List Frame} {meth : Method} {c : Code} {D : g_D} {out : Int64 × g_S} (C : g_C RJ9 cJ9_abs_067f4 2 (some .long) True p s m args meth c) (hK : g_K D s)  : ∀ (σ : g_S) (y0 : Int64) (H : Heap) (locs : List Loc) (ls : Array Slot), g_H D σ H → va_S (g_A D) s.heap H locs → lv_has ls 2 [] → BJ9_abs_067f4_12  σ y0 = some out → W p l e rmJ9_abs_067f4 s m args below meth c H locs 0 0 (MQ below (g_Q D out.2 (some (.long out.1))) args s 0 0 (g_A D)) (F0 m 12 ls [.long y0]) := by
  obtain ⟨hx, hb, hml, hown, hts, hr, hlocks, hin⟩ := id C
  intro σ y0 H locs ls hG hS hl hf
  unfold BJ9_abs_067f4_12 at hf
  cases hf
  exact g_lret hx hb hr hlocks hG hS dJ9_abs_067f4_12

set_option maxHeartbeats 4000000 in
set_option maxRecDepth 100000 in
theorem tJ9_abs_067f4 (l : Launch) (D : g_D) {σ : g_S} {x0 : Int64} {out : Int64 × g_S} (hf : fJ9_abs_067f4 σ x0 = some out) : Met l yJ9_abs_067f4 (Cond.code yJ9_abs_067f4 cJ9_abs_067f4 2 (some .long) :: lw_g) rmJ9_abs_067f4 (g_P D σ [.long x0]) (g_Q D out.2 (some (.long out.1))) 0 0 (g_A D) := by
  refine va_MetF (cc := cJ9_abs_067f4) (maxL := 2) (ret := (some .long)) (by decide +kernel) rfl ?_
  intro p e s m args below meth c s₁ B hml hv
  obtain ⟨rfl, hG, hK⟩ := hv
  have hts : ∀ w ∈ lw_g, w.before _ s = true := fun w h => atoms_spec (ws := (Cond.code yJ9_abs_067f4 cJ9_abs_067f4 2 (some .long) :: lw_g)) B.pre w (List.mem_cons_of_mem _ h)
  have C : g_C RJ9 cJ9_abs_067f4 2 (some .long) True p s m _ meth c := ⟨B.exec, B.bytes, hml, findClass_of_methodNamed B.named, hts, B.returns, B.notSynchronized, trivial⟩
  obtain ⟨hx, hb, hml, hown, hts, hr, hlocks, hin⟩ := id C
  have hS : va_S (g_A D) s.heap s.heap [] := va_S.rf
  have hl := lv_entry ([.long x0]) (n := 2) (Nat.le_of_ble_eq_true rfl)
  rw [lg_entry_eq]
  generalize (lg_sl ([.long x0]) ++ List.replicate (2 - (lg_sl ([.long x0])).length) Slot.unset).toArray = ls at hl ⊢
  have hl : lv_has ls 2 [(0, .long x0)] := hl
  unfold fJ9_abs_067f4 at hf
  refine lv_lload_n hx hb dJ9_abs_067f4_0 rfl (lv_at hl 0 rfl) ?_
  refine lv_lconst (v := 0) hx hb dJ9_abs_067f4_1 (by decide +kernel) ?_
  refine W.lcmp hx hb dJ9_abs_067f4_2 ?_
  refine lv_if_ge (tgt := 11) hx hb dJ9_abs_067f4_3 (by decide) (fun c1 => ?_) (fun c1 => ?_)
  · rw [if_pos c1] at hf
    refine lv_lload_n hx hb dJ9_abs_067f4_11 rfl (lv_at hl 0 rfl) ?_
    exact tBJ9_abs_067f4_12 C hK   _ _ _ _ _ hG hS (lv_sub hl [] rfl) hf
  · rw [if_neg c1] at hf
    refine lv_lload_n hx hb dJ9_abs_067f4_6 rfl (lv_at hl 0 rfl) ?_
    refine lv_lneg hx hb dJ9_abs_067f4_7 ?_
    refine lv_goto (tgt := 12) hx hb dJ9_abs_067f4_8 (by decide) ?_
    exact tBJ9_abs_067f4_12 C hK   _ _ _ _ _ hG hS (lv_sub hl [] rfl) hf

def rmX3_bitLength : Room := { frames := 0, cells := 0, slots := 0, locals := 0 }
noncomputable def BX3_bitLength_42  (σ : g_S) (x0 : Nat) (x2 : Int32) : Option (Int32 × g_S) := (g_fi σ 3 x0 1).bind fun v7 => some (((v7 - 1) * 31) + x2, σ)
noncomputable def LX3_bitLength_24  : Nat → g_S → Nat → Int32 → Int32 → Option (Int32 × g_S)
  | 0, _, _, _, _ => none
  | n + 1, σ, x0, x1, x2 => if x2 ≤ 0 then (BX3_bitLength_42 σ x0 x2) else (if g_iushr x1 (x2 - 1) = 0 then (g_let (x2 + (-1)) fun v9 => (LX3_bitLength_24  n) σ x0 x1 v9) else (BX3_bitLength_42 σ x0 x2))
noncomputable def fX3_bitLength (σ : g_S) (x0 : Nat) : Option (Int32 × g_S) := (g_fi σ 3 x0 1).bind fun v1 => if v1 = 0 then (some (0, σ)) else ((g_fr σ 3 x0 0).bind fun v3 => (g_fi σ 3 x0 1).bind fun v4 => (g_li σ 0 v3 (v4 - 1)).bind fun v5 => LX3_bitLength_24 g_fuel σ x0 v5 31)
set_option maxHeartbeats 4000000 in
set_option maxRecDepth 100000 in
theorem tBX3_bitLength_42 {p : Program} {l : Launch} {e : Env} {s : State} {m : MethodId} {args : Array Value} {below : List Frame} {meth : Method} {c : Code} {D : g_D} {out : Int32 × g_S} (C : g_C RX3 cX3_bitLength 3 (some .int) True p s m args meth c) (hK : g_K D s)  : ∀ (σ : g_S) (x0 : Nat) (x2 : Int32) (H : Heap) (locs : List Loc) (ls : Array Slot), g_H D σ H → va_S (g_A D) s.heap H locs → lv_has ls 3 [(0, .ref x0), (2, .int x2)] → BX3_bitLength_42  σ x0 x2 = some out → W p l e rmX3_bitLength s m args below meth c H locs 0 0 (MQ below (g_Q D out.2 (some (.int out.1))) args s 0 0 (g_A D)) (F0 m 42 ls []) := by
  obtain ⟨hx, hb, hml, hown, hts, hr, hlocks, hin⟩ := id C
  intro σ x0 x2 H locs ls hG hS hl hf
  unfold BX3_bitLength_42 at hf
  refine lv_aload_n hx hb dX3_bitLength_42 rfl (lv_at hl 0 rfl) ?_
  obtain ⟨v7, hv7, hf⟩ := g_bind hf
  refine g_geti hx hb hts hown hK hG hv7 rfl iX3 (by decide) flX3_21 dX3_bitLength_43 ?_
  refine lv_iconst (v := 1) hx hb dX3_bitLength_46 (by decide +kernel) ?_
  refine lv_isub hx hb dX3_bitLength_47 ?_
  refine lv_bipush (v := 31) hx hb dX3_bitLength_48 (by decide +kernel) ?_
  refine lv_imul hx hb dX3_bitLength_50 ?_
  refine lv_iload_n hx hb dX3_bitLength_51 rfl (lv_at hl 1 rfl) ?_
  refine lv_iadd hx hb dX3_bitLength_52 ?_
  cases hf
  exact g_iret hx hb hr hlocks hG hS dX3_bitLength_53

set_option maxHeartbeats 4000000 in
set_option maxRecDepth 100000 in
theorem tLX3_bitLength_24 {p : Program} {l : Launch} {e : Env} {s : State} {m : MethodId} {args : Array Value} {below : List Frame} {meth : Method} {c : Code} {D : g_D} {out : Int32 × g_S} (C : g_C RX3 cX3_bitLength 3 (some .int) True p s m args meth c) (hK : g_K D s)  : ∀ (n : Nat) (σ : g_S) (x0 : Nat) (x1 : Int32) (x2 : Int32) (H : Heap) (locs : List Loc) (ls : Array Slot), g_H D σ H → va_S (g_A D) s.heap H locs → lv_has ls 3 [(0, .ref x0), (1, .int x1), (2, .int x2)] → LX3_bitLength_24  n σ x0 x1 x2 = some out → W p l e rmX3_bitLength s m args below meth c H locs 0 0 (MQ below (g_Q D out.2 (some (.int out.1))) args s 0 0 (g_A D)) (F0 m 24 ls [])  := by
  obtain ⟨hx, hb, hml, hown, hts, hr, hlocks, hin⟩ := id C
  intro n
  induction n with
  | zero => intro σ x0 x1 x2 H locs ls hG hS hl hf; cases hf
  | succ n ih =>
    intro σ x0 x1 x2 H locs ls hG hS hl hf
    have hf : (if x2 ≤ 0 then (BX3_bitLength_42 σ x0 x2) else (if g_iushr x1 (x2 - 1) = 0 then (g_let (x2 + (-1)) fun v9 => (LX3_bitLength_24  n) σ x0 x1 v9) else (BX3_bitLength_42 σ x0 x2))) = some out := hf
    have hk24 := ih
    refine lv_iload_n hx hb dX3_bitLength_24 rfl (lv_at hl 2 rfl) ?_
    refine lv_if_le (tgt := 42) hx hb dX3_bitLength_25 (by decide) (fun c6 => ?_) (fun c6 => ?_)
    · rw [if_pos c6] at hf
      exact tBX3_bitLength_42 C hK   _ _ _ _ _ _ hG hS (lv_sub hl [0, 2] rfl) hf
    · rw [if_neg c6] at hf
      refine lv_iload_n hx hb dX3_bitLength_28 rfl (lv_at hl 1 rfl) ?_
      refine lv_iload_n hx hb dX3_bitLength_29 rfl (lv_at hl 2 rfl) ?_
      refine lv_iconst (v := 1) hx hb dX3_bitLength_30 (by decide +kernel) ?_
      refine lv_isub hx hb dX3_bitLength_31 ?_
      refine lv_iushr (v := g_iushr x1 (x2 - 1)) hx hb dX3_bitLength_32 rfl ?_
      refine lv_if_ne (tgt := 42) hx hb dX3_bitLength_33 (by decide) (fun c8 => ?_) (fun c8 => ?_)
      · rw [if_neg c8] at hf
        exact tBX3_bitLength_42 C hK   _ _ _ _ _ _ hG hS (lv_sub hl [0, 2] rfl) hf
      · rw [if_pos c8] at hf
        obtain ⟨v9, ev9, hf⟩ := g_let_spec hf
        refine lv_iinc (v := v9) (lv' := [(2, .int v9), (0, .ref x0), (1, .int x1)]) hx hb dX3_bitLength_36 hl (k := 2) rfl (by rw [← ev9]; rfl) (by decide) rfl (fun ls hl => ?_)
        refine lv_goto (tgt := 24) hx hb dX3_bitLength_39 (by decide) ?_
        exact hk24 _ _ _ _ _ _ _ hG hS (lv_sub hl [1, 2, 0] rfl) hf

set_option maxHeartbeats 4000000 in
set_option maxRecDepth 100000 in
theorem tX3_bitLength (l : Launch) (D : g_D) {σ : g_S} {x0 : Nat} {out : Int32 × g_S} (hf : fX3_bitLength σ x0 = some out) : Met l yX3_bitLength (Cond.code yX3_bitLength cX3_bitLength 3 (some .int) :: lw_g) rmX3_bitLength (g_P D σ [.ref x0]) (g_Q D out.2 (some (.int out.1))) 0 0 (g_A D) := by
  refine Met.ofW (cc := cX3_bitLength) (maxL := 3) (ret := (some .int)) (by decide +kernel) rfl ?_
  intro p e s m args below meth c s₁ B hml hv
  obtain ⟨rfl, hG, hK⟩ := hv
  have hts : ∀ w ∈ lw_g, w.before _ s = true := fun w h => atoms_spec (ws := (Cond.code yX3_bitLength cX3_bitLength 3 (some .int) :: lw_g)) B.pre w (List.mem_cons_of_mem _ h)
  have C : g_C RX3 cX3_bitLength 3 (some .int) True p s m _ meth c := ⟨B.exec, B.bytes, hml, findClass_of_methodNamed B.named, hts, B.returns, B.notSynchronized, trivial⟩
  obtain ⟨hx, hb, hml, hown, hts, hr, hlocks, hin⟩ := id C
  have hS : va_S (g_A D) s.heap s.heap [] := va_S.rf
  have hl := lv_entry ([.ref x0]) (n := 3) (Nat.le_of_ble_eq_true rfl)
  rw [lg_entry_eq]
  generalize (lg_sl ([.ref x0]) ++ List.replicate (3 - (lg_sl ([.ref x0])).length) Slot.unset).toArray = ls at hl ⊢
  have hl : lv_has ls 3 [(0, .ref x0)] := hl
  unfold fX3_bitLength at hf
  refine lv_aload_n hx hb dX3_bitLength_0 rfl (lv_at hl 0 rfl) ?_
  obtain ⟨v1, hv1, hf⟩ := g_bind hf
  refine g_geti hx hb hts hown hK hG hv1 rfl iX3 (by decide) flX3_21 dX3_bitLength_1 ?_
  refine lv_if_ne (tgt := 9) hx hb dX3_bitLength_4 (by decide) (fun c2 => ?_) (fun c2 => ?_)
  · rw [if_neg c2] at hf
    refine lv_aload_n hx hb dX3_bitLength_9 rfl (lv_at hl 0 rfl) ?_
    obtain ⟨v3, hv3, hf⟩ := g_bind hf
    refine g_getr hx hb hts hown hK hG hv3 rfl iX3 (by decide) flX3_15 dX3_bitLength_10 ?_
    refine lv_aload_n hx hb dX3_bitLength_13 rfl (lv_at hl 0 rfl) ?_
    obtain ⟨v4, hv4, hf⟩ := g_bind hf
    refine g_geti hx hb hts hown hK hG hv4 rfl iX3 (by decide) flX3_21 dX3_bitLength_14 ?_
    refine lv_iconst (v := 1) hx hb dX3_bitLength_17 (by decide +kernel) ?_
    refine lv_isub hx hb dX3_bitLength_18 ?_
    obtain ⟨v5, hv5, hf⟩ := g_bind hf
    refine g_iald hx hb hK hG hv5 rfl dX3_bitLength_19 ?_
    refine lv_istore_n (lv' := [(1, .int v5), (0, .ref x0)]) hx hb dX3_bitLength_20 rfl hl (by decide) rfl (fun ls hl => ?_)
    refine lv_bipush (v := 31) hx hb dX3_bitLength_21 (by decide +kernel) ?_
    refine lv_istore_n (lv' := [(2, .int 31), (1, .int v5), (0, .ref x0)]) hx hb dX3_bitLength_23 rfl hl (by decide) rfl (fun ls hl => ?_)
    exact tLX3_bitLength_24 C hK  g_fuel _ _ _ _ _ _ _ hG hS (lv_sub hl [2, 1, 0] rfl) hf
  · rw [if_pos c2] at hf
    refine lv_iconst (v := 0) hx hb dX3_bitLength_7 (by decide +kernel) ?_
    cases hf
    exact g_iret hx hb hr hlocks hG hS dX3_bitLength_8

def rmX3_withoutLowest : Room := { frames := 1, cells := 0, slots := 0, locals := 21 }
noncomputable def fX3_withoutLowest (σ : g_S) (x0 : Nat) (x1 : Int32) : Option (Int64 × g_S) := g_let (x1 / 31) fun v1 => g_let (g_irem x1 31) fun v2 => (g_o σ 3 x0).bind fun o3 => (fX3_limbAt σ x0 (v1 + 2)).bind fun r4 => g_let (g_lshl r4.1.toInt64 (62 - v2)) fun v5 => (g_o r4.2 3 x0).bind fun o6 => (fX3_limbAt r4.2 x0 (v1 + 1)).bind fun r7 => g_let (g_lshl r7.1.toInt64 (31 - v2)) fun v8 => (g_o r7.2 3 x0).bind fun o9 => (fX3_limbAt r7.2 x0 v1).bind fun r10 => some ((v5 ||| v8) ||| ((g_iushr r10.1 v2).toInt64), r10.2)
set_option maxHeartbeats 4000000 in
set_option maxRecDepth 100000 in
theorem tX3_withoutLowest (l : Launch) (D : g_D) {σ : g_S} {x0 : Nat} {x1 : Int32} {out : Int64 × g_S} (hf : fX3_withoutLowest σ x0 x1 = some out) : Met l yX3_withoutLowest (Cond.code yX3_withoutLowest cX3_withoutLowest 8 (some .long) :: lw_g) rmX3_withoutLowest (g_P D σ [.ref x0, .int x1]) (g_Q D out.2 (some (.long out.1))) 0 0 (g_A D) := by
  refine Met.ofW (cc := cX3_withoutLowest) (maxL := 8) (ret := (some .long)) (by decide +kernel) rfl ?_
  intro p e s m args below meth c s₁ B hml hv
  obtain ⟨rfl, hG, hK⟩ := hv
  have hts : ∀ w ∈ lw_g, w.before _ s = true := fun w h => atoms_spec (ws := (Cond.code yX3_withoutLowest cX3_withoutLowest 8 (some .long) :: lw_g)) B.pre w (List.mem_cons_of_mem _ h)
  have C : g_C RX3 cX3_withoutLowest 8 (some .long) True p s m _ meth c := ⟨B.exec, B.bytes, hml, findClass_of_methodNamed B.named, hts, B.returns, B.notSynchronized, trivial⟩
  obtain ⟨hx, hb, hml, hown, hts, hr, hlocks, hin⟩ := id C
  have hS : va_S (g_A D) s.heap s.heap [] := va_S.rf
  have hl := lv_entry ([.ref x0, .int x1]) (n := 8) (Nat.le_of_ble_eq_true rfl)
  rw [lg_entry_eq]
  generalize (lg_sl ([.ref x0, .int x1]) ++ List.replicate (8 - (lg_sl ([.ref x0, .int x1])).length) Slot.unset).toArray = ls at hl ⊢
  have hl : lv_has ls 8 [(0, .ref x0), (1, .int x1)] := hl
  unfold fX3_withoutLowest at hf
  refine lv_iload_n hx hb dX3_withoutLowest_0 rfl (lv_at hl 1 rfl) ?_
  refine lv_bipush (v := 31) hx hb dX3_withoutLowest_1 (by decide +kernel) ?_
  refine lv_idiv hx hb dX3_withoutLowest_3 (by decide) ?_
  obtain ⟨v1, ev1, hf⟩ := g_let_spec hf
  refine g_topi ev1 ?_
  refine lv_istore_n (lv' := [(2, .int v1), (0, .ref x0), (1, .int x1)]) hx hb dX3_withoutLowest_4 rfl hl (by decide) rfl (fun ls hl => ?_)
  refine lv_iload_n hx hb dX3_withoutLowest_5 rfl (lv_at hl 2 rfl) ?_
  refine lv_bipush (v := 31) hx hb dX3_withoutLowest_6 (by decide +kernel) ?_
  refine lv_irem hx hb dX3_withoutLowest_8 (by decide) ?_
  refine g_topi (y := g_irem x1 31) rfl ?_
  obtain ⟨v2, ev2, hf⟩ := g_let_spec hf
  refine g_topi ev2 ?_
  refine lv_istore_n (lv' := [(3, .int v2), (2, .int v1), (0, .ref x0), (1, .int x1)]) hx hb dX3_withoutLowest_9 rfl hl (by decide) rfl (fun ls hl => ?_)
  refine lv_aload_n hx hb dX3_withoutLowest_10 rfl (lv_at hl 2 rfl) ?_
  refine lv_iload_n hx hb dX3_withoutLowest_11 rfl (lv_at hl 1 rfl) ?_
  refine lv_iconst (v := 2) hx hb dX3_withoutLowest_12 (by decide +kernel) ?_
  refine lv_iadd hx hb dX3_withoutLowest_13 ?_
  obtain ⟨o3, ho3, hf⟩ := g_bind hf
  obtain ⟨r4, hr4, hf⟩ := g_bind hf
  refine g_callV hx hb hml hl.1 hts hown hK hG hS (As := [.int (v1 + 2)]) (rest := []) (tX3_limbAt l D hr4) vX3_limbAt mlX3_25 ho3 rfl rfl rfl rfl ⟨Nat.le_of_ble_eq_true rfl, Nat.le_of_ble_eq_true rfl⟩ rfl rfl (Nat.le_of_ble_eq_true rfl) ⟨Nat.le_of_ble_eq_true rfl, Nat.le_of_ble_eq_true rfl⟩ dX3_withoutLowest_14 (fun H locs hG hS => ?_)
  refine lv_i2l (v := r4.1.toInt64) hx hb dX3_withoutLowest_17 rfl ?_
  refine lv_bipush (v := 62) hx hb dX3_withoutLowest_18 (by decide +kernel) ?_
  refine lv_iload_n hx hb dX3_withoutLowest_20 rfl (lv_at hl 0 rfl) ?_
  refine lv_isub hx hb dX3_withoutLowest_21 ?_
  refine lv_lshl (v := g_lshl r4.1.toInt64 (62 - v2)) hx hb dX3_withoutLowest_22 rfl ?_
  obtain ⟨v5, ev5, hf⟩ := g_let_spec hf
  refine g_topl ev5 ?_
  refine lv_lstore (lv' := [(4, .long v5), (3, .int v2), (2, .int v1), (0, .ref x0), (1, .int x1)]) hx hb dX3_withoutLowest_23 hl (by decide) rfl (fun ls hl => ?_)
  refine lv_aload_n hx hb dX3_withoutLowest_25 rfl (lv_at hl 3 rfl) ?_
  refine lv_iload_n hx hb dX3_withoutLowest_26 rfl (lv_at hl 2 rfl) ?_
  refine lv_iconst (v := 1) hx hb dX3_withoutLowest_27 (by decide +kernel) ?_
  refine lv_iadd hx hb dX3_withoutLowest_28 ?_
  obtain ⟨o6, ho6, hf⟩ := g_bind hf
  obtain ⟨r7, hr7, hf⟩ := g_bind hf
  refine g_callV hx hb hml hl.1 hts hown hK hG hS (As := [.int (v1 + 1)]) (rest := []) (tX3_limbAt l D hr7) vX3_limbAt mlX3_25 ho6 rfl rfl rfl rfl ⟨Nat.le_of_ble_eq_true rfl, Nat.le_of_ble_eq_true rfl⟩ rfl rfl (Nat.le_of_ble_eq_true rfl) ⟨Nat.le_of_ble_eq_true rfl, Nat.le_of_ble_eq_true rfl⟩ dX3_withoutLowest_29 (fun H locs hG hS => ?_)
  refine lv_i2l (v := r7.1.toInt64) hx hb dX3_withoutLowest_32 rfl ?_
  refine lv_bipush (v := 31) hx hb dX3_withoutLowest_33 (by decide +kernel) ?_
  refine lv_iload_n hx hb dX3_withoutLowest_35 rfl (lv_at hl 1 rfl) ?_
  refine lv_isub hx hb dX3_withoutLowest_36 ?_
  refine lv_lshl (v := g_lshl r7.1.toInt64 (31 - v2)) hx hb dX3_withoutLowest_37 rfl ?_
  obtain ⟨v8, ev8, hf⟩ := g_let_spec hf
  refine g_topl ev8 ?_
  refine lv_lstore (lv' := [(6, .long v8), (4, .long v5), (3, .int v2), (2, .int v1), (0, .ref x0), (1, .int x1)]) hx hb dX3_withoutLowest_38 hl (by decide) rfl (fun ls hl => ?_)
  refine lv_lload hx hb dX3_withoutLowest_40 (lv_at hl 1 rfl) ?_
  refine lv_lload hx hb dX3_withoutLowest_42 (lv_at hl 0 rfl) ?_
  refine lv_lor hx hb dX3_withoutLowest_44 ?_
  refine lv_aload_n hx hb dX3_withoutLowest_45 rfl (lv_at hl 4 rfl) ?_
  refine lv_iload_n hx hb dX3_withoutLowest_46 rfl (lv_at hl 3 rfl) ?_
  obtain ⟨o9, ho9, hf⟩ := g_bind hf
  obtain ⟨r10, hr10, hf⟩ := g_bind hf
  refine g_callV hx hb hml hl.1 hts hown hK hG hS (As := [.int v1]) (rest := [.long (v5 ||| v8)]) (tX3_limbAt l D hr10) vX3_limbAt mlX3_25 ho9 rfl rfl rfl rfl ⟨Nat.le_of_ble_eq_true rfl, Nat.le_of_ble_eq_true rfl⟩ rfl rfl (Nat.le_of_ble_eq_true rfl) ⟨Nat.le_of_ble_eq_true rfl, Nat.le_of_ble_eq_true rfl⟩ dX3_withoutLowest_47 (fun H locs hG hS => ?_)
  refine lv_iload_n hx hb dX3_withoutLowest_50 rfl (lv_at hl 2 rfl) ?_
  refine lv_iushr (v := g_iushr r10.1 v2) hx hb dX3_withoutLowest_51 rfl ?_
  refine lv_i2l (v := (g_iushr r10.1 v2).toInt64) hx hb dX3_withoutLowest_52 rfl ?_
  refine lv_lor hx hb dX3_withoutLowest_53 ?_
  cases hf
  exact g_lret hx hb hr hlocks hG hS dX3_withoutLowest_54

def rmX3_becomeUnsigned : Room := { frames := 1, cells := 0, slots := 0, locals := 21 }
noncomputable def fX3_becomeUnsigned (σ : g_S) (x0 : Nat) (x1 : Int64) : Option (g_S) := (g_fr σ 3 x0 0).bind fun v1 => (g_si σ 0 v1 0 ((x1 &&& 2147483647).toInt32)).bind fun σ2 => (g_fr σ2 3 x0 0).bind fun v3 => (g_si σ2 0 v3 1 (((g_lushr x1 31) &&& 2147483647).toInt32)).bind fun σ4 => (g_fr σ4 3 x0 0).bind fun v5 => (g_si σ4 0 v5 2 ((g_lushr x1 62).toInt32)).bind fun σ6 => (g_o σ6 3 x0).bind fun o7 => (fX3_trim σ6 x0 3).bind fun r8 => some r8
set_option maxHeartbeats 4000000 in
set_option maxRecDepth 100000 in
theorem tX3_becomeUnsigned (l : Launch) (D : g_D) {σ : g_S} {x0 : Nat} {x1 : Int64} {out : g_S} (hf : fX3_becomeUnsigned σ x0 x1 = some out) : Met l yX3_becomeUnsigned (Cond.code yX3_becomeUnsigned cX3_becomeUnsigned 3 none :: lw_g) rmX3_becomeUnsigned (g_P D σ [.ref x0, .long x1]) (g_Q D out (none)) 0 0 (g_A D) := by
  refine Met.ofW (cc := cX3_becomeUnsigned) (maxL := 3) (ret := none) (by decide +kernel) rfl ?_
  intro p e s m args below meth c s₁ B hml hv
  obtain ⟨rfl, hG, hK⟩ := hv
  have hts : ∀ w ∈ lw_g, w.before _ s = true := fun w h => atoms_spec (ws := (Cond.code yX3_becomeUnsigned cX3_becomeUnsigned 3 none :: lw_g)) B.pre w (List.mem_cons_of_mem _ h)
  have C : g_C RX3 cX3_becomeUnsigned 3 none True p s m _ meth c := ⟨B.exec, B.bytes, hml, findClass_of_methodNamed B.named, hts, B.returns, B.notSynchronized, trivial⟩
  obtain ⟨hx, hb, hml, hown, hts, hr, hlocks, hin⟩ := id C
  have hS : va_S (g_A D) s.heap s.heap [] := va_S.rf
  have hl := lv_entry ([.ref x0, .long x1]) (n := 3) (Nat.le_of_ble_eq_true rfl)
  rw [lg_entry_eq]
  generalize (lg_sl ([.ref x0, .long x1]) ++ List.replicate (3 - (lg_sl ([.ref x0, .long x1])).length) Slot.unset).toArray = ls at hl ⊢
  have hl : lv_has ls 3 [(0, .ref x0), (1, .long x1)] := hl
  unfold fX3_becomeUnsigned at hf
  refine lv_aload_n hx hb dX3_becomeUnsigned_0 rfl (lv_at hl 0 rfl) ?_
  obtain ⟨v1, hv1, hf⟩ := g_bind hf
  refine g_getr hx hb hts hown hK hG hv1 rfl iX3 (by decide) flX3_15 dX3_becomeUnsigned_1 ?_
  refine lv_iconst (v := 0) hx hb dX3_becomeUnsigned_4 (by decide +kernel) ?_
  refine lv_lload_n hx hb dX3_becomeUnsigned_5 rfl (lv_at hl 1 rfl) ?_
  refine lv_ldc2 (v := 2147483647) hx hb hown (hts _ coX3_39) dX3_becomeUnsigned_6 ?_
  refine lv_land hx hb dX3_becomeUnsigned_9 ?_
  refine lv_l2i (v := (x1 &&& 2147483647).toInt32) hx hb dX3_becomeUnsigned_10 rfl ?_
  obtain ⟨σ2, hσ2, hf⟩ := g_bind hf
  refine g_iast hx hb hK hG hS hσ2 rfl dX3_becomeUnsigned_11 (fun H locs hG hS => ?_)
  refine lv_aload_n hx hb dX3_becomeUnsigned_12 rfl (lv_at hl 0 rfl) ?_
  obtain ⟨v3, hv3, hf⟩ := g_bind hf
  refine g_getr hx hb hts hown hK hG hv3 rfl iX3 (by decide) flX3_15 dX3_becomeUnsigned_13 ?_
  refine lv_iconst (v := 1) hx hb dX3_becomeUnsigned_16 (by decide +kernel) ?_
  refine lv_lload_n hx hb dX3_becomeUnsigned_17 rfl (lv_at hl 1 rfl) ?_
  refine lv_bipush (v := 31) hx hb dX3_becomeUnsigned_18 (by decide +kernel) ?_
  refine lv_lushr (v := g_lushr x1 31) hx hb dX3_becomeUnsigned_20 rfl ?_
  refine lv_ldc2 (v := 2147483647) hx hb hown (hts _ coX3_39) dX3_becomeUnsigned_21 ?_
  refine lv_land hx hb dX3_becomeUnsigned_24 ?_
  refine lv_l2i (v := ((g_lushr x1 31) &&& 2147483647).toInt32) hx hb dX3_becomeUnsigned_25 rfl ?_
  obtain ⟨σ4, hσ4, hf⟩ := g_bind hf
  refine g_iast hx hb hK hG hS hσ4 rfl dX3_becomeUnsigned_26 (fun H locs hG hS => ?_)
  refine lv_aload_n hx hb dX3_becomeUnsigned_27 rfl (lv_at hl 0 rfl) ?_
  obtain ⟨v5, hv5, hf⟩ := g_bind hf
  refine g_getr hx hb hts hown hK hG hv5 rfl iX3 (by decide) flX3_15 dX3_becomeUnsigned_28 ?_
  refine lv_iconst (v := 2) hx hb dX3_becomeUnsigned_31 (by decide +kernel) ?_
  refine lv_lload_n hx hb dX3_becomeUnsigned_32 rfl (lv_at hl 1 rfl) ?_
  refine lv_bipush (v := 62) hx hb dX3_becomeUnsigned_33 (by decide +kernel) ?_
  refine lv_lushr (v := g_lushr x1 62) hx hb dX3_becomeUnsigned_35 rfl ?_
  refine lv_l2i (v := (g_lushr x1 62).toInt32) hx hb dX3_becomeUnsigned_36 rfl ?_
  obtain ⟨σ6, hσ6, hf⟩ := g_bind hf
  refine g_iast hx hb hK hG hS hσ6 rfl dX3_becomeUnsigned_37 (fun H locs hG hS => ?_)
  refine lv_aload_n hx hb dX3_becomeUnsigned_38 rfl (lv_at hl 0 rfl) ?_
  refine lv_iconst (v := 3) hx hb dX3_becomeUnsigned_39 (by decide +kernel) ?_
  obtain ⟨o7, ho7, hf⟩ := g_bind hf
  obtain ⟨r8, hr8, hf⟩ := g_bind hf
  refine g_callV hx hb hml hl.1 hts hown hK hG hS (As := [.int 3]) (rest := []) (tX3_trim l D hr8) vX3_trim mlX3_41 ho7 rfl rfl rfl rfl ⟨Nat.le_of_ble_eq_true rfl, Nat.le_of_ble_eq_true rfl⟩ rfl rfl (Nat.le_of_ble_eq_true rfl) ⟨Nat.le_of_ble_eq_true rfl, Nat.le_of_ble_eq_true rfl⟩ dX3_becomeUnsigned_40 (fun H locs hG hS => ?_)
  cases hf
  exact g_vret hx hb hr hlocks hG hS dX3_becomeUnsigned_43

def rmX3_toLong : Room := { frames := 1, cells := 0, slots := 0, locals := 21 }
noncomputable def fX3_toLong (σ : g_S) (x0 : Nat) : Option (Int64 × g_S) := (g_o σ 3 x0).bind fun o1 => (fX3_limbAt σ x0 1).bind fun r2 => (g_o r2.2 3 x0).bind fun o3 => (fX3_limbAt r2.2 x0 0).bind fun r4 => some ((g_lshl r2.1.toInt64 31) ||| r4.1.toInt64, r4.2)
set_option maxHeartbeats 4000000 in
set_option maxRecDepth 100000 in
theorem tX3_toLong (l : Launch) (D : g_D) {σ : g_S} {x0 : Nat} {out : Int64 × g_S} (hf : fX3_toLong σ x0 = some out) : Met l yX3_toLong (Cond.code yX3_toLong cX3_toLong 1 (some .long) :: lw_g) rmX3_toLong (g_P D σ [.ref x0]) (g_Q D out.2 (some (.long out.1))) 0 0 (g_A D) := by
  refine Met.ofW (cc := cX3_toLong) (maxL := 1) (ret := (some .long)) (by decide +kernel) rfl ?_
  intro p e s m args below meth c s₁ B hml hv
  obtain ⟨rfl, hG, hK⟩ := hv
  have hts : ∀ w ∈ lw_g, w.before _ s = true := fun w h => atoms_spec (ws := (Cond.code yX3_toLong cX3_toLong 1 (some .long) :: lw_g)) B.pre w (List.mem_cons_of_mem _ h)
  have C : g_C RX3 cX3_toLong 1 (some .long) True p s m _ meth c := ⟨B.exec, B.bytes, hml, findClass_of_methodNamed B.named, hts, B.returns, B.notSynchronized, trivial⟩
  obtain ⟨hx, hb, hml, hown, hts, hr, hlocks, hin⟩ := id C
  have hS : va_S (g_A D) s.heap s.heap [] := va_S.rf
  have hl := lv_entry ([.ref x0]) (n := 1) (Nat.le_of_ble_eq_true rfl)
  rw [lg_entry_eq]
  generalize (lg_sl ([.ref x0]) ++ List.replicate (1 - (lg_sl ([.ref x0])).length) Slot.unset).toArray = ls at hl ⊢
  have hl : lv_has ls 1 [(0, .ref x0)] := hl
  unfold fX3_toLong at hf
  refine lv_aload_n hx hb dX3_toLong_0 rfl (lv_at hl 0 rfl) ?_
  refine lv_iconst (v := 1) hx hb dX3_toLong_1 (by decide +kernel) ?_
  obtain ⟨o1, ho1, hf⟩ := g_bind hf
  obtain ⟨r2, hr2, hf⟩ := g_bind hf
  refine g_callV hx hb hml hl.1 hts hown hK hG hS (As := [.int 1]) (rest := []) (tX3_limbAt l D hr2) vX3_limbAt mlX3_25 ho1 rfl rfl rfl rfl ⟨Nat.le_of_ble_eq_true rfl, Nat.le_of_ble_eq_true rfl⟩ rfl rfl (Nat.le_of_ble_eq_true rfl) ⟨Nat.le_of_ble_eq_true rfl, Nat.le_of_ble_eq_true rfl⟩ dX3_toLong_2 (fun H locs hG hS => ?_)
  refine lv_i2l (v := r2.1.toInt64) hx hb dX3_toLong_5 rfl ?_
  refine lv_bipush (v := 31) hx hb dX3_toLong_6 (by decide +kernel) ?_
  refine lv_lshl (v := g_lshl r2.1.toInt64 31) hx hb dX3_toLong_8 rfl ?_
  refine lv_aload_n hx hb dX3_toLong_9 rfl (lv_at hl 0 rfl) ?_
  refine lv_iconst (v := 0) hx hb dX3_toLong_10 (by decide +kernel) ?_
  obtain ⟨o3, ho3, hf⟩ := g_bind hf
  obtain ⟨r4, hr4, hf⟩ := g_bind hf
  refine g_callV hx hb hml hl.1 hts hown hK hG hS (As := [.int 0]) (rest := [.long (g_lshl r2.1.toInt64 31)]) (tX3_limbAt l D hr4) vX3_limbAt mlX3_25 ho3 rfl rfl rfl rfl ⟨Nat.le_of_ble_eq_true rfl, Nat.le_of_ble_eq_true rfl⟩ rfl rfl (Nat.le_of_ble_eq_true rfl) ⟨Nat.le_of_ble_eq_true rfl, Nat.le_of_ble_eq_true rfl⟩ dX3_toLong_11 (fun H locs hG hS => ?_)
  refine lv_i2l (v := r4.1.toInt64) hx hb dX3_toLong_14 rfl ?_
  refine lv_lor hx hb dX3_toLong_15 ?_
  cases hf
  exact g_lret hx hb hr hlocks hG hS dX3_toLong_16

def rmX3_become : Room := { frames := 1, cells := 0, slots := 0, locals := 40 }
noncomputable def fX3_become (σ : g_S) (x0 : Nat) (x1 : Nat) : Option (g_S) := (g_fr σ 3 x1 0).bind fun v1 => (g_fr σ 3 x0 0).bind fun v2 => (g_fi σ 3 x1 1).bind fun v3 => (g_cp σ 0 v1 0 v2 0 v3).bind fun σ4 => (g_fi σ4 3 x1 1).bind fun v5 => (g_p σ4 3 x0 1 (.int v5)).bind fun σ6 => some σ6
set_option maxHeartbeats 4000000 in
set_option maxRecDepth 100000 in
theorem tX3_become (l : Launch) (D : g_D) {σ : g_S} {x0 : Nat} {x1 : Nat} {out : g_S} (hf : fX3_become σ x0 x1 = some out) : Met l yX3_become (Cond.code yX3_become cX3_become 2 none :: lw_g) rmX3_become (g_P D σ [.ref x0, .ref x1]) (g_Q D out (none)) 0 0 (g_A D) := by
  refine Met.ofW (cc := cX3_become) (maxL := 2) (ret := none) (by decide +kernel) rfl ?_
  intro p e s m args below meth c s₁ B hml hv
  obtain ⟨rfl, hG, hK⟩ := hv
  have hts : ∀ w ∈ lw_g, w.before _ s = true := fun w h => atoms_spec (ws := (Cond.code yX3_become cX3_become 2 none :: lw_g)) B.pre w (List.mem_cons_of_mem _ h)
  have C : g_C RX3 cX3_become 2 none True p s m _ meth c := ⟨B.exec, B.bytes, hml, findClass_of_methodNamed B.named, hts, B.returns, B.notSynchronized, trivial⟩
  obtain ⟨hx, hb, hml, hown, hts, hr, hlocks, hin⟩ := id C
  have hS : va_S (g_A D) s.heap s.heap [] := va_S.rf
  have hl := lv_entry ([.ref x0, .ref x1]) (n := 2) (Nat.le_of_ble_eq_true rfl)
  rw [lg_entry_eq]
  generalize (lg_sl ([.ref x0, .ref x1]) ++ List.replicate (2 - (lg_sl ([.ref x0, .ref x1])).length) Slot.unset).toArray = ls at hl ⊢
  have hl : lv_has ls 2 [(0, .ref x0), (1, .ref x1)] := hl
  unfold fX3_become at hf
  refine lv_aload_n hx hb dX3_become_0 rfl (lv_at hl 1 rfl) ?_
  obtain ⟨v1, hv1, hf⟩ := g_bind hf
  refine g_getr hx hb hts hown hK hG hv1 rfl iX3 (by decide) flX3_15 dX3_become_1 ?_
  refine lv_iconst (v := 0) hx hb dX3_become_4 (by decide +kernel) ?_
  refine lv_aload_n hx hb dX3_become_5 rfl (lv_at hl 0 rfl) ?_
  obtain ⟨v2, hv2, hf⟩ := g_bind hf
  refine g_getr hx hb hts hown hK hG hv2 rfl iX3 (by decide) flX3_15 dX3_become_6 ?_
  refine lv_iconst (v := 0) hx hb dX3_become_9 (by decide +kernel) ?_
  refine lv_aload_n hx hb dX3_become_10 rfl (lv_at hl 1 rfl) ?_
  obtain ⟨v3, hv3, hf⟩ := g_bind hf
  refine g_geti hx hb hts hown hK hG hv3 rfl iX3 (by decide) flX3_21 dX3_become_11 ?_
  obtain ⟨σ4, hσ4, hf⟩ := g_bind hf
  refine g_copy hx hb (hml.trans hl.1.symm) hts hown hK hG hS hσ4 rfl ac_lX3_33 ac_n ac_s ac_i (Nat.le_of_ble_eq_true rfl) (Nat.le_of_ble_eq_true rfl) dX3_become_14 (fun H locs hG hS => ?_)
  refine lv_aload_n hx hb dX3_become_17 rfl (lv_at hl 0 rfl) ?_
  refine lv_aload_n hx hb dX3_become_18 rfl (lv_at hl 1 rfl) ?_
  obtain ⟨v5, hv5, hf⟩ := g_bind hf
  refine g_geti hx hb hts hown hK hG hv5 rfl iX3 (by decide) flX3_21 dX3_become_19 ?_
  obtain ⟨σ6, hσ6, hf⟩ := g_bind hf
  refine g_put hx hb hts hown hK hG hS hσ6 rfl iX3 tyX3 tyX3_ok nmX3 (by decide) flX3_21 rfl rfl rfl dX3_become_22 (fun H locs hG hS => ?_)
  cases hf
  exact g_vret hx hb hr hlocks hG hS dX3_become_25

def rmX3_becomeMovedUp : Room := { frames := 1, cells := 0, slots := 0, locals := 21 }
noncomputable def LX3_becomeMovedUp_5  : Nat → g_S → Nat → Nat → Int32 → Int32 → Int32 → Option (g_S)
  | 0, _, _, _, _, _, _ => none
  | n + 1, σ, x0, x1, x2, x3, x4 => (g_fi σ 3 x1 1).bind fun v1 => if v1 ≤ x4 then ((g_fr σ 3 x0 0).bind fun v3 => (g_fi σ 3 x1 1).bind fun v4 => (g_si σ 0 v3 v4 x3).bind fun σ5 => (g_fi σ5 3 x1 1).bind fun v6 => (g_o σ5 3 x0).bind fun o7 => (fX3_trim σ5 x0 (v6 + 1)).bind fun r8 => some r8) else ((g_fr σ 3 x1 0).bind fun v9 => (g_li σ 0 v9 x4).bind fun v10 => g_let ((g_lshl v10.toInt64 x2) ||| x3.toInt64) fun v11 => (g_fr σ 3 x0 0).bind fun v12 => (g_si σ 0 v12 x4 ((v11 &&& 2147483647).toInt32)).bind fun σ13 => g_let ((g_lushr v11 31).toInt32) fun v14 => g_let (x4 + 1) fun v15 => (LX3_becomeMovedUp_5  n) σ13 x0 x1 x2 v14 v15)
noncomputable def fX3_becomeMovedUp (σ : g_S) (x0 : Nat) (x1 : Nat) (x2 : Int32) : Option (g_S) := LX3_becomeMovedUp_5 g_fuel σ x0 x1 x2 0 0
set_option maxHeartbeats 4000000 in
set_option maxRecDepth 100000 in
theorem tLX3_becomeMovedUp_5 {p : Program} {l : Launch} {e : Env} {s : State} {m : MethodId} {args : Array Value} {below : List Frame} {meth : Method} {c : Code} {D : g_D} {out : g_S} (C : g_C RX3 cX3_becomeMovedUp 7 none True p s m args meth c) (hK : g_K D s)  : ∀ (n : Nat) (σ : g_S) (x0 : Nat) (x1 : Nat) (x2 : Int32) (x3 : Int32) (x4 : Int32) (H : Heap) (locs : List Loc) (ls : Array Slot), g_H D σ H → va_S (g_A D) s.heap H locs → lv_has ls 7 [(0, .ref x0), (1, .ref x1), (2, .int x2), (3, .int x3), (4, .int x4)] → LX3_becomeMovedUp_5  n σ x0 x1 x2 x3 x4 = some out → W p l e rmX3_becomeMovedUp s m args below meth c H locs 0 0 (MQ below (g_Q D out (none)) args s 0 0 (g_A D)) (F0 m 5 ls [])  := by
  obtain ⟨hx, hb, hml, hown, hts, hr, hlocks, hin⟩ := id C
  intro n
  induction n with
  | zero => intro σ x0 x1 x2 x3 x4 H locs ls hG hS hl hf; cases hf
  | succ n ih =>
    intro σ x0 x1 x2 x3 x4 H locs ls hG hS hl hf
    have hf : ((g_fi σ 3 x1 1).bind fun v1 => if v1 ≤ x4 then ((g_fr σ 3 x0 0).bind fun v3 => (g_fi σ 3 x1 1).bind fun v4 => (g_si σ 0 v3 v4 x3).bind fun σ5 => (g_fi σ5 3 x1 1).bind fun v6 => (g_o σ5 3 x0).bind fun o7 => (fX3_trim σ5 x0 (v6 + 1)).bind fun r8 => some r8) else ((g_fr σ 3 x1 0).bind fun v9 => (g_li σ 0 v9 x4).bind fun v10 => g_let ((g_lshl v10.toInt64 x2) ||| x3.toInt64) fun v11 => (g_fr σ 3 x0 0).bind fun v12 => (g_si σ 0 v12 x4 ((v11 &&& 2147483647).toInt32)).bind fun σ13 => g_let ((g_lushr v11 31).toInt32) fun v14 => g_let (x4 + 1) fun v15 => (LX3_becomeMovedUp_5  n) σ13 x0 x1 x2 v14 v15)) = some out := hf
    have hk5 := ih
    refine lv_iload hx hb dX3_becomeMovedUp_5 (lv_at hl 4 rfl) ?_
    refine lv_aload_n hx hb dX3_becomeMovedUp_7 rfl (lv_at hl 1 rfl) ?_
    obtain ⟨v1, hv1, hf⟩ := g_bind hf
    refine g_geti hx hb hts hown hK hG hv1 rfl iX3 (by decide) flX3_21 dX3_becomeMovedUp_8 ?_
    refine lv_icmp_ge (tgt := 56) hx hb dX3_becomeMovedUp_11 (by decide) (fun c2 => ?_) (fun c2 => ?_)
    · rw [if_pos c2] at hf
      refine lv_aload_n hx hb dX3_becomeMovedUp_56 rfl (lv_at hl 0 rfl) ?_
      obtain ⟨v3, hv3, hf⟩ := g_bind hf
      refine g_getr hx hb hts hown hK hG hv3 rfl iX3 (by decide) flX3_15 dX3_becomeMovedUp_57 ?_
      refine lv_aload_n hx hb dX3_becomeMovedUp_60 rfl (lv_at hl 1 rfl) ?_
      obtain ⟨v4, hv4, hf⟩ := g_bind hf
      refine g_geti hx hb hts hown hK hG hv4 rfl iX3 (by decide) flX3_21 dX3_becomeMovedUp_61 ?_
      refine lv_iload_n hx hb dX3_becomeMovedUp_64 rfl (lv_at hl 3 rfl) ?_
      obtain ⟨σ5, hσ5, hf⟩ := g_bind hf
      refine g_iast hx hb hK hG hS hσ5 rfl dX3_becomeMovedUp_65 (fun H locs hG hS => ?_)
      refine lv_aload_n hx hb dX3_becomeMovedUp_66 rfl (lv_at hl 0 rfl) ?_
      refine lv_aload_n hx hb dX3_becomeMovedUp_67 rfl (lv_at hl 1 rfl) ?_
      obtain ⟨v6, hv6, hf⟩ := g_bind hf
      refine g_geti hx hb hts hown hK hG hv6 rfl iX3 (by decide) flX3_21 dX3_becomeMovedUp_68 ?_
      refine lv_iconst (v := 1) hx hb dX3_becomeMovedUp_71 (by decide +kernel) ?_
      refine lv_iadd hx hb dX3_becomeMovedUp_72 ?_
      obtain ⟨o7, ho7, hf⟩ := g_bind hf
      obtain ⟨r8, hr8, hf⟩ := g_bind hf
      refine g_callV hx hb hml hl.1 hts hown hK hG hS (As := [.int (v6 + 1)]) (rest := []) (tX3_trim l D hr8) vX3_trim mlX3_41 ho7 rfl rfl rfl rfl ⟨Nat.le_of_ble_eq_true rfl, Nat.le_of_ble_eq_true rfl⟩ rfl rfl (Nat.le_of_ble_eq_true rfl) ⟨Nat.le_of_ble_eq_true rfl, Nat.le_of_ble_eq_true rfl⟩ dX3_becomeMovedUp_73 (fun H locs hG hS => ?_)
      cases hf
      exact g_vret hx hb hr hlocks hG hS dX3_becomeMovedUp_76
    · rw [if_neg c2] at hf
      refine lv_aload_n hx hb dX3_becomeMovedUp_14 rfl (lv_at hl 1 rfl) ?_
      obtain ⟨v9, hv9, hf⟩ := g_bind hf
      refine g_getr hx hb hts hown hK hG hv9 rfl iX3 (by decide) flX3_15 dX3_becomeMovedUp_15 ?_
      refine lv_iload hx hb dX3_becomeMovedUp_18 (lv_at hl 4 rfl) ?_
      obtain ⟨v10, hv10, hf⟩ := g_bind hf
      refine g_iald hx hb hK hG hv10 rfl dX3_becomeMovedUp_20 ?_
      refine lv_i2l (v := v10.toInt64) hx hb dX3_becomeMovedUp_21 rfl ?_
      refine lv_iload_n hx hb dX3_becomeMovedUp_22 rfl (lv_at hl 2 rfl) ?_
      refine lv_lshl (v := g_lshl v10.toInt64 x2) hx hb dX3_becomeMovedUp_23 rfl ?_
      refine lv_iload_n hx hb dX3_becomeMovedUp_24 rfl (lv_at hl 3 rfl) ?_
      refine lv_i2l (v := x3.toInt64) hx hb dX3_becomeMovedUp_25 rfl ?_
      refine lv_lor hx hb dX3_becomeMovedUp_26 ?_
      obtain ⟨v11, ev11, hf⟩ := g_let_spec hf
      refine g_topl ev11 ?_
      refine lv_lstore (lv' := [(5, .long v11), (0, .ref x0), (1, .ref x1), (2, .int x2), (3, .int x3), (4, .int x4)]) hx hb dX3_becomeMovedUp_27 hl (by decide) rfl (fun ls hl => ?_)
      refine lv_aload_n hx hb dX3_becomeMovedUp_29 rfl (lv_at hl 1 rfl) ?_
      obtain ⟨v12, hv12, hf⟩ := g_bind hf
      refine g_getr hx hb hts hown hK hG hv12 rfl iX3 (by decide) flX3_15 dX3_becomeMovedUp_30 ?_
      refine lv_iload hx hb dX3_becomeMovedUp_33 (lv_at hl 5 rfl) ?_
      refine lv_lload hx hb dX3_becomeMovedUp_35 (lv_at hl 0 rfl) ?_
      refine lv_ldc2 (v := 2147483647) hx hb hown (hts _ coX3_39) dX3_becomeMovedUp_37 ?_
      refine lv_land hx hb dX3_becomeMovedUp_40 ?_
      refine lv_l2i (v := (v11 &&& 2147483647).toInt32) hx hb dX3_becomeMovedUp_41 rfl ?_
      obtain ⟨σ13, hσ13, hf⟩ := g_bind hf
      refine g_iast hx hb hK hG hS hσ13 rfl dX3_becomeMovedUp_42 (fun H locs hG hS => ?_)
      refine lv_lload hx hb dX3_becomeMovedUp_43 (lv_at hl 0 rfl) ?_
      refine lv_bipush (v := 31) hx hb dX3_becomeMovedUp_45 (by decide +kernel) ?_
      refine lv_lushr (v := g_lushr v11 31) hx hb dX3_becomeMovedUp_47 rfl ?_
      refine lv_l2i (v := (g_lushr v11 31).toInt32) hx hb dX3_becomeMovedUp_48 rfl ?_
      obtain ⟨v14, ev14, hf⟩ := g_let_spec hf
      refine g_topi ev14 ?_
      refine lv_istore_n (lv' := [(3, .int v14), (5, .long v11), (0, .ref x0), (1, .ref x1), (2, .int x2), (4, .int x4)]) hx hb dX3_becomeMovedUp_49 rfl hl (by decide) rfl (fun ls hl => ?_)
      obtain ⟨v15, ev15, hf⟩ := g_let_spec hf
      refine lv_iinc (v := v15) (lv' := [(4, .int v15), (3, .int v14), (5, .long v11), (0, .ref x0), (1, .ref x1), (2, .int x2)]) hx hb dX3_becomeMovedUp_50 hl (k := 5) rfl (by rw [← ev15]; rfl) (by decide) rfl (fun ls hl => ?_)
      refine lv_goto (tgt := 5) hx hb dX3_becomeMovedUp_53 (by decide) ?_
      exact hk5 _ _ _ _ _ _ _ _ _ hG hS (lv_sub hl [3, 4, 5, 1, 0] rfl) hf

set_option maxHeartbeats 4000000 in
set_option maxRecDepth 100000 in
theorem tX3_becomeMovedUp (l : Launch) (D : g_D) {σ : g_S} {x0 : Nat} {x1 : Nat} {x2 : Int32} {out : g_S} (hf : fX3_becomeMovedUp σ x0 x1 x2 = some out) : Met l yX3_becomeMovedUp (Cond.code yX3_becomeMovedUp cX3_becomeMovedUp 7 none :: lw_g) rmX3_becomeMovedUp (g_P D σ [.ref x0, .ref x1, .int x2]) (g_Q D out (none)) 0 0 (g_A D) := by
  refine Met.ofW (cc := cX3_becomeMovedUp) (maxL := 7) (ret := none) (by decide +kernel) rfl ?_
  intro p e s m args below meth c s₁ B hml hv
  obtain ⟨rfl, hG, hK⟩ := hv
  have hts : ∀ w ∈ lw_g, w.before _ s = true := fun w h => atoms_spec (ws := (Cond.code yX3_becomeMovedUp cX3_becomeMovedUp 7 none :: lw_g)) B.pre w (List.mem_cons_of_mem _ h)
  have C : g_C RX3 cX3_becomeMovedUp 7 none True p s m _ meth c := ⟨B.exec, B.bytes, hml, findClass_of_methodNamed B.named, hts, B.returns, B.notSynchronized, trivial⟩
  obtain ⟨hx, hb, hml, hown, hts, hr, hlocks, hin⟩ := id C
  have hS : va_S (g_A D) s.heap s.heap [] := va_S.rf
  have hl := lv_entry ([.ref x0, .ref x1, .int x2]) (n := 7) (Nat.le_of_ble_eq_true rfl)
  rw [lg_entry_eq]
  generalize (lg_sl ([.ref x0, .ref x1, .int x2]) ++ List.replicate (7 - (lg_sl ([.ref x0, .ref x1, .int x2])).length) Slot.unset).toArray = ls at hl ⊢
  have hl : lv_has ls 7 [(0, .ref x0), (1, .ref x1), (2, .int x2)] := hl
  unfold fX3_becomeMovedUp at hf
  refine lv_iconst (v := 0) hx hb dX3_becomeMovedUp_0 (by decide +kernel) ?_
  refine lv_istore_n (lv' := [(3, .int 0), (0, .ref x0), (1, .ref x1), (2, .int x2)]) hx hb dX3_becomeMovedUp_1 rfl hl (by decide) rfl (fun ls hl => ?_)
  refine lv_iconst (v := 0) hx hb dX3_becomeMovedUp_2 (by decide +kernel) ?_
  refine lv_istore (lv' := [(4, .int 0), (3, .int 0), (0, .ref x0), (1, .ref x1), (2, .int x2)]) hx hb dX3_becomeMovedUp_3 hl (by decide) rfl (fun ls hl => ?_)
  exact tLX3_becomeMovedUp_5 C hK  g_fuel _ _ _ _ _ _ _ _ _ hG hS (lv_sub hl [2, 3, 4, 1, 0] rfl) hf

def rmX3_divideBy : Room := { frames := 1, cells := 0, slots := 0, locals := 21 }
noncomputable def LX3_divideBy_16  : Nat → g_S → Nat → Int32 → Int64 → Int32 → Option (Int32 × g_S)
  | 0, _, _, _, _, _ => none
  | n + 1, σ, x0, x1, x2, x4 => if x4 < 0 then ((g_fi σ 3 x0 1).bind fun v5 => (g_o σ 3 x0).bind fun o6 => (fX3_trim σ x0 v5).bind fun r7 => some (x2.toInt32, r7)) else ((g_fr σ 3 x0 0).bind fun v8 => (g_li σ 0 v8 x4).bind fun v9 => g_let ((g_lshl x2 31) ||| v9.toInt64) fun v10 => g_if (¬ x1.toInt64 = 0) <| g_let (v10 / x1.toInt64) fun v12 => (g_fr σ 3 x0 0).bind fun v13 => (g_si σ 0 v13 x4 v12.toInt32).bind fun σ14 => g_let (v10 - (v12 * x1.toInt64)) fun v15 => g_let (x4 + (-1)) fun v16 => (LX3_divideBy_16  n) σ14 x0 x1 v15 v16)
noncomputable def fX3_divideBy (σ : g_S) (x0 : Nat) (x1 : Int32) : Option (Int32 × g_S) := if 0 < x1 then ((g_fi σ 3 x0 1).bind fun v2 => g_let (v2 - 1) fun v3 => LX3_divideBy_16 g_fuel σ x0 x1 0 v3) else (some (0, σ))
set_option maxHeartbeats 4000000 in
set_option maxRecDepth 100000 in
theorem tLX3_divideBy_16 {p : Program} {l : Launch} {e : Env} {s : State} {m : MethodId} {args : Array Value} {below : List Frame} {meth : Method} {c : Code} {D : g_D} {out : Int32 × g_S} (C : g_C RX3 cX3_divideBy 9 (some .int) True p s m args meth c) (hK : g_K D s)  : ∀ (n : Nat) (σ : g_S) (x0 : Nat) (x1 : Int32) (x2 : Int64) (x4 : Int32) (H : Heap) (locs : List Loc) (ls : Array Slot), g_H D σ H → va_S (g_A D) s.heap H locs → lv_has ls 9 [(0, .ref x0), (1, .int x1), (2, .long x2), (4, .int x4)] → LX3_divideBy_16  n σ x0 x1 x2 x4 = some out → W p l e rmX3_divideBy s m args below meth c H locs 0 0 (MQ below (g_Q D out.2 (some (.int out.1))) args s 0 0 (g_A D)) (F0 m 16 ls [])  := by
  obtain ⟨hx, hb, hml, hown, hts, hr, hlocks, hin⟩ := id C
  intro n
  induction n with
  | zero => intro σ x0 x1 x2 x4 H locs ls hG hS hl hf; cases hf
  | succ n ih =>
    intro σ x0 x1 x2 x4 H locs ls hG hS hl hf
    have hf : (if x4 < 0 then ((g_fi σ 3 x0 1).bind fun v5 => (g_o σ 3 x0).bind fun o6 => (fX3_trim σ x0 v5).bind fun r7 => some (x2.toInt32, r7)) else ((g_fr σ 3 x0 0).bind fun v8 => (g_li σ 0 v8 x4).bind fun v9 => g_let ((g_lshl x2 31) ||| v9.toInt64) fun v10 => g_if (¬ x1.toInt64 = 0) <| g_let (v10 / x1.toInt64) fun v12 => (g_fr σ 3 x0 0).bind fun v13 => (g_si σ 0 v13 x4 v12.toInt32).bind fun σ14 => g_let (v10 - (v12 * x1.toInt64)) fun v15 => g_let (x4 + (-1)) fun v16 => (LX3_divideBy_16  n) σ14 x0 x1 v15 v16)) = some out := hf
    have hk16 := ih
    refine lv_iload hx hb dX3_divideBy_16 (lv_at hl 3 rfl) ?_
    refine lv_if_lt (tgt := 68) hx hb dX3_divideBy_18 (by decide) (fun c4 => ?_) (fun c4 => ?_)
    · rw [if_pos c4] at hf
      refine lv_aload_n hx hb dX3_divideBy_68 rfl (lv_at hl 0 rfl) ?_
      refine lv_aload_n hx hb dX3_divideBy_69 rfl (lv_at hl 0 rfl) ?_
      obtain ⟨v5, hv5, hf⟩ := g_bind hf
      refine g_geti hx hb hts hown hK hG hv5 rfl iX3 (by decide) flX3_21 dX3_divideBy_70 ?_
      obtain ⟨o6, ho6, hf⟩ := g_bind hf
      obtain ⟨r7, hr7, hf⟩ := g_bind hf
      refine g_callV hx hb hml hl.1 hts hown hK hG hS (As := [.int v5]) (rest := []) (tX3_trim l D hr7) vX3_trim mlX3_41 ho6 rfl rfl rfl rfl ⟨Nat.le_of_ble_eq_true rfl, Nat.le_of_ble_eq_true rfl⟩ rfl rfl (Nat.le_of_ble_eq_true rfl) ⟨Nat.le_of_ble_eq_true rfl, Nat.le_of_ble_eq_true rfl⟩ dX3_divideBy_73 (fun H locs hG hS => ?_)
      refine lv_lload_n hx hb dX3_divideBy_76 rfl (lv_at hl 2 rfl) ?_
      refine lv_l2i (v := x2.toInt32) hx hb dX3_divideBy_77 rfl ?_
      cases hf
      exact g_iret hx hb hr hlocks hG hS dX3_divideBy_78
    · rw [if_neg c4] at hf
      refine lv_lload_n hx hb dX3_divideBy_21 rfl (lv_at hl 2 rfl) ?_
      refine lv_bipush (v := 31) hx hb dX3_divideBy_22 (by decide +kernel) ?_
      refine lv_lshl (v := g_lshl x2 31) hx hb dX3_divideBy_24 rfl ?_
      refine lv_aload_n hx hb dX3_divideBy_25 rfl (lv_at hl 0 rfl) ?_
      obtain ⟨v8, hv8, hf⟩ := g_bind hf
      refine g_getr hx hb hts hown hK hG hv8 rfl iX3 (by decide) flX3_15 dX3_divideBy_26 ?_
      refine lv_iload hx hb dX3_divideBy_29 (lv_at hl 3 rfl) ?_
      obtain ⟨v9, hv9, hf⟩ := g_bind hf
      refine g_iald hx hb hK hG hv9 rfl dX3_divideBy_31 ?_
      refine lv_i2l (v := v9.toInt64) hx hb dX3_divideBy_32 rfl ?_
      refine lv_lor hx hb dX3_divideBy_33 ?_
      obtain ⟨v10, ev10, hf⟩ := g_let_spec hf
      refine g_topl ev10 ?_
      refine lv_lstore (lv' := [(5, .long v10), (0, .ref x0), (1, .int x1), (2, .long x2), (4, .int x4)]) hx hb dX3_divideBy_34 hl (by decide) rfl (fun ls hl => ?_)
      refine lv_lload hx hb dX3_divideBy_36 (lv_at hl 0 rfl) ?_
      refine lv_iload_n hx hb dX3_divideBy_38 rfl (lv_at hl 2 rfl) ?_
      refine lv_i2l (v := x1.toInt64) hx hb dX3_divideBy_39 rfl ?_
      obtain ⟨h11, hf⟩ := g_if_spec hf
      refine lv_ldiv hx hb dX3_divideBy_40 h11 ?_
      obtain ⟨v12, ev12, hf⟩ := g_let_spec hf
      refine g_topl ev12 ?_
      refine lv_lstore (lv' := [(7, .long v12), (5, .long v10), (0, .ref x0), (1, .int x1), (2, .long x2), (4, .int x4)]) hx hb dX3_divideBy_41 hl (by decide) rfl (fun ls hl => ?_)
      refine lv_aload_n hx hb dX3_divideBy_43 rfl (lv_at hl 2 rfl) ?_
      obtain ⟨v13, hv13, hf⟩ := g_bind hf
      refine g_getr hx hb hts hown hK hG hv13 rfl iX3 (by decide) flX3_15 dX3_divideBy_44 ?_
      refine lv_iload hx hb dX3_divideBy_47 (lv_at hl 5 rfl) ?_
      refine lv_lload hx hb dX3_divideBy_49 (lv_at hl 0 rfl) ?_
      refine lv_l2i (v := v12.toInt32) hx hb dX3_divideBy_51 rfl ?_
      obtain ⟨σ14, hσ14, hf⟩ := g_bind hf
      refine g_iast hx hb hK hG hS hσ14 rfl dX3_divideBy_52 (fun H locs hG hS => ?_)
      refine lv_lload hx hb dX3_divideBy_53 (lv_at hl 1 rfl) ?_
      refine lv_lload hx hb dX3_divideBy_55 (lv_at hl 0 rfl) ?_
      refine lv_iload_n hx hb dX3_divideBy_57 rfl (lv_at hl 3 rfl) ?_
      refine lv_i2l (v := x1.toInt64) hx hb dX3_divideBy_58 rfl ?_
      refine lv_lmul hx hb dX3_divideBy_59 ?_
      refine lv_lsub hx hb dX3_divideBy_60 ?_
      obtain ⟨v15, ev15, hf⟩ := g_let_spec hf
      refine g_topl ev15 ?_
      refine lv_lstore_n (lv' := [(2, .long v15), (7, .long v12), (5, .long v10), (0, .ref x0), (1, .int x1), (4, .int x4)]) hx hb dX3_divideBy_61 rfl hl (by decide) rfl (fun ls hl => ?_)
      obtain ⟨v16, ev16, hf⟩ := g_let_spec hf
      refine lv_iinc (v := v16) (lv' := [(4, .int v16), (2, .long v15), (7, .long v12), (5, .long v10), (0, .ref x0), (1, .int x1)]) hx hb dX3_divideBy_62 hl (k := 5) rfl (by rw [← ev16]; rfl) (by decide) rfl (fun ls hl => ?_)
      refine lv_goto (tgt := 16) hx hb dX3_divideBy_65 (by decide) ?_
      exact hk16 _ _ _ _ _ _ _ _ hG hS (lv_sub hl [4, 5, 1, 0] rfl) hf

set_option maxHeartbeats 4000000 in
set_option maxRecDepth 100000 in
theorem tX3_divideBy (l : Launch) (D : g_D) {σ : g_S} {x0 : Nat} {x1 : Int32} {out : Int32 × g_S} (hf : fX3_divideBy σ x0 x1 = some out) : Met l yX3_divideBy (Cond.code yX3_divideBy cX3_divideBy 9 (some .int) :: lw_g) rmX3_divideBy (g_P D σ [.ref x0, .int x1]) (g_Q D out.2 (some (.int out.1))) 0 0 (g_A D) := by
  refine Met.ofW (cc := cX3_divideBy) (maxL := 9) (ret := (some .int)) (by decide +kernel) rfl ?_
  intro p e s m args below meth c s₁ B hml hv
  obtain ⟨rfl, hG, hK⟩ := hv
  have hts : ∀ w ∈ lw_g, w.before _ s = true := fun w h => atoms_spec (ws := (Cond.code yX3_divideBy cX3_divideBy 9 (some .int) :: lw_g)) B.pre w (List.mem_cons_of_mem _ h)
  have C : g_C RX3 cX3_divideBy 9 (some .int) True p s m _ meth c := ⟨B.exec, B.bytes, hml, findClass_of_methodNamed B.named, hts, B.returns, B.notSynchronized, trivial⟩
  obtain ⟨hx, hb, hml, hown, hts, hr, hlocks, hin⟩ := id C
  have hS : va_S (g_A D) s.heap s.heap [] := va_S.rf
  have hl := lv_entry ([.ref x0, .int x1]) (n := 9) (Nat.le_of_ble_eq_true rfl)
  rw [lg_entry_eq]
  generalize (lg_sl ([.ref x0, .int x1]) ++ List.replicate (9 - (lg_sl ([.ref x0, .int x1])).length) Slot.unset).toArray = ls at hl ⊢
  have hl : lv_has ls 9 [(0, .ref x0), (1, .int x1)] := hl
  unfold fX3_divideBy at hf
  refine lv_iload_n hx hb dX3_divideBy_0 rfl (lv_at hl 1 rfl) ?_
  refine lv_if_gt (tgt := 6) hx hb dX3_divideBy_1 (by decide) (fun c1 => ?_) (fun c1 => ?_)
  · rw [if_pos c1] at hf
    refine lv_lconst (v := 0) hx hb dX3_divideBy_6 (by decide +kernel) ?_
    refine lv_lstore_n (lv' := [(2, .long 0), (0, .ref x0), (1, .int x1)]) hx hb dX3_divideBy_7 rfl hl (by decide) rfl (fun ls hl => ?_)
    refine lv_aload_n hx hb dX3_divideBy_8 rfl (lv_at hl 1 rfl) ?_
    obtain ⟨v2, hv2, hf⟩ := g_bind hf
    refine g_geti hx hb hts hown hK hG hv2 rfl iX3 (by decide) flX3_21 dX3_divideBy_9 ?_
    refine lv_iconst (v := 1) hx hb dX3_divideBy_12 (by decide +kernel) ?_
    refine lv_isub hx hb dX3_divideBy_13 ?_
    obtain ⟨v3, ev3, hf⟩ := g_let_spec hf
    refine g_topi ev3 ?_
    refine lv_istore (lv' := [(4, .int v3), (2, .long 0), (0, .ref x0), (1, .int x1)]) hx hb dX3_divideBy_14 hl (by decide) rfl (fun ls hl => ?_)
    exact tLX3_divideBy_16 C hK  g_fuel _ _ _ _ _ _ _ _ hG hS (lv_sub hl [2, 3, 1, 0] rfl) hf
  · rw [if_neg c1] at hf
    refine lv_iconst (v := 0) hx hb dX3_divideBy_4 (by decide +kernel) ?_
    cases hf
    exact g_iret hx hb hr hlocks hG hS dX3_divideBy_5

def rmX3_isZero : Room := { frames := 0, cells := 0, slots := 0, locals := 0 }
noncomputable def BX3_isZero_12  (σ : g_S) (y0 : Int32) : Option (Int32 × g_S) := g_if (y0 = 0 ∨ y0 = 1) <| some (y0, σ)
noncomputable def fX3_isZero (σ : g_S) (x0 : Nat) : Option (Int32 × g_S) := (g_fi σ 3 x0 1).bind fun v1 => if v1 = 0 then (BX3_isZero_12 σ 1) else (BX3_isZero_12 σ 0)
set_option maxHeartbeats 4000000 in
set_option maxRecDepth 100000 in
theorem tBX3_isZero_12 {p : Program} {l : Launch} {e : Env} {s : State} {m : MethodId} {args : Array Value} {below : List Frame} {meth : Method} {c : Code} {D : g_D} {out : Int32 × g_S} (C : g_C RX3 cX3_isZero 1 (some .boolean) True p s m args meth c) (hK : g_K D s)  : ∀ (σ : g_S) (y0 : Int32) (H : Heap) (locs : List Loc) (ls : Array Slot), g_H D σ H → va_S (g_A D) s.heap H locs → lv_has ls 1 [] → BX3_isZero_12  σ y0 = some out → W p l e rmX3_isZero s m args below meth c H locs 0 0 (MQ below (g_Q D out.2 (some (.int out.1))) args s 0 0 (g_A D)) (F0 m 12 ls [.int y0]) := by
  obtain ⟨hx, hb, hml, hown, hts, hr, hlocks, hin⟩ := id C
  intro σ y0 H locs ls hG hS hl hf
  unfold BX3_isZero_12 at hf
  obtain ⟨z3, hf⟩ := g_if_spec hf
  cases hf
  exact g_zret hx hb hr hlocks z3 hG hS dX3_isZero_12

set_option maxHeartbeats 4000000 in
set_option maxRecDepth 100000 in
theorem tX3_isZero (l : Launch) (D : g_D) {σ : g_S} {x0 : Nat} {out : Int32 × g_S} (hf : fX3_isZero σ x0 = some out) : Met l yX3_isZero (Cond.code yX3_isZero cX3_isZero 1 (some .boolean) :: lw_g) rmX3_isZero (g_P D σ [.ref x0]) (g_Q D out.2 (some (.int out.1))) 0 0 (g_A D) := by
  refine Met.ofW (cc := cX3_isZero) (maxL := 1) (ret := (some .boolean)) (by decide +kernel) rfl ?_
  intro p e s m args below meth c s₁ B hml hv
  obtain ⟨rfl, hG, hK⟩ := hv
  have hts : ∀ w ∈ lw_g, w.before _ s = true := fun w h => atoms_spec (ws := (Cond.code yX3_isZero cX3_isZero 1 (some .boolean) :: lw_g)) B.pre w (List.mem_cons_of_mem _ h)
  have C : g_C RX3 cX3_isZero 1 (some .boolean) True p s m _ meth c := ⟨B.exec, B.bytes, hml, findClass_of_methodNamed B.named, hts, B.returns, B.notSynchronized, trivial⟩
  obtain ⟨hx, hb, hml, hown, hts, hr, hlocks, hin⟩ := id C
  have hS : va_S (g_A D) s.heap s.heap [] := va_S.rf
  have hl := lv_entry ([.ref x0]) (n := 1) (Nat.le_of_ble_eq_true rfl)
  rw [lg_entry_eq]
  generalize (lg_sl ([.ref x0]) ++ List.replicate (1 - (lg_sl ([.ref x0])).length) Slot.unset).toArray = ls at hl ⊢
  have hl : lv_has ls 1 [(0, .ref x0)] := hl
  unfold fX3_isZero at hf
  refine lv_aload_n hx hb dX3_isZero_0 rfl (lv_at hl 0 rfl) ?_
  obtain ⟨v1, hv1, hf⟩ := g_bind hf
  refine g_geti hx hb hts hown hK hG hv1 rfl iX3 (by decide) flX3_21 dX3_isZero_1 ?_
  refine lv_if_ne (tgt := 11) hx hb dX3_isZero_4 (by decide) (fun c2 => ?_) (fun c2 => ?_)
  · rw [if_neg c2] at hf
    refine lv_iconst (v := 0) hx hb dX3_isZero_11 (by decide +kernel) ?_
    exact tBX3_isZero_12 C hK   _ _ _ _ _ hG hS (lv_sub hl [] rfl) hf
  · rw [if_pos c2] at hf
    refine lv_iconst (v := 1) hx hb dX3_isZero_7 (by decide +kernel) ?_
    refine lv_goto (tgt := 12) hx hb dX3_isZero_8 (by decide) ?_
    exact tBX3_isZero_12 C hK   _ _ _ _ _ hG hS (lv_sub hl [] rfl) hf

def rmX3_moveDown : Room := { frames := 1, cells := 0, slots := 0, locals := 21 }
noncomputable def LX3_moveDown_2  : Nat → g_S → Nat → Int32 → Int32 → Option (g_S)
  | 0, _, _, _, _ => none
  | n + 1, σ, x0, x1, x2 => (g_fi σ 3 x0 1).bind fun v1 => if v1 ≤ x2 then ((g_fi σ 3 x0 1).bind fun v3 => (g_o σ 3 x0).bind fun o4 => (fX3_trim σ x0 v3).bind fun r5 => some r5) else ((g_o σ 3 x0).bind fun o6 => (fX3_limbAt σ x0 (x2 + 1)).bind fun r7 => g_let (g_ishl r7.1 (31 - x1)) fun v8 => (g_fr r7.2 3 x0 0).bind fun v9 => (g_fr r7.2 3 x0 0).bind fun v10 => (g_li r7.2 0 v10 x2).bind fun v11 => (g_si r7.2 0 v9 x2 (((g_iushr v11 x1) ||| v8) &&& 2147483647)).bind fun σ12 => g_let (x2 + 1) fun v13 => (LX3_moveDown_2  n) σ12 x0 x1 v13)
noncomputable def fX3_moveDown (σ : g_S) (x0 : Nat) (x1 : Int32) : Option (g_S) := LX3_moveDown_2 g_fuel σ x0 x1 0
set_option maxHeartbeats 4000000 in
set_option maxRecDepth 100000 in
theorem tLX3_moveDown_2 {p : Program} {l : Launch} {e : Env} {s : State} {m : MethodId} {args : Array Value} {below : List Frame} {meth : Method} {c : Code} {D : g_D} {out : g_S} (C : g_C RX3 cX3_moveDown 4 none True p s m args meth c) (hK : g_K D s)  : ∀ (n : Nat) (σ : g_S) (x0 : Nat) (x1 : Int32) (x2 : Int32) (H : Heap) (locs : List Loc) (ls : Array Slot), g_H D σ H → va_S (g_A D) s.heap H locs → lv_has ls 4 [(0, .ref x0), (1, .int x1), (2, .int x2)] → LX3_moveDown_2  n σ x0 x1 x2 = some out → W p l e rmX3_moveDown s m args below meth c H locs 0 0 (MQ below (g_Q D out (none)) args s 0 0 (g_A D)) (F0 m 2 ls [])  := by
  obtain ⟨hx, hb, hml, hown, hts, hr, hlocks, hin⟩ := id C
  intro n
  induction n with
  | zero => intro σ x0 x1 x2 H locs ls hG hS hl hf; cases hf
  | succ n ih =>
    intro σ x0 x1 x2 H locs ls hG hS hl hf
    have hf : ((g_fi σ 3 x0 1).bind fun v1 => if v1 ≤ x2 then ((g_fi σ 3 x0 1).bind fun v3 => (g_o σ 3 x0).bind fun o4 => (fX3_trim σ x0 v3).bind fun r5 => some r5) else ((g_o σ 3 x0).bind fun o6 => (fX3_limbAt σ x0 (x2 + 1)).bind fun r7 => g_let (g_ishl r7.1 (31 - x1)) fun v8 => (g_fr r7.2 3 x0 0).bind fun v9 => (g_fr r7.2 3 x0 0).bind fun v10 => (g_li r7.2 0 v10 x2).bind fun v11 => (g_si r7.2 0 v9 x2 (((g_iushr v11 x1) ||| v8) &&& 2147483647)).bind fun σ12 => g_let (x2 + 1) fun v13 => (LX3_moveDown_2  n) σ12 x0 x1 v13)) = some out := hf
    have hk2 := ih
    refine lv_iload_n hx hb dX3_moveDown_2 rfl (lv_at hl 2 rfl) ?_
    refine lv_aload_n hx hb dX3_moveDown_3 rfl (lv_at hl 0 rfl) ?_
    obtain ⟨v1, hv1, hf⟩ := g_bind hf
    refine g_geti hx hb hts hown hK hG hv1 rfl iX3 (by decide) flX3_21 dX3_moveDown_4 ?_
    refine lv_icmp_ge (tgt := 48) hx hb dX3_moveDown_7 (by decide) (fun c2 => ?_) (fun c2 => ?_)
    · rw [if_pos c2] at hf
      refine lv_aload_n hx hb dX3_moveDown_48 rfl (lv_at hl 0 rfl) ?_
      refine lv_aload_n hx hb dX3_moveDown_49 rfl (lv_at hl 0 rfl) ?_
      obtain ⟨v3, hv3, hf⟩ := g_bind hf
      refine g_geti hx hb hts hown hK hG hv3 rfl iX3 (by decide) flX3_21 dX3_moveDown_50 ?_
      obtain ⟨o4, ho4, hf⟩ := g_bind hf
      obtain ⟨r5, hr5, hf⟩ := g_bind hf
      refine g_callV hx hb hml hl.1 hts hown hK hG hS (As := [.int v3]) (rest := []) (tX3_trim l D hr5) vX3_trim mlX3_41 ho4 rfl rfl rfl rfl ⟨Nat.le_of_ble_eq_true rfl, Nat.le_of_ble_eq_true rfl⟩ rfl rfl (Nat.le_of_ble_eq_true rfl) ⟨Nat.le_of_ble_eq_true rfl, Nat.le_of_ble_eq_true rfl⟩ dX3_moveDown_53 (fun H locs hG hS => ?_)
      cases hf
      exact g_vret hx hb hr hlocks hG hS dX3_moveDown_56
    · rw [if_neg c2] at hf
      refine lv_aload_n hx hb dX3_moveDown_10 rfl (lv_at hl 0 rfl) ?_
      refine lv_iload_n hx hb dX3_moveDown_11 rfl (lv_at hl 2 rfl) ?_
      refine lv_iconst (v := 1) hx hb dX3_moveDown_12 (by decide +kernel) ?_
      refine lv_iadd hx hb dX3_moveDown_13 ?_
      obtain ⟨o6, ho6, hf⟩ := g_bind hf
      obtain ⟨r7, hr7, hf⟩ := g_bind hf
      refine g_callV hx hb hml hl.1 hts hown hK hG hS (As := [.int (x2 + 1)]) (rest := []) (tX3_limbAt l D hr7) vX3_limbAt mlX3_25 ho6 rfl rfl rfl rfl ⟨Nat.le_of_ble_eq_true rfl, Nat.le_of_ble_eq_true rfl⟩ rfl rfl (Nat.le_of_ble_eq_true rfl) ⟨Nat.le_of_ble_eq_true rfl, Nat.le_of_ble_eq_true rfl⟩ dX3_moveDown_14 (fun H locs hG hS => ?_)
      refine lv_bipush (v := 31) hx hb dX3_moveDown_17 (by decide +kernel) ?_
      refine lv_iload_n hx hb dX3_moveDown_19 rfl (lv_at hl 1 rfl) ?_
      refine lv_isub hx hb dX3_moveDown_20 ?_
      refine lv_ishl hx hb dX3_moveDown_21 ?_
      refine g_topi (y := g_ishl r7.1 (31 - x1)) rfl ?_
      obtain ⟨v8, ev8, hf⟩ := g_let_spec hf
      refine g_topi ev8 ?_
      refine lv_istore_n (lv' := [(3, .int v8), (0, .ref x0), (1, .int x1), (2, .int x2)]) hx hb dX3_moveDown_22 rfl hl (by decide) rfl (fun ls hl => ?_)
      refine lv_aload_n hx hb dX3_moveDown_23 rfl (lv_at hl 1 rfl) ?_
      obtain ⟨v9, hv9, hf⟩ := g_bind hf
      refine g_getr hx hb hts hown hK hG hv9 rfl iX3 (by decide) flX3_15 dX3_moveDown_24 ?_
      refine lv_iload_n hx hb dX3_moveDown_27 rfl (lv_at hl 3 rfl) ?_
      refine lv_aload_n hx hb dX3_moveDown_28 rfl (lv_at hl 1 rfl) ?_
      obtain ⟨v10, hv10, hf⟩ := g_bind hf
      refine g_getr hx hb hts hown hK hG hv10 rfl iX3 (by decide) flX3_15 dX3_moveDown_29 ?_
      refine lv_iload_n hx hb dX3_moveDown_32 rfl (lv_at hl 3 rfl) ?_
      obtain ⟨v11, hv11, hf⟩ := g_bind hf
      refine g_iald hx hb hK hG hv11 rfl dX3_moveDown_33 ?_
      refine lv_iload_n hx hb dX3_moveDown_34 rfl (lv_at hl 2 rfl) ?_
      refine lv_iushr (v := g_iushr v11 x1) hx hb dX3_moveDown_35 rfl ?_
      refine lv_iload_n hx hb dX3_moveDown_36 rfl (lv_at hl 0 rfl) ?_
      refine lv_ior hx hb dX3_moveDown_37 ?_
      refine lv_ldc (v := 2147483647) hx hb hown (hts _ coX3_45) dX3_moveDown_38 ?_
      refine lv_iand hx hb dX3_moveDown_40 ?_
      obtain ⟨σ12, hσ12, hf⟩ := g_bind hf
      refine g_iast hx hb hK hG hS hσ12 rfl dX3_moveDown_41 (fun H locs hG hS => ?_)
      obtain ⟨v13, ev13, hf⟩ := g_let_spec hf
      refine lv_iinc (v := v13) (lv' := [(2, .int v13), (3, .int v8), (0, .ref x0), (1, .int x1)]) hx hb dX3_moveDown_42 hl (k := 3) rfl (by rw [← ev13]; rfl) (by decide) rfl (fun ls hl => ?_)
      refine lv_goto (tgt := 2) hx hb dX3_moveDown_45 (by decide) ?_
      exact hk2 _ _ _ _ _ _ _ hG hS (lv_sub hl [2, 3, 0] rfl) hf

set_option maxHeartbeats 4000000 in
set_option maxRecDepth 100000 in
theorem tX3_moveDown (l : Launch) (D : g_D) {σ : g_S} {x0 : Nat} {x1 : Int32} {out : g_S} (hf : fX3_moveDown σ x0 x1 = some out) : Met l yX3_moveDown (Cond.code yX3_moveDown cX3_moveDown 4 none :: lw_g) rmX3_moveDown (g_P D σ [.ref x0, .int x1]) (g_Q D out (none)) 0 0 (g_A D) := by
  refine Met.ofW (cc := cX3_moveDown) (maxL := 4) (ret := none) (by decide +kernel) rfl ?_
  intro p e s m args below meth c s₁ B hml hv
  obtain ⟨rfl, hG, hK⟩ := hv
  have hts : ∀ w ∈ lw_g, w.before _ s = true := fun w h => atoms_spec (ws := (Cond.code yX3_moveDown cX3_moveDown 4 none :: lw_g)) B.pre w (List.mem_cons_of_mem _ h)
  have C : g_C RX3 cX3_moveDown 4 none True p s m _ meth c := ⟨B.exec, B.bytes, hml, findClass_of_methodNamed B.named, hts, B.returns, B.notSynchronized, trivial⟩
  obtain ⟨hx, hb, hml, hown, hts, hr, hlocks, hin⟩ := id C
  have hS : va_S (g_A D) s.heap s.heap [] := va_S.rf
  have hl := lv_entry ([.ref x0, .int x1]) (n := 4) (Nat.le_of_ble_eq_true rfl)
  rw [lg_entry_eq]
  generalize (lg_sl ([.ref x0, .int x1]) ++ List.replicate (4 - (lg_sl ([.ref x0, .int x1])).length) Slot.unset).toArray = ls at hl ⊢
  have hl : lv_has ls 4 [(0, .ref x0), (1, .int x1)] := hl
  unfold fX3_moveDown at hf
  refine lv_iconst (v := 0) hx hb dX3_moveDown_0 (by decide +kernel) ?_
  refine lv_istore_n (lv' := [(2, .int 0), (0, .ref x0), (1, .int x1)]) hx hb dX3_moveDown_1 rfl hl (by decide) rfl (fun ls hl => ?_)
  exact tLX3_moveDown_2 C hK  g_fuel _ _ _ _ _ _ _ hG hS (lv_sub hl [1, 2, 0] rfl) hf

def rmX3_order : Room := { frames := 0, cells := 0, slots := 0, locals := 0 }
noncomputable def BX3_order_74  (σ : g_S) (y0 : Int32) : Option (Int32 × g_S) := some (y0, σ)
noncomputable def LX3_order_35  : Nat → g_S → Nat → Nat → Int32 → Option (Int32 × g_S)
  | 0, _, _, _, _ => none
  | n + 1, σ, x0, x1, x2 => if x2 < 0 then (some (0, σ)) else ((g_fr σ 3 x0 0).bind fun v7 => (g_li σ 0 v7 x2).bind fun v8 => (g_fr σ 3 x1 0).bind fun v9 => (g_li σ 0 v9 x2).bind fun v10 => if v8 = v10 then (g_let (x2 + (-1)) fun v12 => (LX3_order_35  n) σ x0 x1 v12) else ((g_fr σ 3 x0 0).bind fun v13 => (g_li σ 0 v13 x2).bind fun v14 => (g_fr σ 3 x1 0).bind fun v15 => (g_li σ 0 v15 x2).bind fun v16 => if v16 ≤ v14 then (BX3_order_74 σ 1) else (BX3_order_74 σ (-1))))
noncomputable def BX3_order_27  (σ : g_S) (y0 : Int32) : Option (Int32 × g_S) := some (y0, σ)
noncomputable def fX3_order (σ : g_S) (x0 : Nat) (x1 : Nat) : Option (Int32 × g_S) := (g_fi σ 3 x0 1).bind fun v1 => (g_fi σ 3 x1 1).bind fun v2 => if v1 = v2 then ((g_fi σ 3 x0 1).bind fun v4 => g_let (v4 - 1) fun v5 => LX3_order_35 g_fuel σ x0 x1 v5) else ((g_fi σ 3 x0 1).bind fun v18 => (g_fi σ 3 x1 1).bind fun v19 => if v19 ≤ v18 then (BX3_order_27 σ 1) else (BX3_order_27 σ (-1)))
set_option maxHeartbeats 4000000 in
set_option maxRecDepth 100000 in
theorem tBX3_order_74 {p : Program} {l : Launch} {e : Env} {s : State} {m : MethodId} {args : Array Value} {below : List Frame} {meth : Method} {c : Code} {D : g_D} {out : Int32 × g_S} (C : g_C RX3 cX3_order 3 (some .int) True p s m args meth c) (hK : g_K D s)  : ∀ (σ : g_S) (y0 : Int32) (H : Heap) (locs : List Loc) (ls : Array Slot), g_H D σ H → va_S (g_A D) s.heap H locs → lv_has ls 3 [] → BX3_order_74  σ y0 = some out → W p l e rmX3_order s m args below meth c H locs 0 0 (MQ below (g_Q D out.2 (some (.int out.1))) args s 0 0 (g_A D)) (F0 m 74 ls [.int y0]) := by
  obtain ⟨hx, hb, hml, hown, hts, hr, hlocks, hin⟩ := id C
  intro σ y0 H locs ls hG hS hl hf
  unfold BX3_order_74 at hf
  cases hf
  exact g_iret hx hb hr hlocks hG hS dX3_order_74

set_option maxHeartbeats 4000000 in
set_option maxRecDepth 100000 in
theorem tLX3_order_35 {p : Program} {l : Launch} {e : Env} {s : State} {m : MethodId} {args : Array Value} {below : List Frame} {meth : Method} {c : Code} {D : g_D} {out : Int32 × g_S} (C : g_C RX3 cX3_order 3 (some .int) True p s m args meth c) (hK : g_K D s)  : ∀ (n : Nat) (σ : g_S) (x0 : Nat) (x1 : Nat) (x2 : Int32) (H : Heap) (locs : List Loc) (ls : Array Slot), g_H D σ H → va_S (g_A D) s.heap H locs → lv_has ls 3 [(0, .ref x0), (1, .ref x1), (2, .int x2)] → LX3_order_35  n σ x0 x1 x2 = some out → W p l e rmX3_order s m args below meth c H locs 0 0 (MQ below (g_Q D out.2 (some (.int out.1))) args s 0 0 (g_A D)) (F0 m 35 ls [])  := by
  obtain ⟨hx, hb, hml, hown, hts, hr, hlocks, hin⟩ := id C
  intro n
  induction n with
  | zero => intro σ x0 x1 x2 H locs ls hG hS hl hf; cases hf
  | succ n ih =>
    intro σ x0 x1 x2 H locs ls hG hS hl hf
    have hf : (if x2 < 0 then (some (0, σ)) else ((g_fr σ 3 x0 0).bind fun v7 => (g_li σ 0 v7 x2).bind fun v8 => (g_fr σ 3 x1 0).bind fun v9 => (g_li σ 0 v9 x2).bind fun v10 => if v8 = v10 then (g_let (x2 + (-1)) fun v12 => (LX3_order_35  n) σ x0 x1 v12) else ((g_fr σ 3 x0 0).bind fun v13 => (g_li σ 0 v13 x2).bind fun v14 => (g_fr σ 3 x1 0).bind fun v15 => (g_li σ 0 v15 x2).bind fun v16 => if v16 ≤ v14 then (BX3_order_74 σ 1) else (BX3_order_74 σ (-1))))) = some out := hf
    have hk35 := ih
    refine lv_iload_n hx hb dX3_order_35 rfl (lv_at hl 2 rfl) ?_
    refine lv_if_lt (tgt := 81) hx hb dX3_order_36 (by decide) (fun c6 => ?_) (fun c6 => ?_)
    · rw [if_pos c6] at hf
      refine lv_iconst (v := 0) hx hb dX3_order_81 (by decide +kernel) ?_
      cases hf
      exact g_iret hx hb hr hlocks hG hS dX3_order_82
    · rw [if_neg c6] at hf
      refine lv_aload_n hx hb dX3_order_39 rfl (lv_at hl 0 rfl) ?_
      obtain ⟨v7, hv7, hf⟩ := g_bind hf
      refine g_getr hx hb hts hown hK hG hv7 rfl iX3 (by decide) flX3_15 dX3_order_40 ?_
      refine lv_iload_n hx hb dX3_order_43 rfl (lv_at hl 2 rfl) ?_
      obtain ⟨v8, hv8, hf⟩ := g_bind hf
      refine g_iald hx hb hK hG hv8 rfl dX3_order_44 ?_
      refine lv_aload_n hx hb dX3_order_45 rfl (lv_at hl 1 rfl) ?_
      obtain ⟨v9, hv9, hf⟩ := g_bind hf
      refine g_getr hx hb hts hown hK hG hv9 rfl iX3 (by decide) flX3_15 dX3_order_46 ?_
      refine lv_iload_n hx hb dX3_order_49 rfl (lv_at hl 2 rfl) ?_
      obtain ⟨v10, hv10, hf⟩ := g_bind hf
      refine g_iald hx hb hK hG hv10 rfl dX3_order_50 ?_
      refine lv_icmp_eq (tgt := 75) hx hb dX3_order_51 (by decide) (fun c11 => ?_) (fun c11 => ?_)
      · rw [if_pos c11] at hf
        obtain ⟨v12, ev12, hf⟩ := g_let_spec hf
        refine lv_iinc (v := v12) (lv' := [(2, .int v12), (0, .ref x0), (1, .ref x1)]) hx hb dX3_order_75 hl (k := 2) rfl (by rw [← ev12]; rfl) (by decide) rfl (fun ls hl => ?_)
        refine lv_goto (tgt := 35) hx hb dX3_order_78 (by decide) ?_
        exact hk35 _ _ _ _ _ _ _ hG hS (lv_sub hl [1, 2, 0] rfl) hf
      · rw [if_neg c11] at hf
        refine lv_aload_n hx hb dX3_order_54 rfl (lv_at hl 0 rfl) ?_
        obtain ⟨v13, hv13, hf⟩ := g_bind hf
        refine g_getr hx hb hts hown hK hG hv13 rfl iX3 (by decide) flX3_15 dX3_order_55 ?_
        refine lv_iload_n hx hb dX3_order_58 rfl (lv_at hl 2 rfl) ?_
        obtain ⟨v14, hv14, hf⟩ := g_bind hf
        refine g_iald hx hb hK hG hv14 rfl dX3_order_59 ?_
        refine lv_aload_n hx hb dX3_order_60 rfl (lv_at hl 1 rfl) ?_
        obtain ⟨v15, hv15, hf⟩ := g_bind hf
        refine g_getr hx hb hts hown hK hG hv15 rfl iX3 (by decide) flX3_15 dX3_order_61 ?_
        refine lv_iload_n hx hb dX3_order_64 rfl (lv_at hl 2 rfl) ?_
        obtain ⟨v16, hv16, hf⟩ := g_bind hf
        refine g_iald hx hb hK hG hv16 rfl dX3_order_65 ?_
        refine lv_icmp_ge (tgt := 73) hx hb dX3_order_66 (by decide) (fun c17 => ?_) (fun c17 => ?_)
        · rw [if_pos c17] at hf
          refine lv_iconst (v := 1) hx hb dX3_order_73 (by decide +kernel) ?_
          exact tBX3_order_74 C hK   _ _ _ _ _ hG hS (lv_sub hl [] rfl) hf
        · rw [if_neg c17] at hf
          refine lv_iconst (v := (-1)) hx hb dX3_order_69 (by decide +kernel) ?_
          refine lv_goto (tgt := 74) hx hb dX3_order_70 (by decide) ?_
          exact tBX3_order_74 C hK   _ _ _ _ _ hG hS (lv_sub hl [] rfl) hf

set_option maxHeartbeats 4000000 in
set_option maxRecDepth 100000 in
theorem tBX3_order_27 {p : Program} {l : Launch} {e : Env} {s : State} {m : MethodId} {args : Array Value} {below : List Frame} {meth : Method} {c : Code} {D : g_D} {out : Int32 × g_S} (C : g_C RX3 cX3_order 3 (some .int) True p s m args meth c) (hK : g_K D s)  : ∀ (σ : g_S) (y0 : Int32) (H : Heap) (locs : List Loc) (ls : Array Slot), g_H D σ H → va_S (g_A D) s.heap H locs → lv_has ls 3 [] → BX3_order_27  σ y0 = some out → W p l e rmX3_order s m args below meth c H locs 0 0 (MQ below (g_Q D out.2 (some (.int out.1))) args s 0 0 (g_A D)) (F0 m 27 ls [.int y0]) := by
  obtain ⟨hx, hb, hml, hown, hts, hr, hlocks, hin⟩ := id C
  intro σ y0 H locs ls hG hS hl hf
  unfold BX3_order_27 at hf
  cases hf
  exact g_iret hx hb hr hlocks hG hS dX3_order_27

set_option maxHeartbeats 4000000 in
set_option maxRecDepth 100000 in
theorem tX3_order (l : Launch) (D : g_D) {σ : g_S} {x0 : Nat} {x1 : Nat} {out : Int32 × g_S} (hf : fX3_order σ x0 x1 = some out) : Met l yX3_order (Cond.code yX3_order cX3_order 3 (some .int) :: lw_g) rmX3_order (g_P D σ [.ref x0, .ref x1]) (g_Q D out.2 (some (.int out.1))) 0 0 (g_A D) := by
  refine Met.ofW (cc := cX3_order) (maxL := 3) (ret := (some .int)) (by decide +kernel) rfl ?_
  intro p e s m args below meth c s₁ B hml hv
  obtain ⟨rfl, hG, hK⟩ := hv
  have hts : ∀ w ∈ lw_g, w.before _ s = true := fun w h => atoms_spec (ws := (Cond.code yX3_order cX3_order 3 (some .int) :: lw_g)) B.pre w (List.mem_cons_of_mem _ h)
  have C : g_C RX3 cX3_order 3 (some .int) True p s m _ meth c := ⟨B.exec, B.bytes, hml, findClass_of_methodNamed B.named, hts, B.returns, B.notSynchronized, trivial⟩
  obtain ⟨hx, hb, hml, hown, hts, hr, hlocks, hin⟩ := id C
  have hS : va_S (g_A D) s.heap s.heap [] := va_S.rf
  have hl := lv_entry ([.ref x0, .ref x1]) (n := 3) (Nat.le_of_ble_eq_true rfl)
  rw [lg_entry_eq]
  generalize (lg_sl ([.ref x0, .ref x1]) ++ List.replicate (3 - (lg_sl ([.ref x0, .ref x1])).length) Slot.unset).toArray = ls at hl ⊢
  have hl : lv_has ls 3 [(0, .ref x0), (1, .ref x1)] := hl
  unfold fX3_order at hf
  refine lv_aload_n hx hb dX3_order_0 rfl (lv_at hl 0 rfl) ?_
  obtain ⟨v1, hv1, hf⟩ := g_bind hf
  refine g_geti hx hb hts hown hK hG hv1 rfl iX3 (by decide) flX3_21 dX3_order_1 ?_
  refine lv_aload_n hx hb dX3_order_4 rfl (lv_at hl 1 rfl) ?_
  obtain ⟨v2, hv2, hf⟩ := g_bind hf
  refine g_geti hx hb hts hown hK hG hv2 rfl iX3 (by decide) flX3_21 dX3_order_5 ?_
  refine lv_icmp_eq (tgt := 28) hx hb dX3_order_8 (by decide) (fun c3 => ?_) (fun c3 => ?_)
  · rw [if_pos c3] at hf
    refine lv_aload_n hx hb dX3_order_28 rfl (lv_at hl 0 rfl) ?_
    obtain ⟨v4, hv4, hf⟩ := g_bind hf
    refine g_geti hx hb hts hown hK hG hv4 rfl iX3 (by decide) flX3_21 dX3_order_29 ?_
    refine lv_iconst (v := 1) hx hb dX3_order_32 (by decide +kernel) ?_
    refine lv_isub hx hb dX3_order_33 ?_
    obtain ⟨v5, ev5, hf⟩ := g_let_spec hf
    refine g_topi ev5 ?_
    refine lv_istore_n (lv' := [(2, .int v5), (0, .ref x0), (1, .ref x1)]) hx hb dX3_order_34 rfl hl (by decide) rfl (fun ls hl => ?_)
    exact tLX3_order_35 C hK  g_fuel _ _ _ _ _ _ _ hG hS (lv_sub hl [1, 2, 0] rfl) hf
  · rw [if_neg c3] at hf
    refine lv_aload_n hx hb dX3_order_11 rfl (lv_at hl 0 rfl) ?_
    obtain ⟨v18, hv18, hf⟩ := g_bind hf
    refine g_geti hx hb hts hown hK hG hv18 rfl iX3 (by decide) flX3_21 dX3_order_12 ?_
    refine lv_aload_n hx hb dX3_order_15 rfl (lv_at hl 1 rfl) ?_
    obtain ⟨v19, hv19, hf⟩ := g_bind hf
    refine g_geti hx hb hts hown hK hG hv19 rfl iX3 (by decide) flX3_21 dX3_order_16 ?_
    refine lv_icmp_ge (tgt := 26) hx hb dX3_order_19 (by decide) (fun c20 => ?_) (fun c20 => ?_)
    · rw [if_pos c20] at hf
      refine lv_iconst (v := 1) hx hb dX3_order_26 (by decide +kernel) ?_
      exact tBX3_order_27 C hK   _ _ _ _ _ hG hS (lv_sub hl [] rfl) hf
    · rw [if_neg c20] at hf
      refine lv_iconst (v := (-1)) hx hb dX3_order_22 (by decide +kernel) ?_
      refine lv_goto (tgt := 27) hx hb dX3_order_23 (by decide) ?_
      exact tBX3_order_27 C hK   _ _ _ _ _ hG hS (lv_sub hl [] rfl) hf

def rmX3_isOne : Room := { frames := 0, cells := 0, slots := 0, locals := 0 }
noncomputable def BX3_isOne_23  (σ : g_S) (y0 : Int32) : Option (Int32 × g_S) := g_if (y0 = 0 ∨ y0 = 1) <| some (y0, σ)
noncomputable def BX3_isOne_22  (σ : g_S)  : Option (Int32 × g_S) := BX3_isOne_23 σ 0
noncomputable def fX3_isOne (σ : g_S) (x0 : Nat) : Option (Int32 × g_S) := (g_fi σ 3 x0 1).bind fun v1 => if v1 = 1 then ((g_fr σ 3 x0 0).bind fun v4 => (g_li σ 0 v4 0).bind fun v5 => if v5 = 1 then (BX3_isOne_23 σ 1) else (BX3_isOne_22 σ)) else (BX3_isOne_22 σ)
set_option maxHeartbeats 4000000 in
set_option maxRecDepth 100000 in
theorem tBX3_isOne_23 {p : Program} {l : Launch} {e : Env} {s : State} {m : MethodId} {args : Array Value} {below : List Frame} {meth : Method} {c : Code} {D : g_D} {out : Int32 × g_S} (C : g_C RX3 cX3_isOne 1 (some .boolean) True p s m args meth c) (hK : g_K D s)  : ∀ (σ : g_S) (y0 : Int32) (H : Heap) (locs : List Loc) (ls : Array Slot), g_H D σ H → va_S (g_A D) s.heap H locs → lv_has ls 1 [] → BX3_isOne_23  σ y0 = some out → W p l e rmX3_isOne s m args below meth c H locs 0 0 (MQ below (g_Q D out.2 (some (.int out.1))) args s 0 0 (g_A D)) (F0 m 23 ls [.int y0]) := by
  obtain ⟨hx, hb, hml, hown, hts, hr, hlocks, hin⟩ := id C
  intro σ y0 H locs ls hG hS hl hf
  unfold BX3_isOne_23 at hf
  obtain ⟨z3, hf⟩ := g_if_spec hf
  cases hf
  exact g_zret hx hb hr hlocks z3 hG hS dX3_isOne_23

set_option maxHeartbeats 4000000 in
set_option maxRecDepth 100000 in
theorem tBX3_isOne_22 {p : Program} {l : Launch} {e : Env} {s : State} {m : MethodId} {args : Array Value} {below : List Frame} {meth : Method} {c : Code} {D : g_D} {out : Int32 × g_S} (C : g_C RX3 cX3_isOne 1 (some .boolean) True p s m args meth c) (hK : g_K D s)  : ∀ (σ : g_S)  (H : Heap) (locs : List Loc) (ls : Array Slot), g_H D σ H → va_S (g_A D) s.heap H locs → lv_has ls 1 [] → BX3_isOne_22  σ  = some out → W p l e rmX3_isOne s m args below meth c H locs 0 0 (MQ below (g_Q D out.2 (some (.int out.1))) args s 0 0 (g_A D)) (F0 m 22 ls []) := by
  obtain ⟨hx, hb, hml, hown, hts, hr, hlocks, hin⟩ := id C
  intro σ  H locs ls hG hS hl hf
  unfold BX3_isOne_22 at hf
  refine lv_iconst (v := 0) hx hb dX3_isOne_22 (by decide +kernel) ?_
  exact tBX3_isOne_23 C hK   _ _ _ _ _ hG hS (lv_sub hl [] rfl) hf

set_option maxHeartbeats 4000000 in
set_option maxRecDepth 100000 in
theorem tX3_isOne (l : Launch) (D : g_D) {σ : g_S} {x0 : Nat} {out : Int32 × g_S} (hf : fX3_isOne σ x0 = some out) : Met l yX3_isOne (Cond.code yX3_isOne cX3_isOne 1 (some .boolean) :: lw_g) rmX3_isOne (g_P D σ [.ref x0]) (g_Q D out.2 (some (.int out.1))) 0 0 (g_A D) := by
  refine Met.ofW (cc := cX3_isOne) (maxL := 1) (ret := (some .boolean)) (by decide +kernel) rfl ?_
  intro p e s m args below meth c s₁ B hml hv
  obtain ⟨rfl, hG, hK⟩ := hv
  have hts : ∀ w ∈ lw_g, w.before _ s = true := fun w h => atoms_spec (ws := (Cond.code yX3_isOne cX3_isOne 1 (some .boolean) :: lw_g)) B.pre w (List.mem_cons_of_mem _ h)
  have C : g_C RX3 cX3_isOne 1 (some .boolean) True p s m _ meth c := ⟨B.exec, B.bytes, hml, findClass_of_methodNamed B.named, hts, B.returns, B.notSynchronized, trivial⟩
  obtain ⟨hx, hb, hml, hown, hts, hr, hlocks, hin⟩ := id C
  have hS : va_S (g_A D) s.heap s.heap [] := va_S.rf
  have hl := lv_entry ([.ref x0]) (n := 1) (Nat.le_of_ble_eq_true rfl)
  rw [lg_entry_eq]
  generalize (lg_sl ([.ref x0]) ++ List.replicate (1 - (lg_sl ([.ref x0])).length) Slot.unset).toArray = ls at hl ⊢
  have hl : lv_has ls 1 [(0, .ref x0)] := hl
  unfold fX3_isOne at hf
  refine lv_aload_n hx hb dX3_isOne_0 rfl (lv_at hl 0 rfl) ?_
  obtain ⟨v1, hv1, hf⟩ := g_bind hf
  refine g_geti hx hb hts hown hK hG hv1 rfl iX3 (by decide) flX3_21 dX3_isOne_1 ?_
  refine lv_iconst (v := 1) hx hb dX3_isOne_4 (by decide +kernel) ?_
  refine lv_icmp_ne (tgt := 22) hx hb dX3_isOne_5 (by decide) (fun c2 => ?_) (fun c2 => ?_)
  · rw [if_neg c2] at hf
    exact tBX3_isOne_22 C hK   _  _ _ _ hG hS (lv_sub hl [] rfl) hf
  · rw [if_pos c2] at hf
    refine lv_aload_n hx hb dX3_isOne_8 rfl (lv_at hl 0 rfl) ?_
    obtain ⟨v4, hv4, hf⟩ := g_bind hf
    refine g_getr hx hb hts hown hK hG hv4 rfl iX3 (by decide) flX3_15 dX3_isOne_9 ?_
    refine lv_iconst (v := 0) hx hb dX3_isOne_12 (by decide +kernel) ?_
    obtain ⟨v5, hv5, hf⟩ := g_bind hf
    refine g_iald hx hb hK hG hv5 rfl dX3_isOne_13 ?_
    refine lv_iconst (v := 1) hx hb dX3_isOne_14 (by decide +kernel) ?_
    refine lv_icmp_ne (tgt := 22) hx hb dX3_isOne_15 (by decide) (fun c6 => ?_) (fun c6 => ?_)
    · rw [if_neg c6] at hf
      exact tBX3_isOne_22 C hK   _  _ _ _ hG hS (lv_sub hl [] rfl) hf
    · rw [if_pos c6] at hf
      refine lv_iconst (v := 1) hx hb dX3_isOne_18 (by decide +kernel) ?_
      refine lv_goto (tgt := 23) hx hb dX3_isOne_19 (by decide) ?_
      exact tBX3_isOne_23 C hK   _ _ _ _ _ hG hS (lv_sub hl [] rfl) hf

def rmX3_fits : Room := { frames := 1, cells := 0, slots := 0, locals := 22 }
noncomputable def BX3_fits_15  (σ : g_S) (y0 : Int32) : Option (Int32 × g_S) := g_if (y0 = 0 ∨ y0 = 1) <| some (y0, σ)
noncomputable def fX3_fits (σ : g_S) (x0 : Nat) : Option (Int32 × g_S) := (g_o σ 3 x0).bind fun o1 => (fX3_bitLength σ x0).bind fun r2 => if 2048 < r2.1 then (BX3_fits_15 r2.2 0) else (BX3_fits_15 r2.2 1)
set_option maxHeartbeats 4000000 in
set_option maxRecDepth 100000 in
theorem tBX3_fits_15 {p : Program} {l : Launch} {e : Env} {s : State} {m : MethodId} {args : Array Value} {below : List Frame} {meth : Method} {c : Code} {D : g_D} {out : Int32 × g_S} (C : g_C RX3 cX3_fits 1 (some .boolean) True p s m args meth c) (hK : g_K D s)  : ∀ (σ : g_S) (y0 : Int32) (H : Heap) (locs : List Loc) (ls : Array Slot), g_H D σ H → va_S (g_A D) s.heap H locs → lv_has ls 1 [] → BX3_fits_15  σ y0 = some out → W p l e rmX3_fits s m args below meth c H locs 0 0 (MQ below (g_Q D out.2 (some (.int out.1))) args s 0 0 (g_A D)) (F0 m 15 ls [.int y0]) := by
  obtain ⟨hx, hb, hml, hown, hts, hr, hlocks, hin⟩ := id C
  intro σ y0 H locs ls hG hS hl hf
  unfold BX3_fits_15 at hf
  obtain ⟨z4, hf⟩ := g_if_spec hf
  cases hf
  exact g_zret hx hb hr hlocks z4 hG hS dX3_fits_15

set_option maxHeartbeats 4000000 in
set_option maxRecDepth 100000 in
theorem tX3_fits (l : Launch) (D : g_D) {σ : g_S} {x0 : Nat} {out : Int32 × g_S} (hf : fX3_fits σ x0 = some out) : Met l yX3_fits (Cond.code yX3_fits cX3_fits 1 (some .boolean) :: lw_g) rmX3_fits (g_P D σ [.ref x0]) (g_Q D out.2 (some (.int out.1))) 0 0 (g_A D) := by
  refine Met.ofW (cc := cX3_fits) (maxL := 1) (ret := (some .boolean)) (by decide +kernel) rfl ?_
  intro p e s m args below meth c s₁ B hml hv
  obtain ⟨rfl, hG, hK⟩ := hv
  have hts : ∀ w ∈ lw_g, w.before _ s = true := fun w h => atoms_spec (ws := (Cond.code yX3_fits cX3_fits 1 (some .boolean) :: lw_g)) B.pre w (List.mem_cons_of_mem _ h)
  have C : g_C RX3 cX3_fits 1 (some .boolean) True p s m _ meth c := ⟨B.exec, B.bytes, hml, findClass_of_methodNamed B.named, hts, B.returns, B.notSynchronized, trivial⟩
  obtain ⟨hx, hb, hml, hown, hts, hr, hlocks, hin⟩ := id C
  have hS : va_S (g_A D) s.heap s.heap [] := va_S.rf
  have hl := lv_entry ([.ref x0]) (n := 1) (Nat.le_of_ble_eq_true rfl)
  rw [lg_entry_eq]
  generalize (lg_sl ([.ref x0]) ++ List.replicate (1 - (lg_sl ([.ref x0])).length) Slot.unset).toArray = ls at hl ⊢
  have hl : lv_has ls 1 [(0, .ref x0)] := hl
  unfold fX3_fits at hf
  refine lv_aload_n hx hb dX3_fits_0 rfl (lv_at hl 0 rfl) ?_
  obtain ⟨o1, ho1, hf⟩ := g_bind hf
  obtain ⟨r2, hr2, hf⟩ := g_bind hf
  refine g_callV hx hb hml hl.1 hts hown hK hG hS (As := []) (rest := []) (tX3_bitLength l D hr2) vX3_bitLength mlX3_29 ho1 rfl rfl rfl rfl ⟨Nat.le_of_ble_eq_true rfl, Nat.le_of_ble_eq_true rfl⟩ rfl rfl (Nat.le_of_ble_eq_true rfl) ⟨Nat.le_of_ble_eq_true rfl, Nat.le_of_ble_eq_true rfl⟩ dX3_fits_1 (fun H locs hG hS => ?_)
  refine lv_sipush (v := 2048) hx hb dX3_fits_4 (by decide +kernel) ?_
  refine lv_icmp_gt (tgt := 14) hx hb dX3_fits_7 (by decide) (fun c3 => ?_) (fun c3 => ?_)
  · rw [if_pos c3] at hf
    refine lv_iconst (v := 0) hx hb dX3_fits_14 (by decide +kernel) ?_
    exact tBX3_fits_15 C hK   _ _ _ _ _ hG hS (lv_sub hl [] rfl) hf
  · rw [if_neg c3] at hf
    refine lv_iconst (v := 1) hx hb dX3_fits_10 (by decide +kernel) ?_
    refine lv_goto (tgt := 15) hx hb dX3_fits_11 (by decide) ?_
    exact tBX3_fits_15 C hK   _ _ _ _ _ hG hS (lv_sub hl [] rfl) hf

def rmX3_isOdd : Room := { frames := 1, cells := 0, slots := 0, locals := 21 }
noncomputable def BX3_isOdd_16  (σ : g_S) (y0 : Int32) : Option (Int32 × g_S) := g_if (y0 = 0 ∨ y0 = 1) <| some (y0, σ)
noncomputable def fX3_isOdd (σ : g_S) (x0 : Nat) : Option (Int32 × g_S) := (g_o σ 3 x0).bind fun o1 => (fX3_limbAt σ x0 0).bind fun r2 => if r2.1 &&& 1 = 1 then (BX3_isOdd_16 r2.2 1) else (BX3_isOdd_16 r2.2 0)
set_option maxHeartbeats 4000000 in
set_option maxRecDepth 100000 in
theorem tBX3_isOdd_16 {p : Program} {l : Launch} {e : Env} {s : State} {m : MethodId} {args : Array Value} {below : List Frame} {meth : Method} {c : Code} {D : g_D} {out : Int32 × g_S} (C : g_C RX3 cX3_isOdd 1 (some .boolean) True p s m args meth c) (hK : g_K D s)  : ∀ (σ : g_S) (y0 : Int32) (H : Heap) (locs : List Loc) (ls : Array Slot), g_H D σ H → va_S (g_A D) s.heap H locs → lv_has ls 1 [] → BX3_isOdd_16  σ y0 = some out → W p l e rmX3_isOdd s m args below meth c H locs 0 0 (MQ below (g_Q D out.2 (some (.int out.1))) args s 0 0 (g_A D)) (F0 m 16 ls [.int y0]) := by
  obtain ⟨hx, hb, hml, hown, hts, hr, hlocks, hin⟩ := id C
  intro σ y0 H locs ls hG hS hl hf
  unfold BX3_isOdd_16 at hf
  obtain ⟨z4, hf⟩ := g_if_spec hf
  cases hf
  exact g_zret hx hb hr hlocks z4 hG hS dX3_isOdd_16

set_option maxHeartbeats 4000000 in
set_option maxRecDepth 100000 in
theorem tX3_isOdd (l : Launch) (D : g_D) {σ : g_S} {x0 : Nat} {out : Int32 × g_S} (hf : fX3_isOdd σ x0 = some out) : Met l yX3_isOdd (Cond.code yX3_isOdd cX3_isOdd 1 (some .boolean) :: lw_g) rmX3_isOdd (g_P D σ [.ref x0]) (g_Q D out.2 (some (.int out.1))) 0 0 (g_A D) := by
  refine Met.ofW (cc := cX3_isOdd) (maxL := 1) (ret := (some .boolean)) (by decide +kernel) rfl ?_
  intro p e s m args below meth c s₁ B hml hv
  obtain ⟨rfl, hG, hK⟩ := hv
  have hts : ∀ w ∈ lw_g, w.before _ s = true := fun w h => atoms_spec (ws := (Cond.code yX3_isOdd cX3_isOdd 1 (some .boolean) :: lw_g)) B.pre w (List.mem_cons_of_mem _ h)
  have C : g_C RX3 cX3_isOdd 1 (some .boolean) True p s m _ meth c := ⟨B.exec, B.bytes, hml, findClass_of_methodNamed B.named, hts, B.returns, B.notSynchronized, trivial⟩
  obtain ⟨hx, hb, hml, hown, hts, hr, hlocks, hin⟩ := id C
  have hS : va_S (g_A D) s.heap s.heap [] := va_S.rf
  have hl := lv_entry ([.ref x0]) (n := 1) (Nat.le_of_ble_eq_true rfl)
  rw [lg_entry_eq]
  generalize (lg_sl ([.ref x0]) ++ List.replicate (1 - (lg_sl ([.ref x0])).length) Slot.unset).toArray = ls at hl ⊢
  have hl : lv_has ls 1 [(0, .ref x0)] := hl
  unfold fX3_isOdd at hf
  refine lv_aload_n hx hb dX3_isOdd_0 rfl (lv_at hl 0 rfl) ?_
  refine lv_iconst (v := 0) hx hb dX3_isOdd_1 (by decide +kernel) ?_
  obtain ⟨o1, ho1, hf⟩ := g_bind hf
  obtain ⟨r2, hr2, hf⟩ := g_bind hf
  refine g_callV hx hb hml hl.1 hts hown hK hG hS (As := [.int 0]) (rest := []) (tX3_limbAt l D hr2) vX3_limbAt mlX3_25 ho1 rfl rfl rfl rfl ⟨Nat.le_of_ble_eq_true rfl, Nat.le_of_ble_eq_true rfl⟩ rfl rfl (Nat.le_of_ble_eq_true rfl) ⟨Nat.le_of_ble_eq_true rfl, Nat.le_of_ble_eq_true rfl⟩ dX3_isOdd_2 (fun H locs hG hS => ?_)
  refine lv_iconst (v := 1) hx hb dX3_isOdd_5 (by decide +kernel) ?_
  refine lv_iand hx hb dX3_isOdd_6 ?_
  refine lv_iconst (v := 1) hx hb dX3_isOdd_7 (by decide +kernel) ?_
  refine lv_icmp_ne (tgt := 15) hx hb dX3_isOdd_8 (by decide) (fun c3 => ?_) (fun c3 => ?_)
  · rw [if_neg c3] at hf
    refine lv_iconst (v := 0) hx hb dX3_isOdd_15 (by decide +kernel) ?_
    exact tBX3_isOdd_16 C hK   _ _ _ _ _ hG hS (lv_sub hl [] rfl) hf
  · rw [if_pos c3] at hf
    refine lv_iconst (v := 1) hx hb dX3_isOdd_11 (by decide +kernel) ?_
    refine lv_goto (tgt := 16) hx hb dX3_isOdd_12 (by decide) ?_
    exact tBX3_isOdd_16 C hK   _ _ _ _ _ hG hS (lv_sub hl [] rfl) hf

def rmX3_becomeSum : Room := { frames := 1, cells := 0, slots := 0, locals := 21 }
noncomputable def LX3_becomeSum_18  : Nat → g_S → Nat → Nat → Nat → Int32 → Int32 → Int32 → Option (g_S)
  | 0, _, _, _, _, _, _, _ => none
  | n + 1, σ, x0, x1, x2, x3, x4, x5 => if x3 ≤ x5 then ((g_fr σ 3 x0 0).bind fun v5 => (g_si σ 0 v5 x3 x4).bind fun σ6 => (g_o σ6 3 x0).bind fun o7 => (fX3_trim σ6 x0 (x3 + 1)).bind fun r8 => some r8) else ((g_o σ 3 x1).bind fun o9 => (fX3_limbAt σ x1 x5).bind fun r10 => (g_o r10.2 3 x2).bind fun o11 => (fX3_limbAt r10.2 x2 x5).bind fun r12 => g_let ((r10.1 + r12.1) + x4) fun v13 => (g_fr r12.2 3 x0 0).bind fun v14 => (g_si r12.2 0 v14 x5 (v13 &&& 2147483647)).bind fun σ15 => g_let (g_iushr v13 31) fun v16 => g_let (x5 + 1) fun v17 => (LX3_becomeSum_18  n) σ15 x0 x1 x2 x3 v16 v17)
noncomputable def fX3_becomeSum (σ : g_S) (x0 : Nat) (x1 : Nat) (x2 : Nat) : Option (g_S) := (g_fi σ 3 x1 1).bind fun v1 => (g_fi σ 3 x2 1).bind fun v2 => (fJ9_max_7cf53 σ v1 v2).bind fun r3 => LX3_becomeSum_18 g_fuel r3.2 x0 x1 x2 r3.1 0 0
set_option maxHeartbeats 4000000 in
set_option maxRecDepth 100000 in
theorem tLX3_becomeSum_18 {p : Program} {l : Launch} {e : Env} {s : State} {m : MethodId} {args : Array Value} {below : List Frame} {meth : Method} {c : Code} {D : g_D} {out : g_S} (C : g_C RX3 cX3_becomeSum 7 none True p s m args meth c) (hK : g_K D s)  : ∀ (n : Nat) (σ : g_S) (x0 : Nat) (x1 : Nat) (x2 : Nat) (x3 : Int32) (x4 : Int32) (x5 : Int32) (H : Heap) (locs : List Loc) (ls : Array Slot), g_H D σ H → va_S (g_A D) s.heap H locs → lv_has ls 7 [(0, .ref x0), (1, .ref x1), (2, .ref x2), (3, .int x3), (4, .int x4), (5, .int x5)] → LX3_becomeSum_18  n σ x0 x1 x2 x3 x4 x5 = some out → W p l e rmX3_becomeSum s m args below meth c H locs 0 0 (MQ below (g_Q D out (none)) args s 0 0 (g_A D)) (F0 m 18 ls [])  := by
  obtain ⟨hx, hb, hml, hown, hts, hr, hlocks, hin⟩ := id C
  intro n
  induction n with
  | zero => intro σ x0 x1 x2 x3 x4 x5 H locs ls hG hS hl hf; cases hf
  | succ n ih =>
    intro σ x0 x1 x2 x3 x4 x5 H locs ls hG hS hl hf
    have hf : (if x3 ≤ x5 then ((g_fr σ 3 x0 0).bind fun v5 => (g_si σ 0 v5 x3 x4).bind fun σ6 => (g_o σ6 3 x0).bind fun o7 => (fX3_trim σ6 x0 (x3 + 1)).bind fun r8 => some r8) else ((g_o σ 3 x1).bind fun o9 => (fX3_limbAt σ x1 x5).bind fun r10 => (g_o r10.2 3 x2).bind fun o11 => (fX3_limbAt r10.2 x2 x5).bind fun r12 => g_let ((r10.1 + r12.1) + x4) fun v13 => (g_fr r12.2 3 x0 0).bind fun v14 => (g_si r12.2 0 v14 x5 (v13 &&& 2147483647)).bind fun σ15 => g_let (g_iushr v13 31) fun v16 => g_let (x5 + 1) fun v17 => (LX3_becomeSum_18  n) σ15 x0 x1 x2 x3 v16 v17)) = some out := hf
    have hk18 := ih
    refine lv_iload hx hb dX3_becomeSum_18 (lv_at hl 5 rfl) ?_
    refine lv_iload_n hx hb dX3_becomeSum_20 rfl (lv_at hl 3 rfl) ?_
    refine lv_icmp_ge (tgt := 67) hx hb dX3_becomeSum_21 (by decide) (fun c4 => ?_) (fun c4 => ?_)
    · rw [if_pos c4] at hf
      refine lv_aload_n hx hb dX3_becomeSum_67 rfl (lv_at hl 0 rfl) ?_
      obtain ⟨v5, hv5, hf⟩ := g_bind hf
      refine g_getr hx hb hts hown hK hG hv5 rfl iX3 (by decide) flX3_15 dX3_becomeSum_68 ?_
      refine lv_iload_n hx hb dX3_becomeSum_71 rfl (lv_at hl 3 rfl) ?_
      refine lv_iload hx hb dX3_becomeSum_72 (lv_at hl 4 rfl) ?_
      obtain ⟨σ6, hσ6, hf⟩ := g_bind hf
      refine g_iast hx hb hK hG hS hσ6 rfl dX3_becomeSum_74 (fun H locs hG hS => ?_)
      refine lv_aload_n hx hb dX3_becomeSum_75 rfl (lv_at hl 0 rfl) ?_
      refine lv_iload_n hx hb dX3_becomeSum_76 rfl (lv_at hl 3 rfl) ?_
      refine lv_iconst (v := 1) hx hb dX3_becomeSum_77 (by decide +kernel) ?_
      refine lv_iadd hx hb dX3_becomeSum_78 ?_
      obtain ⟨o7, ho7, hf⟩ := g_bind hf
      obtain ⟨r8, hr8, hf⟩ := g_bind hf
      refine g_callV hx hb hml hl.1 hts hown hK hG hS (As := [.int (x3 + 1)]) (rest := []) (tX3_trim l D hr8) vX3_trim mlX3_41 ho7 rfl rfl rfl rfl ⟨Nat.le_of_ble_eq_true rfl, Nat.le_of_ble_eq_true rfl⟩ rfl rfl (Nat.le_of_ble_eq_true rfl) ⟨Nat.le_of_ble_eq_true rfl, Nat.le_of_ble_eq_true rfl⟩ dX3_becomeSum_79 (fun H locs hG hS => ?_)
      cases hf
      exact g_vret hx hb hr hlocks hG hS dX3_becomeSum_82
    · rw [if_neg c4] at hf
      refine lv_aload_n hx hb dX3_becomeSum_24 rfl (lv_at hl 1 rfl) ?_
      refine lv_iload hx hb dX3_becomeSum_25 (lv_at hl 5 rfl) ?_
      obtain ⟨o9, ho9, hf⟩ := g_bind hf
      obtain ⟨r10, hr10, hf⟩ := g_bind hf
      refine g_callV hx hb hml hl.1 hts hown hK hG hS (As := [.int x5]) (rest := []) (tX3_limbAt l D hr10) vX3_limbAt mlX3_25 ho9 rfl rfl rfl rfl ⟨Nat.le_of_ble_eq_true rfl, Nat.le_of_ble_eq_true rfl⟩ rfl rfl (Nat.le_of_ble_eq_true rfl) ⟨Nat.le_of_ble_eq_true rfl, Nat.le_of_ble_eq_true rfl⟩ dX3_becomeSum_27 (fun H locs hG hS => ?_)
      refine lv_aload_n hx hb dX3_becomeSum_30 rfl (lv_at hl 2 rfl) ?_
      refine lv_iload hx hb dX3_becomeSum_31 (lv_at hl 5 rfl) ?_
      obtain ⟨o11, ho11, hf⟩ := g_bind hf
      obtain ⟨r12, hr12, hf⟩ := g_bind hf
      refine g_callV hx hb hml hl.1 hts hown hK hG hS (As := [.int x5]) (rest := [.int r10.1]) (tX3_limbAt l D hr12) vX3_limbAt mlX3_25 ho11 rfl rfl rfl rfl ⟨Nat.le_of_ble_eq_true rfl, Nat.le_of_ble_eq_true rfl⟩ rfl rfl (Nat.le_of_ble_eq_true rfl) ⟨Nat.le_of_ble_eq_true rfl, Nat.le_of_ble_eq_true rfl⟩ dX3_becomeSum_33 (fun H locs hG hS => ?_)
      refine lv_iadd hx hb dX3_becomeSum_36 ?_
      refine lv_iload hx hb dX3_becomeSum_37 (lv_at hl 4 rfl) ?_
      refine lv_iadd hx hb dX3_becomeSum_39 ?_
      obtain ⟨v13, ev13, hf⟩ := g_let_spec hf
      refine g_topi ev13 ?_
      refine lv_istore (lv' := [(6, .int v13), (0, .ref x0), (1, .ref x1), (2, .ref x2), (3, .int x3), (4, .int x4), (5, .int x5)]) hx hb dX3_becomeSum_40 hl (by decide) rfl (fun ls hl => ?_)
      refine lv_aload_n hx hb dX3_becomeSum_42 rfl (lv_at hl 1 rfl) ?_
      obtain ⟨v14, hv14, hf⟩ := g_bind hf
      refine g_getr hx hb hts hown hK hG hv14 rfl iX3 (by decide) flX3_15 dX3_becomeSum_43 ?_
      refine lv_iload hx hb dX3_becomeSum_46 (lv_at hl 6 rfl) ?_
      refine lv_iload hx hb dX3_becomeSum_48 (lv_at hl 0 rfl) ?_
      refine lv_ldc (v := 2147483647) hx hb hown (hts _ coX3_45) dX3_becomeSum_50 ?_
      refine lv_iand hx hb dX3_becomeSum_52 ?_
      obtain ⟨σ15, hσ15, hf⟩ := g_bind hf
      refine g_iast hx hb hK hG hS hσ15 rfl dX3_becomeSum_53 (fun H locs hG hS => ?_)
      refine lv_iload hx hb dX3_becomeSum_54 (lv_at hl 0 rfl) ?_
      refine lv_bipush (v := 31) hx hb dX3_becomeSum_56 (by decide +kernel) ?_
      refine lv_iushr (v := g_iushr v13 31) hx hb dX3_becomeSum_58 rfl ?_
      obtain ⟨v16, ev16, hf⟩ := g_let_spec hf
      refine g_topi ev16 ?_
      refine lv_istore (lv' := [(4, .int v16), (6, .int v13), (0, .ref x0), (1, .ref x1), (2, .ref x2), (3, .int x3), (5, .int x5)]) hx hb dX3_becomeSum_59 hl (by decide) rfl (fun ls hl => ?_)
      obtain ⟨v17, ev17, hf⟩ := g_let_spec hf
      refine lv_iinc (v := v17) (lv' := [(5, .int v17), (4, .int v16), (6, .int v13), (0, .ref x0), (1, .ref x1), (2, .ref x2), (3, .int x3)]) hx hb dX3_becomeSum_61 hl (k := 6) rfl (by rw [← ev17]; rfl) (by decide) rfl (fun ls hl => ?_)
      refine lv_goto (tgt := 18) hx hb dX3_becomeSum_64 (by decide) ?_
      exact hk18 _ _ _ _ _ _ _ _ _ _ hG hS (lv_sub hl [3, 4, 5, 6, 1, 0] rfl) hf

set_option maxHeartbeats 4000000 in
set_option maxRecDepth 100000 in
theorem tX3_becomeSum (l : Launch) (D : g_D) {σ : g_S} {x0 : Nat} {x1 : Nat} {x2 : Nat} {out : g_S} (hf : fX3_becomeSum σ x0 x1 x2 = some out) : Met l yX3_becomeSum (Cond.code yX3_becomeSum cX3_becomeSum 7 none :: lw_g) rmX3_becomeSum (g_P D σ [.ref x0, .ref x1, .ref x2]) (g_Q D out (none)) 0 0 (g_A D) := by
  refine Met.ofW (cc := cX3_becomeSum) (maxL := 7) (ret := none) (by decide +kernel) rfl ?_
  intro p e s m args below meth c s₁ B hml hv
  obtain ⟨rfl, hG, hK⟩ := hv
  have hts : ∀ w ∈ lw_g, w.before _ s = true := fun w h => atoms_spec (ws := (Cond.code yX3_becomeSum cX3_becomeSum 7 none :: lw_g)) B.pre w (List.mem_cons_of_mem _ h)
  have C : g_C RX3 cX3_becomeSum 7 none True p s m _ meth c := ⟨B.exec, B.bytes, hml, findClass_of_methodNamed B.named, hts, B.returns, B.notSynchronized, trivial⟩
  obtain ⟨hx, hb, hml, hown, hts, hr, hlocks, hin⟩ := id C
  have hS : va_S (g_A D) s.heap s.heap [] := va_S.rf
  have hl := lv_entry ([.ref x0, .ref x1, .ref x2]) (n := 7) (Nat.le_of_ble_eq_true rfl)
  rw [lg_entry_eq]
  generalize (lg_sl ([.ref x0, .ref x1, .ref x2]) ++ List.replicate (7 - (lg_sl ([.ref x0, .ref x1, .ref x2])).length) Slot.unset).toArray = ls at hl ⊢
  have hl : lv_has ls 7 [(0, .ref x0), (1, .ref x1), (2, .ref x2)] := hl
  unfold fX3_becomeSum at hf
  refine lv_aload_n hx hb dX3_becomeSum_0 rfl (lv_at hl 1 rfl) ?_
  obtain ⟨v1, hv1, hf⟩ := g_bind hf
  refine g_geti hx hb hts hown hK hG hv1 rfl iX3 (by decide) flX3_21 dX3_becomeSum_1 ?_
  refine lv_aload_n hx hb dX3_becomeSum_4 rfl (lv_at hl 2 rfl) ?_
  obtain ⟨v2, hv2, hf⟩ := g_bind hf
  refine g_geti hx hb hts hown hK hG hv2 rfl iX3 (by decide) flX3_21 dX3_becomeSum_5 ?_
  obtain ⟨r3, hr3, hf⟩ := g_bind hf
  refine g_callS hx hb hml hl.1 hts hown hK hG hS (As := [.int v1, .int v2]) (rest := []) (tJ9_max_7cf53 l D hr3) vJ9_max_7cf53 mlX3_9 rfl rfl ⟨Nat.le_of_ble_eq_true rfl, Nat.le_of_ble_eq_true rfl⟩ rfl rfl (Nat.le_of_ble_eq_true rfl) ⟨Nat.le_of_ble_eq_true rfl, Nat.le_of_ble_eq_true rfl⟩ dX3_becomeSum_8 (fun H locs hG hS => ?_)
  refine lv_istore_n (lv' := [(3, .int r3.1), (0, .ref x0), (1, .ref x1), (2, .ref x2)]) hx hb dX3_becomeSum_11 rfl hl (by decide) rfl (fun ls hl => ?_)
  refine lv_iconst (v := 0) hx hb dX3_becomeSum_12 (by decide +kernel) ?_
  refine lv_istore (lv' := [(4, .int 0), (3, .int r3.1), (0, .ref x0), (1, .ref x1), (2, .ref x2)]) hx hb dX3_becomeSum_13 hl (by decide) rfl (fun ls hl => ?_)
  refine lv_iconst (v := 0) hx hb dX3_becomeSum_15 (by decide +kernel) ?_
  refine lv_istore (lv' := [(5, .int 0), (4, .int 0), (3, .int r3.1), (0, .ref x0), (1, .ref x1), (2, .ref x2)]) hx hb dX3_becomeSum_16 hl (by decide) rfl (fun ls hl => ?_)
  exact tLX3_becomeSum_18 C hK  g_fuel _ _ _ _ _ _ _ _ _ _ hG hS (lv_sub hl [3, 4, 5, 2, 1, 0] rfl) hf

def rmX3_becomeDifference : Room := { frames := 1, cells := 0, slots := 0, locals := 21 }
noncomputable def LX3_becomeDifference_5  : Nat → g_S → Nat → Nat → Nat → Int32 → Int32 → Option (g_S)
  | 0, _, _, _, _, _, _ => none
  | n + 1, σ, x0, x1, x2, x3, x4 => (g_fi σ 3 x1 1).bind fun v1 => if v1 ≤ x4 then ((g_fi σ 3 x1 1).bind fun v3 => (g_o σ 3 x0).bind fun o4 => (fX3_trim σ x0 v3).bind fun r5 => some r5) else ((g_fr σ 3 x1 0).bind fun v6 => (g_li σ 0 v6 x4).bind fun v7 => (g_o σ 3 x2).bind fun o8 => (fX3_limbAt σ x2 x4).bind fun r9 => g_let ((v7 - r9.1) - x3) fun v10 => (g_fr r9.2 3 x0 0).bind fun v11 => (g_si r9.2 0 v11 x4 (v10 &&& 2147483647)).bind fun σ12 => g_let (g_iushr v10 31) fun v13 => g_let (x4 + 1) fun v14 => (LX3_becomeDifference_5  n) σ12 x0 x1 x2 v13 v14)
noncomputable def fX3_becomeDifference (σ : g_S) (x0 : Nat) (x1 : Nat) (x2 : Nat) : Option (g_S) := LX3_becomeDifference_5 g_fuel σ x0 x1 x2 0 0
set_option maxHeartbeats 4000000 in
set_option maxRecDepth 100000 in
theorem tLX3_becomeDifference_5 {p : Program} {l : Launch} {e : Env} {s : State} {m : MethodId} {args : Array Value} {below : List Frame} {meth : Method} {c : Code} {D : g_D} {out : g_S} (C : g_C RX3 cX3_becomeDifference 6 none True p s m args meth c) (hK : g_K D s)  : ∀ (n : Nat) (σ : g_S) (x0 : Nat) (x1 : Nat) (x2 : Nat) (x3 : Int32) (x4 : Int32) (H : Heap) (locs : List Loc) (ls : Array Slot), g_H D σ H → va_S (g_A D) s.heap H locs → lv_has ls 6 [(0, .ref x0), (1, .ref x1), (2, .ref x2), (3, .int x3), (4, .int x4)] → LX3_becomeDifference_5  n σ x0 x1 x2 x3 x4 = some out → W p l e rmX3_becomeDifference s m args below meth c H locs 0 0 (MQ below (g_Q D out (none)) args s 0 0 (g_A D)) (F0 m 5 ls [])  := by
  obtain ⟨hx, hb, hml, hown, hts, hr, hlocks, hin⟩ := id C
  intro n
  induction n with
  | zero => intro σ x0 x1 x2 x3 x4 H locs ls hG hS hl hf; cases hf
  | succ n ih =>
    intro σ x0 x1 x2 x3 x4 H locs ls hG hS hl hf
    have hf : ((g_fi σ 3 x1 1).bind fun v1 => if v1 ≤ x4 then ((g_fi σ 3 x1 1).bind fun v3 => (g_o σ 3 x0).bind fun o4 => (fX3_trim σ x0 v3).bind fun r5 => some r5) else ((g_fr σ 3 x1 0).bind fun v6 => (g_li σ 0 v6 x4).bind fun v7 => (g_o σ 3 x2).bind fun o8 => (fX3_limbAt σ x2 x4).bind fun r9 => g_let ((v7 - r9.1) - x3) fun v10 => (g_fr r9.2 3 x0 0).bind fun v11 => (g_si r9.2 0 v11 x4 (v10 &&& 2147483647)).bind fun σ12 => g_let (g_iushr v10 31) fun v13 => g_let (x4 + 1) fun v14 => (LX3_becomeDifference_5  n) σ12 x0 x1 x2 v13 v14)) = some out := hf
    have hk5 := ih
    refine lv_iload hx hb dX3_becomeDifference_5 (lv_at hl 4 rfl) ?_
    refine lv_aload_n hx hb dX3_becomeDifference_7 rfl (lv_at hl 1 rfl) ?_
    obtain ⟨v1, hv1, hf⟩ := g_bind hf
    refine g_geti hx hb hts hown hK hG hv1 rfl iX3 (by decide) flX3_21 dX3_becomeDifference_8 ?_
    refine lv_icmp_ge (tgt := 56) hx hb dX3_becomeDifference_11 (by decide) (fun c2 => ?_) (fun c2 => ?_)
    · rw [if_pos c2] at hf
      refine lv_aload_n hx hb dX3_becomeDifference_56 rfl (lv_at hl 0 rfl) ?_
      refine lv_aload_n hx hb dX3_becomeDifference_57 rfl (lv_at hl 1 rfl) ?_
      obtain ⟨v3, hv3, hf⟩ := g_bind hf
      refine g_geti hx hb hts hown hK hG hv3 rfl iX3 (by decide) flX3_21 dX3_becomeDifference_58 ?_
      obtain ⟨o4, ho4, hf⟩ := g_bind hf
      obtain ⟨r5, hr5, hf⟩ := g_bind hf
      refine g_callV hx hb hml hl.1 hts hown hK hG hS (As := [.int v3]) (rest := []) (tX3_trim l D hr5) vX3_trim mlX3_41 ho4 rfl rfl rfl rfl ⟨Nat.le_of_ble_eq_true rfl, Nat.le_of_ble_eq_true rfl⟩ rfl rfl (Nat.le_of_ble_eq_true rfl) ⟨Nat.le_of_ble_eq_true rfl, Nat.le_of_ble_eq_true rfl⟩ dX3_becomeDifference_61 (fun H locs hG hS => ?_)
      cases hf
      exact g_vret hx hb hr hlocks hG hS dX3_becomeDifference_64
    · rw [if_neg c2] at hf
      refine lv_aload_n hx hb dX3_becomeDifference_14 rfl (lv_at hl 1 rfl) ?_
      obtain ⟨v6, hv6, hf⟩ := g_bind hf
      refine g_getr hx hb hts hown hK hG hv6 rfl iX3 (by decide) flX3_15 dX3_becomeDifference_15 ?_
      refine lv_iload hx hb dX3_becomeDifference_18 (lv_at hl 4 rfl) ?_
      obtain ⟨v7, hv7, hf⟩ := g_bind hf
      refine g_iald hx hb hK hG hv7 rfl dX3_becomeDifference_20 ?_
      refine lv_aload_n hx hb dX3_becomeDifference_21 rfl (lv_at hl 2 rfl) ?_
      refine lv_iload hx hb dX3_becomeDifference_22 (lv_at hl 4 rfl) ?_
      obtain ⟨o8, ho8, hf⟩ := g_bind hf
      obtain ⟨r9, hr9, hf⟩ := g_bind hf
      refine g_callV hx hb hml hl.1 hts hown hK hG hS (As := [.int x4]) (rest := [.int v7]) (tX3_limbAt l D hr9) vX3_limbAt mlX3_25 ho8 rfl rfl rfl rfl ⟨Nat.le_of_ble_eq_true rfl, Nat.le_of_ble_eq_true rfl⟩ rfl rfl (Nat.le_of_ble_eq_true rfl) ⟨Nat.le_of_ble_eq_true rfl, Nat.le_of_ble_eq_true rfl⟩ dX3_becomeDifference_24 (fun H locs hG hS => ?_)
      refine lv_isub hx hb dX3_becomeDifference_27 ?_
      refine lv_iload_n hx hb dX3_becomeDifference_28 rfl (lv_at hl 3 rfl) ?_
      refine lv_isub hx hb dX3_becomeDifference_29 ?_
      obtain ⟨v10, ev10, hf⟩ := g_let_spec hf
      refine g_topi ev10 ?_
      refine lv_istore (lv' := [(5, .int v10), (0, .ref x0), (1, .ref x1), (2, .ref x2), (3, .int x3), (4, .int x4)]) hx hb dX3_becomeDifference_30 hl (by decide) rfl (fun ls hl => ?_)
      refine lv_aload_n hx hb dX3_becomeDifference_32 rfl (lv_at hl 1 rfl) ?_
      obtain ⟨v11, hv11, hf⟩ := g_bind hf
      refine g_getr hx hb hts hown hK hG hv11 rfl iX3 (by decide) flX3_15 dX3_becomeDifference_33 ?_
      refine lv_iload hx hb dX3_becomeDifference_36 (lv_at hl 5 rfl) ?_
      refine lv_iload hx hb dX3_becomeDifference_38 (lv_at hl 0 rfl) ?_
      refine lv_ldc (v := 2147483647) hx hb hown (hts _ coX3_45) dX3_becomeDifference_40 ?_
      refine lv_iand hx hb dX3_becomeDifference_42 ?_
      obtain ⟨σ12, hσ12, hf⟩ := g_bind hf
      refine g_iast hx hb hK hG hS hσ12 rfl dX3_becomeDifference_43 (fun H locs hG hS => ?_)
      refine lv_iload hx hb dX3_becomeDifference_44 (lv_at hl 0 rfl) ?_
      refine lv_bipush (v := 31) hx hb dX3_becomeDifference_46 (by decide +kernel) ?_
      refine lv_iushr (v := g_iushr v10 31) hx hb dX3_becomeDifference_48 rfl ?_
      obtain ⟨v13, ev13, hf⟩ := g_let_spec hf
      refine g_topi ev13 ?_
      refine lv_istore_n (lv' := [(3, .int v13), (5, .int v10), (0, .ref x0), (1, .ref x1), (2, .ref x2), (4, .int x4)]) hx hb dX3_becomeDifference_49 rfl hl (by decide) rfl (fun ls hl => ?_)
      obtain ⟨v14, ev14, hf⟩ := g_let_spec hf
      refine lv_iinc (v := v14) (lv' := [(4, .int v14), (3, .int v13), (5, .int v10), (0, .ref x0), (1, .ref x1), (2, .ref x2)]) hx hb dX3_becomeDifference_50 hl (k := 5) rfl (by rw [← ev14]; rfl) (by decide) rfl (fun ls hl => ?_)
      refine lv_goto (tgt := 5) hx hb dX3_becomeDifference_53 (by decide) ?_
      exact hk5 _ _ _ _ _ _ _ _ _ hG hS (lv_sub hl [3, 4, 5, 1, 0] rfl) hf

set_option maxHeartbeats 4000000 in
set_option maxRecDepth 100000 in
theorem tX3_becomeDifference (l : Launch) (D : g_D) {σ : g_S} {x0 : Nat} {x1 : Nat} {x2 : Nat} {out : g_S} (hf : fX3_becomeDifference σ x0 x1 x2 = some out) : Met l yX3_becomeDifference (Cond.code yX3_becomeDifference cX3_becomeDifference 6 none :: lw_g) rmX3_becomeDifference (g_P D σ [.ref x0, .ref x1, .ref x2]) (g_Q D out (none)) 0 0 (g_A D) := by
  refine Met.ofW (cc := cX3_becomeDifference) (maxL := 6) (ret := none) (by decide +kernel) rfl ?_
  intro p e s m args below meth c s₁ B hml hv
  obtain ⟨rfl, hG, hK⟩ := hv
  have hts : ∀ w ∈ lw_g, w.before _ s = true := fun w h => atoms_spec (ws := (Cond.code yX3_becomeDifference cX3_becomeDifference 6 none :: lw_g)) B.pre w (List.mem_cons_of_mem _ h)
  have C : g_C RX3 cX3_becomeDifference 6 none True p s m _ meth c := ⟨B.exec, B.bytes, hml, findClass_of_methodNamed B.named, hts, B.returns, B.notSynchronized, trivial⟩
  obtain ⟨hx, hb, hml, hown, hts, hr, hlocks, hin⟩ := id C
  have hS : va_S (g_A D) s.heap s.heap [] := va_S.rf
  have hl := lv_entry ([.ref x0, .ref x1, .ref x2]) (n := 6) (Nat.le_of_ble_eq_true rfl)
  rw [lg_entry_eq]
  generalize (lg_sl ([.ref x0, .ref x1, .ref x2]) ++ List.replicate (6 - (lg_sl ([.ref x0, .ref x1, .ref x2])).length) Slot.unset).toArray = ls at hl ⊢
  have hl : lv_has ls 6 [(0, .ref x0), (1, .ref x1), (2, .ref x2)] := hl
  unfold fX3_becomeDifference at hf
  refine lv_iconst (v := 0) hx hb dX3_becomeDifference_0 (by decide +kernel) ?_
  refine lv_istore_n (lv' := [(3, .int 0), (0, .ref x0), (1, .ref x1), (2, .ref x2)]) hx hb dX3_becomeDifference_1 rfl hl (by decide) rfl (fun ls hl => ?_)
  refine lv_iconst (v := 0) hx hb dX3_becomeDifference_2 (by decide +kernel) ?_
  refine lv_istore (lv' := [(4, .int 0), (3, .int 0), (0, .ref x0), (1, .ref x1), (2, .ref x2)]) hx hb dX3_becomeDifference_3 hl (by decide) rfl (fun ls hl => ?_)
  exact tLX3_becomeDifference_5 C hK  g_fuel _ _ _ _ _ _ _ _ _ hG hS (lv_sub hl [2, 3, 4, 1, 0] rfl) hf

def rmX3_addMultiple : Room := { frames := 0, cells := 0, slots := 0, locals := 0 }
noncomputable def LX3_addMultiple_12  : Nat → g_S → Nat → Nat → Int64 → Int32 → Int32 → Int64 → Int32 → Option (Int32 × g_S)
  | 0, _, _, _, _, _, _, _, _ => none
  | n + 1, σ, x0, x1, x2, x4, x5, x6, x8 => if x5 ≤ x8 then (some (x6.toInt32, σ)) else ((g_fr σ 3 x1 0).bind fun v3 => (g_li σ 0 v3 x8).bind fun v4 => (g_fr σ 3 x0 0).bind fun v5 => (g_li σ 0 v5 (x4 + x8)).bind fun v6 => g_let (x6 + ((x2 * v4.toInt64) + v6.toInt64)) fun v7 => (g_fr σ 3 x0 0).bind fun v8 => (g_si σ 0 v8 (x4 + x8) ((v7 &&& 2147483647).toInt32)).bind fun σ9 => g_let (g_lushr v7 31) fun v10 => g_let (x8 + 1) fun v11 => (LX3_addMultiple_12  n) σ9 x0 x1 x2 x4 x5 v10 v11)
noncomputable def fX3_addMultiple (σ : g_S) (x0 : Nat) (x1 : Nat) (x2 : Int64) (x4 : Int32) : Option (Int32 × g_S) := (g_fi σ 3 x1 1).bind fun v1 => LX3_addMultiple_12 g_fuel σ x0 x1 x2 x4 v1 0 0
set_option maxHeartbeats 4000000 in
set_option maxRecDepth 100000 in
theorem tLX3_addMultiple_12 {p : Program} {l : Launch} {e : Env} {s : State} {m : MethodId} {args : Array Value} {below : List Frame} {meth : Method} {c : Code} {D : g_D} {out : Int32 × g_S} (C : g_C RX3 cX3_addMultiple 9 (some .int) True p s m args meth c) (hK : g_K D s)  : ∀ (n : Nat) (σ : g_S) (x0 : Nat) (x1 : Nat) (x2 : Int64) (x4 : Int32) (x5 : Int32) (x6 : Int64) (x8 : Int32) (H : Heap) (locs : List Loc) (ls : Array Slot), g_H D σ H → va_S (g_A D) s.heap H locs → lv_has ls 9 [(0, .ref x0), (1, .ref x1), (2, .long x2), (4, .int x4), (5, .int x5), (6, .long x6), (8, .int x8)] → LX3_addMultiple_12  n σ x0 x1 x2 x4 x5 x6 x8 = some out → W p l e rmX3_addMultiple s m args below meth c H locs 0 0 (MQ below (g_Q D out.2 (some (.int out.1))) args s 0 0 (g_A D)) (F0 m 12 ls [])  := by
  obtain ⟨hx, hb, hml, hown, hts, hr, hlocks, hin⟩ := id C
  intro n
  induction n with
  | zero => intro σ x0 x1 x2 x4 x5 x6 x8 H locs ls hG hS hl hf; cases hf
  | succ n ih =>
    intro σ x0 x1 x2 x4 x5 x6 x8 H locs ls hG hS hl hf
    have hf : (if x5 ≤ x8 then (some (x6.toInt32, σ)) else ((g_fr σ 3 x1 0).bind fun v3 => (g_li σ 0 v3 x8).bind fun v4 => (g_fr σ 3 x0 0).bind fun v5 => (g_li σ 0 v5 (x4 + x8)).bind fun v6 => g_let (x6 + ((x2 * v4.toInt64) + v6.toInt64)) fun v7 => (g_fr σ 3 x0 0).bind fun v8 => (g_si σ 0 v8 (x4 + x8) ((v7 &&& 2147483647).toInt32)).bind fun σ9 => g_let (g_lushr v7 31) fun v10 => g_let (x8 + 1) fun v11 => (LX3_addMultiple_12  n) σ9 x0 x1 x2 x4 x5 v10 v11)) = some out := hf
    have hk12 := ih
    refine lv_iload hx hb dX3_addMultiple_12 (lv_at hl 6 rfl) ?_
    refine lv_iload hx hb dX3_addMultiple_14 (lv_at hl 4 rfl) ?_
    refine lv_icmp_ge (tgt := 76) hx hb dX3_addMultiple_16 (by decide) (fun c2 => ?_) (fun c2 => ?_)
    · rw [if_pos c2] at hf
      refine lv_lload hx hb dX3_addMultiple_76 (lv_at hl 5 rfl) ?_
      refine lv_l2i (v := x6.toInt32) hx hb dX3_addMultiple_78 rfl ?_
      cases hf
      exact g_iret hx hb hr hlocks hG hS dX3_addMultiple_79
    · rw [if_neg c2] at hf
      refine lv_lload hx hb dX3_addMultiple_19 (lv_at hl 5 rfl) ?_
      refine lv_lload_n hx hb dX3_addMultiple_21 rfl (lv_at hl 2 rfl) ?_
      refine lv_aload_n hx hb dX3_addMultiple_22 rfl (lv_at hl 1 rfl) ?_
      obtain ⟨v3, hv3, hf⟩ := g_bind hf
      refine g_getr hx hb hts hown hK hG hv3 rfl iX3 (by decide) flX3_15 dX3_addMultiple_23 ?_
      refine lv_iload hx hb dX3_addMultiple_26 (lv_at hl 6 rfl) ?_
      obtain ⟨v4, hv4, hf⟩ := g_bind hf
      refine g_iald hx hb hK hG hv4 rfl dX3_addMultiple_28 ?_
      refine lv_i2l (v := v4.toInt64) hx hb dX3_addMultiple_29 rfl ?_
      refine lv_lmul hx hb dX3_addMultiple_30 ?_
      refine lv_aload_n hx hb dX3_addMultiple_31 rfl (lv_at hl 0 rfl) ?_
      obtain ⟨v5, hv5, hf⟩ := g_bind hf
      refine g_getr hx hb hts hown hK hG hv5 rfl iX3 (by decide) flX3_15 dX3_addMultiple_32 ?_
      refine lv_iload hx hb dX3_addMultiple_35 (lv_at hl 3 rfl) ?_
      refine lv_iload hx hb dX3_addMultiple_37 (lv_at hl 6 rfl) ?_
      refine lv_iadd hx hb dX3_addMultiple_39 ?_
      obtain ⟨v6, hv6, hf⟩ := g_bind hf
      refine g_iald hx hb hK hG hv6 rfl dX3_addMultiple_40 ?_
      refine lv_i2l (v := v6.toInt64) hx hb dX3_addMultiple_41 rfl ?_
      refine lv_ladd hx hb dX3_addMultiple_42 ?_
      refine lv_ladd hx hb dX3_addMultiple_43 ?_
      obtain ⟨v7, ev7, hf⟩ := g_let_spec hf
      refine g_topl ev7 ?_
      refine lv_lstore (lv' := [(6, .long v7), (0, .ref x0), (1, .ref x1), (2, .long x2), (4, .int x4), (5, .int x5), (8, .int x8)]) hx hb dX3_addMultiple_44 hl (by decide) rfl (fun ls hl => ?_)
      refine lv_aload_n hx hb dX3_addMultiple_46 rfl (lv_at hl 1 rfl) ?_
      obtain ⟨v8, hv8, hf⟩ := g_bind hf
      refine g_getr hx hb hts hown hK hG hv8 rfl iX3 (by decide) flX3_15 dX3_addMultiple_47 ?_
      refine lv_iload hx hb dX3_addMultiple_50 (lv_at hl 4 rfl) ?_
      refine lv_iload hx hb dX3_addMultiple_52 (lv_at hl 6 rfl) ?_
      refine lv_iadd hx hb dX3_addMultiple_54 ?_
      refine lv_lload hx hb dX3_addMultiple_55 (lv_at hl 0 rfl) ?_
      refine lv_ldc2 (v := 2147483647) hx hb hown (hts _ coX3_39) dX3_addMultiple_57 ?_
      refine lv_land hx hb dX3_addMultiple_60 ?_
      refine lv_l2i (v := (v7 &&& 2147483647).toInt32) hx hb dX3_addMultiple_61 rfl ?_
      obtain ⟨σ9, hσ9, hf⟩ := g_bind hf
      refine g_iast hx hb hK hG hS hσ9 rfl dX3_addMultiple_62 (fun H locs hG hS => ?_)
      refine lv_lload hx hb dX3_addMultiple_63 (lv_at hl 0 rfl) ?_
      refine lv_bipush (v := 31) hx hb dX3_addMultiple_65 (by decide +kernel) ?_
      refine lv_lushr (v := g_lushr v7 31) hx hb dX3_addMultiple_67 rfl ?_
      obtain ⟨v10, ev10, hf⟩ := g_let_spec hf
      refine g_topl ev10 ?_
      refine lv_lstore (lv' := [(6, .long v10), (0, .ref x0), (1, .ref x1), (2, .long x2), (4, .int x4), (5, .int x5), (8, .int x8)]) hx hb dX3_addMultiple_68 hl (by decide) rfl (fun ls hl => ?_)
      obtain ⟨v11, ev11, hf⟩ := g_let_spec hf
      refine lv_iinc (v := v11) (lv' := [(8, .int v11), (6, .long v10), (0, .ref x0), (1, .ref x1), (2, .long x2), (4, .int x4), (5, .int x5)]) hx hb dX3_addMultiple_70 hl (k := 6) rfl (by rw [← ev11]; rfl) (by decide) rfl (fun ls hl => ?_)
      refine lv_goto (tgt := 12) hx hb dX3_addMultiple_73 (by decide) ?_
      exact hk12 _ _ _ _ _ _ _ _ _ _ _ hG hS (lv_sub hl [2, 3, 4, 5, 6, 1, 0] rfl) hf

set_option maxHeartbeats 4000000 in
set_option maxRecDepth 100000 in
theorem tX3_addMultiple (l : Launch) (D : g_D) {σ : g_S} {x0 : Nat} {x1 : Nat} {x2 : Int64} {x4 : Int32} {out : Int32 × g_S} (hf : fX3_addMultiple σ x0 x1 x2 x4 = some out) : Met l yX3_addMultiple (Cond.code yX3_addMultiple cX3_addMultiple 9 (some .int) :: lw_g) rmX3_addMultiple (g_P D σ [.ref x0, .ref x1, .long x2, .int x4]) (g_Q D out.2 (some (.int out.1))) 0 0 (g_A D) := by
  refine Met.ofW (cc := cX3_addMultiple) (maxL := 9) (ret := (some .int)) (by decide +kernel) rfl ?_
  intro p e s m args below meth c s₁ B hml hv
  obtain ⟨rfl, hG, hK⟩ := hv
  have hts : ∀ w ∈ lw_g, w.before _ s = true := fun w h => atoms_spec (ws := (Cond.code yX3_addMultiple cX3_addMultiple 9 (some .int) :: lw_g)) B.pre w (List.mem_cons_of_mem _ h)
  have C : g_C RX3 cX3_addMultiple 9 (some .int) True p s m _ meth c := ⟨B.exec, B.bytes, hml, findClass_of_methodNamed B.named, hts, B.returns, B.notSynchronized, trivial⟩
  obtain ⟨hx, hb, hml, hown, hts, hr, hlocks, hin⟩ := id C
  have hS : va_S (g_A D) s.heap s.heap [] := va_S.rf
  have hl := lv_entry ([.ref x0, .ref x1, .long x2, .int x4]) (n := 9) (Nat.le_of_ble_eq_true rfl)
  rw [lg_entry_eq]
  generalize (lg_sl ([.ref x0, .ref x1, .long x2, .int x4]) ++ List.replicate (9 - (lg_sl ([.ref x0, .ref x1, .long x2, .int x4])).length) Slot.unset).toArray = ls at hl ⊢
  have hl : lv_has ls 9 [(0, .ref x0), (1, .ref x1), (2, .long x2), (4, .int x4)] := hl
  unfold fX3_addMultiple at hf
  refine lv_aload_n hx hb dX3_addMultiple_0 rfl (lv_at hl 1 rfl) ?_
  obtain ⟨v1, hv1, hf⟩ := g_bind hf
  refine g_geti hx hb hts hown hK hG hv1 rfl iX3 (by decide) flX3_21 dX3_addMultiple_1 ?_
  refine lv_istore (lv' := [(5, .int v1), (0, .ref x0), (1, .ref x1), (2, .long x2), (4, .int x4)]) hx hb dX3_addMultiple_4 hl (by decide) rfl (fun ls hl => ?_)
  refine lv_lconst (v := 0) hx hb dX3_addMultiple_6 (by decide +kernel) ?_
  refine lv_lstore (lv' := [(6, .long 0), (5, .int v1), (0, .ref x0), (1, .ref x1), (2, .long x2), (4, .int x4)]) hx hb dX3_addMultiple_7 hl (by decide) rfl (fun ls hl => ?_)
  refine lv_iconst (v := 0) hx hb dX3_addMultiple_9 (by decide +kernel) ?_
  refine lv_istore (lv' := [(8, .int 0), (6, .long 0), (5, .int v1), (0, .ref x0), (1, .ref x1), (2, .long x2), (4, .int x4)]) hx hb dX3_addMultiple_10 hl (by decide) rfl (fun ls hl => ?_)
  exact tLX3_addMultiple_12 C hK  g_fuel _ _ _ _ _ _ _ _ _ _ _ hG hS (lv_sub hl [3, 4, 5, 6, 2, 1, 0] rfl) hf

def rmX3_becomeProduct : Room := { frames := 1, cells := 0, slots := 0, locals := 28 }
noncomputable def LX3_becomeProduct_25  : Nat → g_S → Nat → Nat → Nat → Int32 → Option (g_S)
  | 0, _, _, _, _, _ => none
  | n + 1, σ, x0, x1, x2, x3 => (g_fi σ 3 x1 1).bind fun v3 => if v3 ≤ x3 then ((g_fi σ 3 x1 1).bind fun v5 => (g_fi σ 3 x2 1).bind fun v6 => (g_o σ 3 x0).bind fun o7 => (fX3_trim σ x0 (v5 + v6)).bind fun r8 => some r8) else ((g_fr σ 3 x0 0).bind fun v9 => (g_fi σ 3 x2 1).bind fun v10 => (g_fr σ 3 x1 0).bind fun v11 => (g_li σ 0 v11 x3).bind fun v12 => (g_o σ 3 x0).bind fun o13 => (fX3_addMultiple σ x0 x2 v12.toInt64 x3).bind fun r14 => (g_si r14.2 0 v9 (x3 + v10) r14.1).bind fun σ15 => g_let (x3 + 1) fun v16 => (LX3_becomeProduct_25  n) σ15 x0 x1 x2 v16)
noncomputable def LX3_becomeProduct_2  : Nat → g_S → Nat → Nat → Nat → Int32 → Option (g_S)
  | 0, _, _, _, _, _ => none
  | n + 1, σ, x0, x1, x2, x3 => (g_fi σ 3 x2 1).bind fun v1 => if v1 ≤ x3 then (LX3_becomeProduct_25 g_fuel σ x0 x1 x2 0) else ((g_fr σ 3 x0 0).bind fun v17 => (g_si σ 0 v17 x3 0).bind fun σ18 => g_let (x3 + 1) fun v19 => (LX3_becomeProduct_2  n) σ18 x0 x1 x2 v19)
noncomputable def fX3_becomeProduct (σ : g_S) (x0 : Nat) (x1 : Nat) (x2 : Nat) : Option (g_S) := LX3_becomeProduct_2 g_fuel σ x0 x1 x2 0
set_option maxHeartbeats 4000000 in
set_option maxRecDepth 100000 in
theorem tLX3_becomeProduct_25 {p : Program} {l : Launch} {e : Env} {s : State} {m : MethodId} {args : Array Value} {below : List Frame} {meth : Method} {c : Code} {D : g_D} {out : g_S} (C : g_C RX3 cX3_becomeProduct 4 none True p s m args meth c) (hK : g_K D s)  : ∀ (n : Nat) (σ : g_S) (x0 : Nat) (x1 : Nat) (x2 : Nat) (x3 : Int32) (H : Heap) (locs : List Loc) (ls : Array Slot), g_H D σ H → va_S (g_A D) s.heap H locs → lv_has ls 4 [(0, .ref x0), (1, .ref x1), (2, .ref x2), (3, .int x3)] → LX3_becomeProduct_25  n σ x0 x1 x2 x3 = some out → W p l e rmX3_becomeProduct s m args below meth c H locs 0 0 (MQ below (g_Q D out (none)) args s 0 0 (g_A D)) (F0 m 25 ls [])  := by
  obtain ⟨hx, hb, hml, hown, hts, hr, hlocks, hin⟩ := id C
  intro n
  induction n with
  | zero => intro σ x0 x1 x2 x3 H locs ls hG hS hl hf; cases hf
  | succ n ih =>
    intro σ x0 x1 x2 x3 H locs ls hG hS hl hf
    have hf : ((g_fi σ 3 x1 1).bind fun v3 => if v3 ≤ x3 then ((g_fi σ 3 x1 1).bind fun v5 => (g_fi σ 3 x2 1).bind fun v6 => (g_o σ 3 x0).bind fun o7 => (fX3_trim σ x0 (v5 + v6)).bind fun r8 => some r8) else ((g_fr σ 3 x0 0).bind fun v9 => (g_fi σ 3 x2 1).bind fun v10 => (g_fr σ 3 x1 0).bind fun v11 => (g_li σ 0 v11 x3).bind fun v12 => (g_o σ 3 x0).bind fun o13 => (fX3_addMultiple σ x0 x2 v12.toInt64 x3).bind fun r14 => (g_si r14.2 0 v9 (x3 + v10) r14.1).bind fun σ15 => g_let (x3 + 1) fun v16 => (LX3_becomeProduct_25  n) σ15 x0 x1 x2 v16)) = some out := hf
    have hk25 := ih
    refine lv_iload_n hx hb dX3_becomeProduct_25 rfl (lv_at hl 3 rfl) ?_
    refine lv_aload_n hx hb dX3_becomeProduct_26 rfl (lv_at hl 1 rfl) ?_
    obtain ⟨v3, hv3, hf⟩ := g_bind hf
    refine g_geti hx hb hts hown hK hG hv3 rfl iX3 (by decide) flX3_21 dX3_becomeProduct_27 ?_
    refine lv_icmp_ge (tgt := 63) hx hb dX3_becomeProduct_30 (by decide) (fun c4 => ?_) (fun c4 => ?_)
    · rw [if_pos c4] at hf
      refine lv_aload_n hx hb dX3_becomeProduct_63 rfl (lv_at hl 0 rfl) ?_
      refine lv_aload_n hx hb dX3_becomeProduct_64 rfl (lv_at hl 1 rfl) ?_
      obtain ⟨v5, hv5, hf⟩ := g_bind hf
      refine g_geti hx hb hts hown hK hG hv5 rfl iX3 (by decide) flX3_21 dX3_becomeProduct_65 ?_
      refine lv_aload_n hx hb dX3_becomeProduct_68 rfl (lv_at hl 2 rfl) ?_
      obtain ⟨v6, hv6, hf⟩ := g_bind hf
      refine g_geti hx hb hts hown hK hG hv6 rfl iX3 (by decide) flX3_21 dX3_becomeProduct_69 ?_
      refine lv_iadd hx hb dX3_becomeProduct_72 ?_
      obtain ⟨o7, ho7, hf⟩ := g_bind hf
      obtain ⟨r8, hr8, hf⟩ := g_bind hf
      refine g_callV hx hb hml hl.1 hts hown hK hG hS (As := [.int (v5 + v6)]) (rest := []) (tX3_trim l D hr8) vX3_trim mlX3_41 ho7 rfl rfl rfl rfl ⟨Nat.le_of_ble_eq_true rfl, Nat.le_of_ble_eq_true rfl⟩ rfl rfl (Nat.le_of_ble_eq_true rfl) ⟨Nat.le_of_ble_eq_true rfl, Nat.le_of_ble_eq_true rfl⟩ dX3_becomeProduct_73 (fun H locs hG hS => ?_)
      cases hf
      exact g_vret hx hb hr hlocks hG hS dX3_becomeProduct_76
    · rw [if_neg c4] at hf
      refine lv_aload_n hx hb dX3_becomeProduct_33 rfl (lv_at hl 0 rfl) ?_
      obtain ⟨v9, hv9, hf⟩ := g_bind hf
      refine g_getr hx hb hts hown hK hG hv9 rfl iX3 (by decide) flX3_15 dX3_becomeProduct_34 ?_
      refine lv_iload_n hx hb dX3_becomeProduct_37 rfl (lv_at hl 3 rfl) ?_
      refine lv_aload_n hx hb dX3_becomeProduct_38 rfl (lv_at hl 2 rfl) ?_
      obtain ⟨v10, hv10, hf⟩ := g_bind hf
      refine g_geti hx hb hts hown hK hG hv10 rfl iX3 (by decide) flX3_21 dX3_becomeProduct_39 ?_
      refine lv_iadd hx hb dX3_becomeProduct_42 ?_
      refine lv_aload_n hx hb dX3_becomeProduct_43 rfl (lv_at hl 0 rfl) ?_
      refine lv_aload_n hx hb dX3_becomeProduct_44 rfl (lv_at hl 2 rfl) ?_
      refine lv_aload_n hx hb dX3_becomeProduct_45 rfl (lv_at hl 1 rfl) ?_
      obtain ⟨v11, hv11, hf⟩ := g_bind hf
      refine g_getr hx hb hts hown hK hG hv11 rfl iX3 (by decide) flX3_15 dX3_becomeProduct_46 ?_
      refine lv_iload_n hx hb dX3_becomeProduct_49 rfl (lv_at hl 3 rfl) ?_
      obtain ⟨v12, hv12, hf⟩ := g_bind hf
      refine g_iald hx hb hK hG hv12 rfl dX3_becomeProduct_50 ?_
      refine lv_i2l (v := v12.toInt64) hx hb dX3_becomeProduct_51 rfl ?_
      refine lv_iload_n hx hb dX3_becomeProduct_52 rfl (lv_at hl 3 rfl) ?_
      obtain ⟨o13, ho13, hf⟩ := g_bind hf
      obtain ⟨r14, hr14, hf⟩ := g_bind hf
      refine g_callV hx hb hml hl.1 hts hown hK hG hS (As := [.ref x2, .long v12.toInt64, .int x3]) (rest := [.int (x3 + v10), .ref v9]) (tX3_addMultiple l D hr14) vX3_addMultiple mlX3_46 ho13 rfl rfl rfl rfl ⟨Nat.le_of_ble_eq_true rfl, Nat.le_of_ble_eq_true rfl⟩ rfl rfl (Nat.le_of_ble_eq_true rfl) ⟨Nat.le_of_ble_eq_true rfl, Nat.le_of_ble_eq_true rfl⟩ dX3_becomeProduct_53 (fun H locs hG hS => ?_)
      obtain ⟨σ15, hσ15, hf⟩ := g_bind hf
      refine g_iast hx hb hK hG hS hσ15 rfl dX3_becomeProduct_56 (fun H locs hG hS => ?_)
      obtain ⟨v16, ev16, hf⟩ := g_let_spec hf
      refine lv_iinc (v := v16) (lv' := [(3, .int v16), (0, .ref x0), (1, .ref x1), (2, .ref x2)]) hx hb dX3_becomeProduct_57 hl (k := 3) rfl (by rw [← ev16]; rfl) (by decide) rfl (fun ls hl => ?_)
      refine lv_goto (tgt := 25) hx hb dX3_becomeProduct_60 (by decide) ?_
      exact hk25 _ _ _ _ _ _ _ _ hG hS (lv_sub hl [1, 2, 3, 0] rfl) hf

set_option maxHeartbeats 4000000 in
set_option maxRecDepth 100000 in
theorem tLX3_becomeProduct_2 {p : Program} {l : Launch} {e : Env} {s : State} {m : MethodId} {args : Array Value} {below : List Frame} {meth : Method} {c : Code} {D : g_D} {out : g_S} (C : g_C RX3 cX3_becomeProduct 4 none True p s m args meth c) (hK : g_K D s)  : ∀ (n : Nat) (σ : g_S) (x0 : Nat) (x1 : Nat) (x2 : Nat) (x3 : Int32) (H : Heap) (locs : List Loc) (ls : Array Slot), g_H D σ H → va_S (g_A D) s.heap H locs → lv_has ls 4 [(0, .ref x0), (1, .ref x1), (2, .ref x2), (3, .int x3)] → LX3_becomeProduct_2  n σ x0 x1 x2 x3 = some out → W p l e rmX3_becomeProduct s m args below meth c H locs 0 0 (MQ below (g_Q D out (none)) args s 0 0 (g_A D)) (F0 m 2 ls [])  := by
  obtain ⟨hx, hb, hml, hown, hts, hr, hlocks, hin⟩ := id C
  intro n
  induction n with
  | zero => intro σ x0 x1 x2 x3 H locs ls hG hS hl hf; cases hf
  | succ n ih =>
    intro σ x0 x1 x2 x3 H locs ls hG hS hl hf
    have hf : ((g_fi σ 3 x2 1).bind fun v1 => if v1 ≤ x3 then (LX3_becomeProduct_25 g_fuel σ x0 x1 x2 0) else ((g_fr σ 3 x0 0).bind fun v17 => (g_si σ 0 v17 x3 0).bind fun σ18 => g_let (x3 + 1) fun v19 => (LX3_becomeProduct_2  n) σ18 x0 x1 x2 v19)) = some out := hf
    have hk2 := ih
    refine lv_iload_n hx hb dX3_becomeProduct_2 rfl (lv_at hl 3 rfl) ?_
    refine lv_aload_n hx hb dX3_becomeProduct_3 rfl (lv_at hl 2 rfl) ?_
    obtain ⟨v1, hv1, hf⟩ := g_bind hf
    refine g_geti hx hb hts hown hK hG hv1 rfl iX3 (by decide) flX3_21 dX3_becomeProduct_4 ?_
    refine lv_icmp_ge (tgt := 23) hx hb dX3_becomeProduct_7 (by decide) (fun c2 => ?_) (fun c2 => ?_)
    · rw [if_pos c2] at hf
      refine lv_iconst (v := 0) hx hb dX3_becomeProduct_23 (by decide +kernel) ?_
      refine lv_istore_n (lv' := [(3, .int 0), (0, .ref x0), (1, .ref x1), (2, .ref x2)]) hx hb dX3_becomeProduct_24 rfl hl (by decide) rfl (fun ls hl => ?_)
      exact tLX3_becomeProduct_25 C hK  g_fuel _ _ _ _ _ _ _ _ hG hS (lv_sub hl [1, 2, 3, 0] rfl) hf
    · rw [if_neg c2] at hf
      refine lv_aload_n hx hb dX3_becomeProduct_10 rfl (lv_at hl 0 rfl) ?_
      obtain ⟨v17, hv17, hf⟩ := g_bind hf
      refine g_getr hx hb hts hown hK hG hv17 rfl iX3 (by decide) flX3_15 dX3_becomeProduct_11 ?_
      refine lv_iload_n hx hb dX3_becomeProduct_14 rfl (lv_at hl 3 rfl) ?_
      refine lv_iconst (v := 0) hx hb dX3_becomeProduct_15 (by decide +kernel) ?_
      obtain ⟨σ18, hσ18, hf⟩ := g_bind hf
      refine g_iast hx hb hK hG hS hσ18 rfl dX3_becomeProduct_16 (fun H locs hG hS => ?_)
      obtain ⟨v19, ev19, hf⟩ := g_let_spec hf
      refine lv_iinc (v := v19) (lv' := [(3, .int v19), (0, .ref x0), (1, .ref x1), (2, .ref x2)]) hx hb dX3_becomeProduct_17 hl (k := 3) rfl (by rw [← ev19]; rfl) (by decide) rfl (fun ls hl => ?_)
      refine lv_goto (tgt := 2) hx hb dX3_becomeProduct_20 (by decide) ?_
      exact hk2 _ _ _ _ _ _ _ _ hG hS (lv_sub hl [1, 2, 3, 0] rfl) hf

set_option maxHeartbeats 4000000 in
set_option maxRecDepth 100000 in
theorem tX3_becomeProduct (l : Launch) (D : g_D) {σ : g_S} {x0 : Nat} {x1 : Nat} {x2 : Nat} {out : g_S} (hf : fX3_becomeProduct σ x0 x1 x2 = some out) : Met l yX3_becomeProduct (Cond.code yX3_becomeProduct cX3_becomeProduct 4 none :: lw_g) rmX3_becomeProduct (g_P D σ [.ref x0, .ref x1, .ref x2]) (g_Q D out (none)) 0 0 (g_A D) := by
  refine Met.ofW (cc := cX3_becomeProduct) (maxL := 4) (ret := none) (by decide +kernel) rfl ?_
  intro p e s m args below meth c s₁ B hml hv
  obtain ⟨rfl, hG, hK⟩ := hv
  have hts : ∀ w ∈ lw_g, w.before _ s = true := fun w h => atoms_spec (ws := (Cond.code yX3_becomeProduct cX3_becomeProduct 4 none :: lw_g)) B.pre w (List.mem_cons_of_mem _ h)
  have C : g_C RX3 cX3_becomeProduct 4 none True p s m _ meth c := ⟨B.exec, B.bytes, hml, findClass_of_methodNamed B.named, hts, B.returns, B.notSynchronized, trivial⟩
  obtain ⟨hx, hb, hml, hown, hts, hr, hlocks, hin⟩ := id C
  have hS : va_S (g_A D) s.heap s.heap [] := va_S.rf
  have hl := lv_entry ([.ref x0, .ref x1, .ref x2]) (n := 4) (Nat.le_of_ble_eq_true rfl)
  rw [lg_entry_eq]
  generalize (lg_sl ([.ref x0, .ref x1, .ref x2]) ++ List.replicate (4 - (lg_sl ([.ref x0, .ref x1, .ref x2])).length) Slot.unset).toArray = ls at hl ⊢
  have hl : lv_has ls 4 [(0, .ref x0), (1, .ref x1), (2, .ref x2)] := hl
  unfold fX3_becomeProduct at hf
  refine lv_iconst (v := 0) hx hb dX3_becomeProduct_0 (by decide +kernel) ?_
  refine lv_istore_n (lv' := [(3, .int 0), (0, .ref x0), (1, .ref x1), (2, .ref x2)]) hx hb dX3_becomeProduct_1 rfl hl (by decide) rfl (fun ls hl => ?_)
  exact tLX3_becomeProduct_2 C hK  g_fuel _ _ _ _ _ _ _ _ hG hS (lv_sub hl [1, 2, 3, 0] rfl) hf

def rmX3_multiplyAndAdd : Room := { frames := 1, cells := 0, slots := 0, locals := 21 }
noncomputable def LX3_multiplyAndAdd_6  : Nat → g_S → Nat → Int32 → Int64 → Int32 → Option (g_S)
  | 0, _, _, _, _, _ => none
  | n + 1, σ, x0, x1, x3, x5 => (g_fi σ 3 x0 1).bind fun v2 => if v2 ≤ x5 then ((g_fr σ 3 x0 0).bind fun v4 => (g_fi σ 3 x0 1).bind fun v5 => (g_si σ 0 v4 v5 x3.toInt32).bind fun σ6 => (g_fi σ6 3 x0 1).bind fun v7 => (g_o σ6 3 x0).bind fun o8 => (fX3_trim σ6 x0 (v7 + 1)).bind fun r9 => some r9) else ((g_fr σ 3 x0 0).bind fun v10 => (g_li σ 0 v10 x5).bind fun v11 => g_let (x3 + (x1.toInt64 * v11.toInt64)) fun v12 => (g_fr σ 3 x0 0).bind fun v13 => (g_si σ 0 v13 x5 ((v12 &&& 2147483647).toInt32)).bind fun σ14 => g_let (g_lushr v12 31) fun v15 => g_let (x5 + 1) fun v16 => (LX3_multiplyAndAdd_6  n) σ14 x0 x1 v15 v16)
noncomputable def fX3_multiplyAndAdd (σ : g_S) (x0 : Nat) (x1 : Int32) (x2 : Int32) : Option (g_S) := g_let x2.toInt64 fun v1 => LX3_multiplyAndAdd_6 g_fuel σ x0 x1 v1 0
set_option maxHeartbeats 4000000 in
set_option maxRecDepth 100000 in
theorem tLX3_multiplyAndAdd_6 {p : Program} {l : Launch} {e : Env} {s : State} {m : MethodId} {args : Array Value} {below : List Frame} {meth : Method} {c : Code} {D : g_D} {out : g_S} (C : g_C RX3 cX3_multiplyAndAdd 6 none True p s m args meth c) (hK : g_K D s)  : ∀ (n : Nat) (σ : g_S) (x0 : Nat) (x1 : Int32) (x3 : Int64) (x5 : Int32) (H : Heap) (locs : List Loc) (ls : Array Slot), g_H D σ H → va_S (g_A D) s.heap H locs → lv_has ls 6 [(0, .ref x0), (1, .int x1), (3, .long x3), (5, .int x5)] → LX3_multiplyAndAdd_6  n σ x0 x1 x3 x5 = some out → W p l e rmX3_multiplyAndAdd s m args below meth c H locs 0 0 (MQ below (g_Q D out (none)) args s 0 0 (g_A D)) (F0 m 6 ls [])  := by
  obtain ⟨hx, hb, hml, hown, hts, hr, hlocks, hin⟩ := id C
  intro n
  induction n with
  | zero => intro σ x0 x1 x3 x5 H locs ls hG hS hl hf; cases hf
  | succ n ih =>
    intro σ x0 x1 x3 x5 H locs ls hG hS hl hf
    have hf : ((g_fi σ 3 x0 1).bind fun v2 => if v2 ≤ x5 then ((g_fr σ 3 x0 0).bind fun v4 => (g_fi σ 3 x0 1).bind fun v5 => (g_si σ 0 v4 v5 x3.toInt32).bind fun σ6 => (g_fi σ6 3 x0 1).bind fun v7 => (g_o σ6 3 x0).bind fun o8 => (fX3_trim σ6 x0 (v7 + 1)).bind fun r9 => some r9) else ((g_fr σ 3 x0 0).bind fun v10 => (g_li σ 0 v10 x5).bind fun v11 => g_let (x3 + (x1.toInt64 * v11.toInt64)) fun v12 => (g_fr σ 3 x0 0).bind fun v13 => (g_si σ 0 v13 x5 ((v12 &&& 2147483647).toInt32)).bind fun σ14 => g_let (g_lushr v12 31) fun v15 => g_let (x5 + 1) fun v16 => (LX3_multiplyAndAdd_6  n) σ14 x0 x1 v15 v16)) = some out := hf
    have hk6 := ih
    refine lv_iload hx hb dX3_multiplyAndAdd_6 (lv_at hl 3 rfl) ?_
    refine lv_aload_n hx hb dX3_multiplyAndAdd_8 rfl (lv_at hl 0 rfl) ?_
    obtain ⟨v2, hv2, hf⟩ := g_bind hf
    refine g_geti hx hb hts hown hK hG hv2 rfl iX3 (by decide) flX3_21 dX3_multiplyAndAdd_9 ?_
    refine lv_icmp_ge (tgt := 53) hx hb dX3_multiplyAndAdd_12 (by decide) (fun c3 => ?_) (fun c3 => ?_)
    · rw [if_pos c3] at hf
      refine lv_aload_n hx hb dX3_multiplyAndAdd_53 rfl (lv_at hl 0 rfl) ?_
      obtain ⟨v4, hv4, hf⟩ := g_bind hf
      refine g_getr hx hb hts hown hK hG hv4 rfl iX3 (by decide) flX3_15 dX3_multiplyAndAdd_54 ?_
      refine lv_aload_n hx hb dX3_multiplyAndAdd_57 rfl (lv_at hl 0 rfl) ?_
      obtain ⟨v5, hv5, hf⟩ := g_bind hf
      refine g_geti hx hb hts hown hK hG hv5 rfl iX3 (by decide) flX3_21 dX3_multiplyAndAdd_58 ?_
      refine lv_lload_n hx hb dX3_multiplyAndAdd_61 rfl (lv_at hl 2 rfl) ?_
      refine lv_l2i (v := x3.toInt32) hx hb dX3_multiplyAndAdd_62 rfl ?_
      obtain ⟨σ6, hσ6, hf⟩ := g_bind hf
      refine g_iast hx hb hK hG hS hσ6 rfl dX3_multiplyAndAdd_63 (fun H locs hG hS => ?_)
      refine lv_aload_n hx hb dX3_multiplyAndAdd_64 rfl (lv_at hl 0 rfl) ?_
      refine lv_aload_n hx hb dX3_multiplyAndAdd_65 rfl (lv_at hl 0 rfl) ?_
      obtain ⟨v7, hv7, hf⟩ := g_bind hf
      refine g_geti hx hb hts hown hK hG hv7 rfl iX3 (by decide) flX3_21 dX3_multiplyAndAdd_66 ?_
      refine lv_iconst (v := 1) hx hb dX3_multiplyAndAdd_69 (by decide +kernel) ?_
      refine lv_iadd hx hb dX3_multiplyAndAdd_70 ?_
      obtain ⟨o8, ho8, hf⟩ := g_bind hf
      obtain ⟨r9, hr9, hf⟩ := g_bind hf
      refine g_callV hx hb hml hl.1 hts hown hK hG hS (As := [.int (v7 + 1)]) (rest := []) (tX3_trim l D hr9) vX3_trim mlX3_41 ho8 rfl rfl rfl rfl ⟨Nat.le_of_ble_eq_true rfl, Nat.le_of_ble_eq_true rfl⟩ rfl rfl (Nat.le_of_ble_eq_true rfl) ⟨Nat.le_of_ble_eq_true rfl, Nat.le_of_ble_eq_true rfl⟩ dX3_multiplyAndAdd_71 (fun H locs hG hS => ?_)
      cases hf
      exact g_vret hx hb hr hlocks hG hS dX3_multiplyAndAdd_74
    · rw [if_neg c3] at hf
      refine lv_lload_n hx hb dX3_multiplyAndAdd_15 rfl (lv_at hl 2 rfl) ?_
      refine lv_iload_n hx hb dX3_multiplyAndAdd_16 rfl (lv_at hl 1 rfl) ?_
      refine lv_i2l (v := x1.toInt64) hx hb dX3_multiplyAndAdd_17 rfl ?_
      refine lv_aload_n hx hb dX3_multiplyAndAdd_18 rfl (lv_at hl 0 rfl) ?_
      obtain ⟨v10, hv10, hf⟩ := g_bind hf
      refine g_getr hx hb hts hown hK hG hv10 rfl iX3 (by decide) flX3_15 dX3_multiplyAndAdd_19 ?_
      refine lv_iload hx hb dX3_multiplyAndAdd_22 (lv_at hl 3 rfl) ?_
      obtain ⟨v11, hv11, hf⟩ := g_bind hf
      refine g_iald hx hb hK hG hv11 rfl dX3_multiplyAndAdd_24 ?_
      refine lv_i2l (v := v11.toInt64) hx hb dX3_multiplyAndAdd_25 rfl ?_
      refine lv_lmul hx hb dX3_multiplyAndAdd_26 ?_
      refine lv_ladd hx hb dX3_multiplyAndAdd_27 ?_
      obtain ⟨v12, ev12, hf⟩ := g_let_spec hf
      refine g_topl ev12 ?_
      refine lv_lstore_n (lv' := [(3, .long v12), (0, .ref x0), (1, .int x1), (5, .int x5)]) hx hb dX3_multiplyAndAdd_28 rfl hl (by decide) rfl (fun ls hl => ?_)
      refine lv_aload_n hx hb dX3_multiplyAndAdd_29 rfl (lv_at hl 1 rfl) ?_
      obtain ⟨v13, hv13, hf⟩ := g_bind hf
      refine g_getr hx hb hts hown hK hG hv13 rfl iX3 (by decide) flX3_15 dX3_multiplyAndAdd_30 ?_
      refine lv_iload hx hb dX3_multiplyAndAdd_33 (lv_at hl 3 rfl) ?_
      refine lv_lload_n hx hb dX3_multiplyAndAdd_35 rfl (lv_at hl 0 rfl) ?_
      refine lv_ldc2 (v := 2147483647) hx hb hown (hts _ coX3_39) dX3_multiplyAndAdd_36 ?_
      refine lv_land hx hb dX3_multiplyAndAdd_39 ?_
      refine lv_l2i (v := (v12 &&& 2147483647).toInt32) hx hb dX3_multiplyAndAdd_40 rfl ?_
      obtain ⟨σ14, hσ14, hf⟩ := g_bind hf
      refine g_iast hx hb hK hG hS hσ14 rfl dX3_multiplyAndAdd_41 (fun H locs hG hS => ?_)
      refine lv_lload_n hx hb dX3_multiplyAndAdd_42 rfl (lv_at hl 0 rfl) ?_
      refine lv_bipush (v := 31) hx hb dX3_multiplyAndAdd_43 (by decide +kernel) ?_
      refine lv_lushr (v := g_lushr v12 31) hx hb dX3_multiplyAndAdd_45 rfl ?_
      obtain ⟨v15, ev15, hf⟩ := g_let_spec hf
      refine g_topl ev15 ?_
      refine lv_lstore_n (lv' := [(3, .long v15), (0, .ref x0), (1, .int x1), (5, .int x5)]) hx hb dX3_multiplyAndAdd_46 rfl hl (by decide) rfl (fun ls hl => ?_)
      obtain ⟨v16, ev16, hf⟩ := g_let_spec hf
      refine lv_iinc (v := v16) (lv' := [(5, .int v16), (3, .long v15), (0, .ref x0), (1, .int x1)]) hx hb dX3_multiplyAndAdd_47 hl (k := 3) rfl (by rw [← ev16]; rfl) (by decide) rfl (fun ls hl => ?_)
      refine lv_goto (tgt := 6) hx hb dX3_multiplyAndAdd_50 (by decide) ?_
      exact hk6 _ _ _ _ _ _ _ _ hG hS (lv_sub hl [2, 3, 1, 0] rfl) hf

set_option maxHeartbeats 4000000 in
set_option maxRecDepth 100000 in
theorem tX3_multiplyAndAdd (l : Launch) (D : g_D) {σ : g_S} {x0 : Nat} {x1 : Int32} {x2 : Int32} {out : g_S} (hf : fX3_multiplyAndAdd σ x0 x1 x2 = some out) : Met l yX3_multiplyAndAdd (Cond.code yX3_multiplyAndAdd cX3_multiplyAndAdd 6 none :: lw_g) rmX3_multiplyAndAdd (g_P D σ [.ref x0, .int x1, .int x2]) (g_Q D out (none)) 0 0 (g_A D) := by
  refine Met.ofW (cc := cX3_multiplyAndAdd) (maxL := 6) (ret := none) (by decide +kernel) rfl ?_
  intro p e s m args below meth c s₁ B hml hv
  obtain ⟨rfl, hG, hK⟩ := hv
  have hts : ∀ w ∈ lw_g, w.before _ s = true := fun w h => atoms_spec (ws := (Cond.code yX3_multiplyAndAdd cX3_multiplyAndAdd 6 none :: lw_g)) B.pre w (List.mem_cons_of_mem _ h)
  have C : g_C RX3 cX3_multiplyAndAdd 6 none True p s m _ meth c := ⟨B.exec, B.bytes, hml, findClass_of_methodNamed B.named, hts, B.returns, B.notSynchronized, trivial⟩
  obtain ⟨hx, hb, hml, hown, hts, hr, hlocks, hin⟩ := id C
  have hS : va_S (g_A D) s.heap s.heap [] := va_S.rf
  have hl := lv_entry ([.ref x0, .int x1, .int x2]) (n := 6) (Nat.le_of_ble_eq_true rfl)
  rw [lg_entry_eq]
  generalize (lg_sl ([.ref x0, .int x1, .int x2]) ++ List.replicate (6 - (lg_sl ([.ref x0, .int x1, .int x2])).length) Slot.unset).toArray = ls at hl ⊢
  have hl : lv_has ls 6 [(0, .ref x0), (1, .int x1), (2, .int x2)] := hl
  unfold fX3_multiplyAndAdd at hf
  refine lv_iload_n hx hb dX3_multiplyAndAdd_0 rfl (lv_at hl 2 rfl) ?_
  refine lv_i2l (v := x2.toInt64) hx hb dX3_multiplyAndAdd_1 rfl ?_
  obtain ⟨v1, ev1, hf⟩ := g_let_spec hf
  refine g_topl ev1 ?_
  refine lv_lstore_n (lv' := [(3, .long v1), (0, .ref x0), (1, .int x1), (2, .int x2)]) hx hb dX3_multiplyAndAdd_2 rfl hl (by decide) rfl (fun ls hl => ?_)
  refine lv_iconst (v := 0) hx hb dX3_multiplyAndAdd_3 (by decide +kernel) ?_
  refine lv_istore (lv' := [(5, .int 0), (3, .long v1), (0, .ref x0), (1, .int x1), (2, .int x2)]) hx hb dX3_multiplyAndAdd_4 hl (by decide) rfl (fun ls hl => ?_)
  exact tLX3_multiplyAndAdd_6 C hK  g_fuel _ _ _ _ _ _ _ _ hG hS (lv_sub hl [2, 3, 1, 0] rfl) hf

