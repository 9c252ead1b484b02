/-! textAt: of the class, and of the law, which catches -/
def rmX7_textAt : Room := { frames := 6, cells := 1, slots := 6, locals := 82 }
def fX7_textAt (σ : g_S) (x0 : Nat) (x1 : Int32) : Option (Option Int32) := if x1 < 0 then some none else (g_fr σ 7 x0 3).bind fun t => (g_fi σ 6 t 1).bind fun n => if x1 < n then (g_fr σ 6 t 0).bind fun a => (g_li σ 2 a x1).bind fun v => some (some v) else some none
def g_QT (D : g_D) (σ : g_S) (out : Option Int32) : Array Value → State → Outcome → State → Prop := fun a st oc t => ∃ v, out = some v ∧ g_Q D σ (some (.int v)) a st oc t
def g_XT (D : g_D) (σ : g_S) (out : Option Int32) : String → State → State → Prop := fun E st t => out = none ∧ E = NSE ∧ (∃ N, g_H D (σ.1, N) t.heap) ∧ va_F (g_A D) st t
theorem g_H.more {D : g_D} {σ : g_S} {H H1 : Heap} (h : g_H D σ H) (hz : H.size ≤ H1.size) (hq : ∀ q : Nat, q < H.size → H1[q]? = H[q]?) : g_H D (σ.1, H1.size) H1 := by
  obtain ⟨h1, h2, h3⟩ := h
  refine ⟨rfl, by show D.2.2.1 ≤ H1.size; omega, fun a e he => ?_⟩
  obtain ⟨g1, g2⟩ := h3 a e he
  exact ⟨g1, va_at.kept g2 (hq a g2.lt)⟩
set_option maxHeartbeats 4000000 in
set_option maxRecDepth 100000 in
theorem tX7_textAt (l : Launch) (hl0 : l.stackTraces = false) (D : g_D) {sa : Nat} {σ : g_S} {x0 : Nat} {x1 : Int32} {out : Option Int32} (hf : fX7_textAt σ x0 x1 = some out) : vx_Met l yX7_textAt (Cond.code yX7_textAt cX7_textAt 2 (some .int) :: lw_g) rmX7_textAt (g_PX D sa σ [.ref x0, .int x1]) (g_QT D σ out) (g_XT D σ out) 1 6 (g_A D) := by
  refine vx_ofW (cc := cX7_textAt) (maxL := 2) (ret := (some .int)) (by decide +kernel) rfl ?_
  intro p e s m args below meth c s₁ B hml hno hv
  obtain ⟨rfl, hG, hK, hX⟩ := hv
  have hts : ∀ w ∈ lw_g, w.before _ s = true := fun w h => atoms_spec (ws := (Cond.code yX7_textAt cX7_textAt 2 (some .int) :: lw_g)) B.pre w (List.mem_cons_of_mem _ h)
  have C : g_C RX7 cX7_textAt 2 (some .int) True p s m _ meth c := ⟨B.exec, B.bytes, hml, findClass_of_methodNamed B.named, hts, B.returns, B.notSynchronized, trivial⟩
  obtain ⟨hx, hb, hml, hown, hts, hr, hlocks, hin⟩ := id C
  have hS : va_S (g_A D) s.heap s.heap [] := va_S.rf
  have hl := lv_entry ([.ref x0, .int x1]) (n := 2) (Nat.le_of_ble_eq_true rfl)
  rw [lg_entry_eq]
  generalize (lg_sl ([.ref x0, .int x1]) ++ List.replicate (2 - (lg_sl ([.ref x0, .int x1])).length) Slot.unset).toArray = ls at hl ⊢
  have hl : lv_has ls 2 [(0, .ref x0), (1, .int x1)] := hl
  obtain ⟨hX1, hX2, hX3, hX4⟩ := hX
  have thr : out = none → W p l e rmX7_textAt s m ([.ref x0, .int x1] : List Value).toArray below meth c s.heap [] 0 0 (vx_MQ below (g_QT D σ out) (g_XT D σ out) ([.ref x0, .int x1] : List Value).toArray s 1 6 (g_A D)) (F0 m 15 ls []) := by
    intro ho
    refine k_throw (own := RX7) (text := NSX) (ik := 89) (is := 91) (ic := 93) (sa := sa) (A := g_A D) hx hb hl0 hown (hts _ clX7_89) (hts _ inNSE) hX1
      (vx_hat (fun w hw => hts w (ns_good w hw)) ns_bad (fun w hw => va_Nw.use (nb_on w hw) (hX4 w hw))) ns_ot hX2 hX3 hS (hl.1.trans hml.symm) dX7_textAt_15 dX7_textAt_18 dX7_textAt_19 dX7_textAt_21 dX7_textAt_24 (fun x hx => (hno x hx).elim)
      (by decide) (by decide) (by decide) (by decide) hlocks ?_ (fun z hz => nomatch hz) (by decide) (by decide)
    intro t hal h1 h2
    exact ⟨ho, rfl, ⟨_, hG.more h1 h2⟩, h1, fun q hq _ => h2 q hq⟩
  unfold fX7_textAt at hf
  refine lv_iload_n hx hb dX7_textAt_0 rfl (lv_at hl 1 rfl) ?_
  refine lv_if_lt (tgt := 15) hx hb dX7_textAt_1 (by decide) (fun c1 => ?_) (fun c1 => ?_)
  · rw [if_pos c1] at hf
    exact thr (Option.some.inj hf).symm
  · rw [if_neg c1] at hf
    obtain ⟨v1, hv1, hf⟩ := g_bind hf
    obtain ⟨v2, hv2, hf⟩ := g_bind hf
    refine lv_iload_n hx hb dX7_textAt_4 rfl (lv_at hl 1 rfl) ?_
    refine lv_aload_n hx hb dX7_textAt_5 rfl (lv_at hl 0 rfl) ?_
    refine g_getr hx hb hts hown hK hG hv1 rfl iX7 (by decide) flX7_32 dX7_textAt_6 ?_
    refine g_geti hx hb hts hown hK hG hv2 rfl iX6 (by decide) flX7_88 dX7_textAt_9 ?_
    refine lv_icmp_lt (tgt := 25) hx hb dX7_textAt_12 (by decide) (fun c2 => ?_) (fun c2 => ?_)
    · rw [if_pos c2] at hf
      obtain ⟨v3, hv3, hf⟩ := g_bind hf
      obtain ⟨v4, hv4, hf⟩ := g_bind hf
      have ho : out = some v4 := (Option.some.inj hf).symm
      subst ho
      refine lv_aload_n hx hb dX7_textAt_25 rfl (lv_at hl 0 rfl) ?_
      refine g_getr hx hb hts hown hK hG hv1 rfl iX7 (by decide) flX7_32 dX7_textAt_26 ?_
      refine g_getr hx hb hts hown hK hG hv3 rfl iX6 (by decide) flX7_96 dX7_textAt_29 ?_
      refine lv_iload_n hx hb dX7_textAt_32 rfl (lv_at hl 1 rfl) ?_
      refine g_cald hx hb hK hG hv4 rfl dX7_textAt_33 ?_
      refine vx_ret ?_
      refine W.widen (k := 1) (n := 6) (by decide) (by decide) ?_
      exact W.iret hx hb hr (fun t ht hW => ⟨v4, rfl, ⟨rfl, by rw [ht]; exact hG⟩, hS.F ht⟩) hS.2.2 dX7_textAt_34 hlocks
    · rw [if_neg c2] at hf
      exact thr (Option.some.inj hf).symm
def rmL_textAt : Room := { frames := 7, cells := 1, slots := 6, locals := 103 }
def g_QL (D : g_D) (σ : g_S) (o : Nat) (out : Option Int32) : Array Value → State → Outcome → State → Prop := fun _ st oc t => ((∃ v σ', out = some v ∧ g_sl σ 3 o 0 v.toInt64 = some σ' ∧ oc = .returned (some (.int 0)) ∧ g_H D σ' t.heap) ∨ (out = none ∧ oc = .returned (some (.int 1)) ∧ ∃ N, g_H D (σ.1, N) t.heap)) ∧ va_F (g_A D) st t
set_option maxHeartbeats 4000000 in
set_option maxRecDepth 100000 in
theorem tL_textAt (l : Launch) (hl0 : l.stackTraces = false) (D : g_D) {sa : Nat} {σ : g_S} {x0 x2 : Nat} {x1 : Int32} {out : Option Int32} {fs : List Value} (hf : fX7_textAt σ x0 x1 = some out) (ho : g_o σ 7 x0 = some fs) (h2 : ∀ v, out = some v → ∃ σ', g_sl σ 3 x2 0 v.toInt64 = some σ') : Met l yL_textAt (Cond.codeWith yL_textAt cL_textAt 4 (some .int) [(0, 9, 12, 13)] :: lw_g) rmL_textAt (g_PX D sa σ [.ref x0, .int x1, .ref x2]) (g_QL D σ x2 out) 1 6 (g_A D) := by
  refine g_ofWH (cc := cL_textAt) (maxL := 4) (ret := (some .int)) (hh := [(0, 9, 12, 13)]) (by decide +kernel) rfl ?_
  intro p e s m args below meth c s₁ B hml hv
  obtain ⟨rfl, hG, hK, hX⟩ := hv
  have hts0 := atoms_spec (ws := (Cond.codeWith yL_textAt cL_textAt 4 (some .int) [(0, 9, 12, 13)] :: lw_g)) B.pre
  have hts : ∀ w ∈ lw_g, w.before _ s = true := fun w h => hts0 w (List.mem_cons_of_mem _ h)
  have htab : c.exceptionTable.toList = tableOf [(0, 9, 12, 13)] := vx_table (x := yL_textAt) B (hts0 _ List.mem_cons_self)
  have C : g_C RL cL_textAt 4 (some .int) True p s m _ meth c := ⟨B.exec, B.bytes, hml, findClass_of_methodNamed B.named, hts, B.returns, B.notSynchronized, trivial⟩
  obtain ⟨hx, hb, hml, hown, hts, hr, hlocks, hin⟩ := id C
  have hS : va_S (g_A D) s.heap s.heap [] := va_S.rf
  have hl := lv_entry ([.ref x0, .int x1, .ref x2]) (n := 4) (Nat.le_of_ble_eq_true rfl)
  rw [lg_entry_eq]
  generalize (lg_sl ([.ref x0, .int x1, .ref x2]) ++ List.replicate (4 - (lg_sl ([.ref x0, .int x1, .ref x2])).length) Slot.unset).toArray = ls at hl ⊢
  have hl : lv_has ls 4 [(0, .ref x0), (1, .int x1), (2, .ref x2)] := hl
  refine lv_aload_n hx hb dL_textAt_0 rfl (lv_at hl 2 rfl) ?_
  refine lv_iconst (v := 0) hx hb dL_textAt_1 (by decide +kernel) ?_
  refine lv_aload_n hx hb dL_textAt_2 rfl (lv_at hl 0 rfl) ?_
  refine lv_iload_n hx hb dL_textAt_3 rfl (lv_at hl 1 rfl) ?_
  obtain ⟨v1, v2, v3, v4, v5, v6, v7⟩ := vX7_textAt
  have hp := g_P1 hG (g_o_spec ho)
  have hcb : CallB rmL_textAt s ([.ref x0, .int x1, .ref x2] : List Value).toArray RL 7 yX7_textAt cX7_textAt 2 (some .int) (Cond.code yX7_textAt cX7_textAt 2 (some .int) :: lw_g) rmX7_textAt 1 6 1 := callB_of 1 hts (g_goodC v4) rfl rfl rfl (hts _ v3) (hts _ mlL_7) ⟨v5, v6, v7⟩ ⟨by decide, by decide⟩
  have hrun : vx_Run p l e rmL_textAt s m ([.ref x0, .int x1, .ref x2] : List Value).toArray below meth c s.heap [] 0 0 1 6 (F0 m 4 ls [.int x1, .ref x0, .int 0, .ref x2]) [.int 0, .ref x2] (g_QT D σ out (Value.ref x0 :: [.int x1]).toArray) (g_XT D σ out) (g_A D) :=
    vx_runV ⟨hx, hb, hml, hown, hts⟩ (tX7_textAt l hl0 D (sa := sa) hf) ⟨hcb, hts _ v1, hts _ v2⟩ ⟨(g_preX (As := Value.ref x0 :: [.int x1]) hK hX hG hS).1, va_recv hK.1 hp (ci := 7) rfl (q0 := 0) rfl, (g_preX (As := Value.ref x0 :: [.int x1]) hK hX hG hS).2⟩ rfl rfl hl.1 rfl (lv_room (Nat.le_of_ble_eq_true rfl)) dL_textAt_4 ⟨by decide, by decide⟩
  intro T hT X
  rcases hrun T hT X with ⟨v, st₀, t, T', L, h0, X', hL, e1, e2, ⟨vv, hvv, ⟨⟨hvr, hGt⟩, hF⟩⟩, st⟩ | ⟨q, st₀, t, T', L, E, ce, h0, X', hL, e1, e2, ⟨hon, hE, ⟨N, hGN⟩, hF⟩, hce, hcv, hcl, st⟩
  · cases hvr
    obtain ⟨k1, k2, k3⟩ := vx_keep h0 e1 hS (fun q _ h => h) (fun q h => h) hL hF
    obtain ⟨σ', hσ'⟩ := h2 vv hvv
    have hG' : g_H D σ T'.heap := by rw [e1]; exact hGt
    have kk : W p l e rmL_textAt s m ([.ref x0, .int x1, .ref x2] : List Value).toArray below meth c T'.heap ([] ++ L) (0 + 1) (0 + 6) (MQ below (g_QL D σ x2 out) ([.ref x0, .int x1, .ref x2] : List Value).toArray s 1 6 (g_A D)) (F0 m 7 ls [.int vv, .int 0, .ref x2]) := by
      refine lv_i2l hx hb dL_textAt_7 rfl ?_
      refine g_last hx hb hK hG' k3 hσ' rfl dL_textAt_8 (fun H locs hG hS => ?_)
      refine lv_goto (tgt := 15) hx hb dL_textAt_9 (by decide) ?_
      refine lv_iconst (v := 0) hx hb dL_textAt_15 (by decide +kernel) ?_
      exact W.iret hx hb hr (fun t ht hW => ⟨Or.inl ⟨vv, σ', hvv, hσ', rfl, by rw [ht]; exact hG⟩, hS.F ht⟩) hS.2.2 dL_textAt_16 hlocks
    obtain ⟨t2, a1, b1⟩ := kk T' rfl X'
    exact ⟨t2, st t2 a1, b1⟩
  · subst hE
    obtain ⟨k1, k2, k3⟩ := vx_keep h0 e1 hS (fun q _ h => h) (fun q h => h) hL hF
    have kk : vx_W p l e rmL_textAt s m ([.ref x0, .int x1, .ref x2] : List Value).toArray below meth c T'.heap ([] ++ L) (0 + 1) (0 + 6) (MQ below (g_QL D σ x2 out) ([.ref x0, .int x1, .ref x2] : List Value).toArray s 1 6 (g_A D)) (F0 m 4 ls [.int 0, .ref x2]) q := by
      refine vx_catch1 (own := RL) (name := NSE) (E := NSE) (ce := ce) hown ⟨0, 9, 12, 13⟩ htab (by decide) (by decide) (hts _ clL_13) (va_Nw.use (nb_on _ (by simp [NSB])) (hX.2.2.2 _ (by simp [NSB]))) (by rw [e1]; exact hce) hcv hcl ?_
      refine lv_astore_n (lv' := [(3, .ref q), (0, .ref x0), (1, .int x1), (2, .ref x2)]) hx hb dL_textAt_12 rfl hl (by decide) rfl (fun ls hl => ?_)
      refine lv_iconst (v := 1) hx hb dL_textAt_13 (by decide +kernel) ?_
      exact W.iret hx hb hr (fun t2 ht hW => ⟨Or.inr ⟨hon, rfl, N, by rw [ht, e1]; exact hGN⟩, k3.F ht⟩) k3.2.2 dL_textAt_14 hlocks
    obtain ⟨t2, a1, b1⟩ := kk T' rfl X'
    exact ⟨t2, st.trans a1, b1⟩
