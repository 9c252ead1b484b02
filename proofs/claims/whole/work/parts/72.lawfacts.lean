/-! the law: words of its calls, and of the throw (by facts.py) -/
theorem flX7_96 : Cond.fieldLink RX7 96 (TX6 0).1 (TX6 0).2.1 (TX6 0).2.2.1 ∈ lw_g := g_memT1 200 rfl rfl
theorem mlL_7 : Cond.methodLink RL 7 yX7_textAt ∈ lw_g := g_memT3 118 rfl rfl
theorem vX7_textAt : g_V yX7_textAt cX7_textAt 2 (some .int) 1 := ⟨g_memT3 119 rfl rfl, g_memT3 120 rfl rfl, g_memT1 1 rfl rfl, g_memT3 121 rfl rfl, by decide +kernel, by decide +kernel, by decide +kernel⟩
theorem clL_8 : Cond.classLink RL 8 RX7 ∈ lw_g := g_memT1 20 rfl rfl
theorem mlL_15 : Cond.methodLink RL 15 yX7_init ∈ lw_g := g_memT1 22 rfl rfl
theorem vX7_init : g_Vi yX7_init cX7_init 2 0 := ⟨g_memT1 23 rfl rfl, rfl, g_memT1 1 rfl rfl, g_memT1 24 rfl rfl, by decide +kernel, by decide +kernel, by decide +kernel⟩
theorem clL_16 : Cond.classLink RL 16 RX8 ∈ lw_g := g_memT3 187 rfl rfl
theorem mlL_18 : Cond.methodLink RL 18 yX8_init ∈ lw_g := g_memT3 189 rfl rfl
theorem vX8_init : g_Vi yX8_init cX8_init 2 0 := ⟨g_memT3 190 rfl rfl, rfl, g_memT1 10 rfl rfl, g_memT3 191 rfl rfl, by decide +kernel, by decide +kernel, by decide +kernel⟩
theorem mlL_19 : Cond.methodLink RL 19 yX7_feed ∈ lw_g := g_memT1 226 rfl rfl
theorem vX7_feed : g_V yX7_feed cX7_feed 6 (some .boolean) 5 := ⟨g_memT1 227 rfl rfl, g_memT1 228 rfl rfl, g_memT1 1 rfl rfl, g_memT1 229 rfl rfl, by decide +kernel, by decide +kernel, by decide +kernel⟩
theorem mlL_23 : Cond.methodLink RL 23 yX8_feed ∈ lw_g := g_memT3 235 rfl rfl
theorem vX8_feed : g_V yX8_feed cX8_feed 8 (some .boolean) 5 := ⟨g_memT3 236 rfl rfl, g_memT3 237 rfl rfl, g_memT1 10 rfl rfl, g_memT3 238 rfl rfl, by decide +kernel, by decide +kernel, by decide +kernel⟩
theorem mlL_24 : Cond.methodLink RL 24 yX7_end ∈ lw_g := g_memT1 234 rfl rfl
theorem vX7_end : g_V yX7_end cX7_end 2 (some .boolean) 1 := ⟨g_memT1 235 rfl rfl, g_memT1 236 rfl rfl, g_memT1 1 rfl rfl, g_memT1 237 rfl rfl, by decide +kernel, by decide +kernel, by decide +kernel⟩
theorem mlL_28 : Cond.methodLink RL 28 yX8_end ∈ lw_g := g_memT3 239 rfl rfl
theorem vX8_end : g_V yX8_end cX8_end 2 (some .boolean) 1 := ⟨g_memT4 0 rfl rfl, g_memT4 1 rfl rfl, g_memT1 10 rfl rfl, g_memT4 2 rfl rfl, by decide +kernel, by decide +kernel, by decide +kernel⟩
theorem mlL_29 : Cond.methodLink RL 29 yX7_read ∈ lw_g := g_memT1 238 rfl rfl
theorem vX7_read : g_V yX7_read cX7_read 3 (some .int) 1 := ⟨g_memT1 239 rfl rfl, g_memT2 0 rfl rfl, g_memT1 1 rfl rfl, g_memT2 1 rfl rfl, by decide +kernel, by decide +kernel, by decide +kernel⟩
theorem mlL_32 : Cond.methodLink RL 32 yX8_read ∈ lw_g := g_memT4 3 rfl rfl
theorem vX8_read : g_V yX8_read cX8_read 7 (some .int) 1 := ⟨g_memT4 4 rfl rfl, g_memT4 5 rfl rfl, g_memT1 10 rfl rfl, g_memT4 6 rfl rfl, by decide +kernel, by decide +kernel, by decide +kernel⟩
theorem mlL_35 : Cond.methodLink RL 35 yX7_set ∈ lw_g := g_memT2 151 rfl rfl
theorem vX7_set : g_V yX7_set cX7_set 4 (some .int) 2 := ⟨g_memT2 152 rfl rfl, g_memT2 153 rfl rfl, g_memT1 1 rfl rfl, g_memT2 154 rfl rfl, by decide +kernel, by decide +kernel, by decide +kernel⟩
theorem mlL_39 : Cond.methodLink RL 39 yX8_set ∈ lw_g := g_memT4 85 rfl rfl
theorem vX8_set : g_V yX8_set cX8_set 9 (some .int) 2 := ⟨g_memT4 86 rfl rfl, g_memT4 87 rfl rfl, g_memT1 10 rfl rfl, g_memT4 88 rfl rfl, by decide +kernel, by decide +kernel, by decide +kernel⟩
theorem mlL_40 : Cond.methodLink RL 40 yX7_reckon ∈ lw_g := g_memT2 159 rfl rfl
theorem vX7_reckon : g_V yX7_reckon cX7_reckon 5 (some .int) 4 := ⟨g_memT2 160 rfl rfl, g_memT2 161 rfl rfl, g_memT1 1 rfl rfl, g_memT2 162 rfl rfl, by decide +kernel, by decide +kernel, by decide +kernel⟩
theorem mlL_44 : Cond.methodLink RL 44 yX8_reckon ∈ lw_g := g_memT4 89 rfl rfl
theorem vX8_reckon : g_V yX8_reckon cX8_reckon 7 (some .int) 4 := ⟨g_memT4 90 rfl rfl, g_memT4 91 rfl rfl, g_memT1 10 rfl rfl, g_memT4 92 rfl rfl, by decide +kernel, by decide +kernel, by decide +kernel⟩
theorem mlL_45 : Cond.methodLink RL 45 yX7_round ∈ lw_g := g_memT3 9 rfl rfl
theorem vX7_round : g_V yX7_round cX7_round 4 (some .int) 3 := ⟨g_memT3 10 rfl rfl, g_memT3 11 rfl rfl, g_memT1 1 rfl rfl, g_memT3 12 rfl rfl, by decide +kernel, by decide +kernel, by decide +kernel⟩
theorem mlL_49 : Cond.methodLink RL 49 yX8_round ∈ lw_g := g_memT4 142 rfl rfl
theorem vX8_round : g_V yX8_round cX8_round 5 (some .int) 3 := ⟨g_memT4 143 rfl rfl, g_memT4 144 rfl rfl, g_memT1 10 rfl rfl, g_memT4 145 rfl rfl, by decide +kernel, by decide +kernel, by decide +kernel⟩
theorem mlL_50 : Cond.methodLink RL 50 yX7_compare ∈ lw_g := g_memT3 29 rfl rfl
theorem vX7_compare : g_V yX7_compare cX7_compare 3 (some .int) 2 := ⟨g_memT3 30 rfl rfl, g_memT3 31 rfl rfl, g_memT1 1 rfl rfl, g_memT3 32 rfl rfl, by decide +kernel, by decide +kernel, by decide +kernel⟩
theorem mlL_54 : Cond.methodLink RL 54 yX8_compare ∈ lw_g := g_memT4 150 rfl rfl
theorem mlL_55 : Cond.methodLink RL 55 yX7_write ∈ lw_g := g_memT3 34 rfl rfl
theorem vX7_write : g_V yX7_write cX7_write 3 (some .int) 2 := ⟨g_memT3 35 rfl rfl, g_memT3 36 rfl rfl, g_memT1 1 rfl rfl, g_memT3 37 rfl rfl, by decide +kernel, by decide +kernel, by decide +kernel⟩
theorem mlL_58 : Cond.methodLink RL 58 yX8_write ∈ lw_g := g_memT4 151 rfl rfl
theorem vX8_write : g_V yX8_write cX8_write 3 (some .int) 2 := ⟨g_memT4 152 rfl rfl, g_memT4 153 rfl rfl, g_memT1 10 rfl rfl, g_memT4 154 rfl rfl, by decide +kernel, by decide +kernel, by decide +kernel⟩
theorem mlL_64 : Cond.methodLink RL 64 yX8_textAt ∈ lw_g := g_memT4 163 rfl rfl
theorem vX8_textAt : g_V yX8_textAt cX8_textAt 2 (some .int) 1 := ⟨g_memT4 164 rfl rfl, g_memT4 165 rfl rfl, g_memT1 10 rfl rfl, g_memT4 166 rfl rfl, by decide +kernel, by decide +kernel, by decide +kernel⟩
theorem mlL_65 : Cond.methodLink RL 65 yX8_thrown ∈ lw_g := g_memT3 231 rfl rfl
theorem vX8_thrown : g_V yX8_thrown cX8_thrown 1 (some .int) 0 := ⟨g_memT3 232 rfl rfl, g_memT3 233 rfl rfl, g_memT1 10 rfl rfl, g_memT3 234 rfl rfl, by decide +kernel, by decide +kernel, by decide +kernel⟩
theorem mlL_69 : Cond.methodLink RL 69 yX7_bits ∈ lw_g := g_memT3 104 rfl rfl
theorem vX7_bits : g_V yX7_bits cX7_bits 2 (some .int) 1 := ⟨g_memT3 105 rfl rfl, g_memT3 106 rfl rfl, g_memT1 1 rfl rfl, g_memT3 107 rfl rfl, by decide +kernel, by decide +kernel, by decide +kernel⟩
theorem mlL_72 : Cond.methodLink RL 72 yX8_bits ∈ lw_g := g_memT4 167 rfl rfl
theorem vX8_bits : g_V yX8_bits cX8_bits 2 (some .int) 1 := ⟨g_memT4 168 rfl rfl, g_memT4 169 rfl rfl, g_memT1 10 rfl rfl, g_memT4 170 rfl rfl, by decide +kernel, by decide +kernel, by decide +kernel⟩
theorem mlL_73 : Cond.methodLink RL 73 yX7_isInteger ∈ lw_g := g_memT3 109 rfl rfl
theorem vX7_isInteger : g_V yX7_isInteger cX7_isInteger 2 (some .boolean) 1 := ⟨g_memT3 110 rfl rfl, g_memT3 111 rfl rfl, g_memT1 1 rfl rfl, g_memT3 112 rfl rfl, by decide +kernel, by decide +kernel, by decide +kernel⟩
theorem mlL_76 : Cond.methodLink RL 76 yX8_isInteger ∈ lw_g := g_memT4 171 rfl rfl
theorem vX8_isInteger : g_V yX8_isInteger cX8_isInteger 2 (some .boolean) 1 := ⟨g_memT4 172 rfl rfl, g_memT4 173 rfl rfl, g_memT1 10 rfl rfl, g_memT4 174 rfl rfl, by decide +kernel, by decide +kernel, by decide +kernel⟩
theorem coL_33 : Cond.constantLong RL 33 4294967295 ∈ lw_g := g_memT4 175 rfl rfl
def NSX : String := "the text has no such character"
theorem clX7_89 : Cond.classLink RX7 89 NSE ∈ lw_g := g_memT3 122 rfl rfl
theorem inNSE : Cond.initialized NSE ∈ lw_g := g_memT1 19 rfl rfl
theorem clL_13 : Cond.classLink RL 13 NSE ∈ lw_g := g_memT3 117 rfl rfl
theorem mlL_59 : Cond.methodLink RL 59 yL_textAt ∈ lw_g := g_memT3 114 rfl rfl
theorem stL_textAt : Cond.static yL_textAt ∈ lw_g := g_memT3 115 rfl rfl
theorem cwL_textAt : Cond.codeWith yL_textAt cL_textAt 4 (some .int) [(0, 9, 12, 13)] ∈ lw_g := g_memT3 116 rfl rfl
theorem inL : Cond.initialized RL ∈ lw_g := g_memT1 0 rfl rfl
/-- the throw's words that aren't good ones -/
def NSB : List Cond := [.declares (Bundle.initS "java/lang/RuntimeException"), .declares (Bundle.initS "java/lang/Exception"), .declares (Bundle.initS "java/lang/Throwable"), .castable NSE NSE]
theorem ns_bad : ∀ w ∈ ((NSW RX7 93).filter vx_no).filter (fun w => !goodWord w), w ∈ NSB := fun w hw => by
  have h : ((((NSW RX7 93).filter vx_no).filter (fun w => !goodWord w)).all (fun w => decide (w ∈ NSB))) = true := by decide +kernel
  exact of_decide_eq_true (List.all_eq_true.mp h w hw)
theorem ns_good0 : ∀ w ∈ ((NSW RX7 93).filter vx_no).filter goodWord, w ∈ lw_tbl := by decide +kernel
theorem ns_good : ∀ w ∈ ((NSW RX7 93).filter vx_no).filter goodWord, w ∈ lw_g := fun w hw => List.mem_filter.mpr ⟨ns_good0 w hw, (List.mem_filter.mp hw).2⟩
theorem ns_ot : ∀ w ∈ Cond.classLink RX7 89 NSE :: Cond.initialized NSE :: (NSW RX7 93).filter vx_no, vx_ot w = true := fun w hw => by
  have h : ((Cond.classLink RX7 89 NSE :: Cond.initialized NSE :: (NSW RX7 93).filter vx_no).all vx_ot) = true := by decide +kernel
  exact List.all_eq_true.mp h w hw
theorem nb_on : ∀ w ∈ NSB, w.onTables = true := fun w hw => by
  have h : (NSB.all Cond.onTables) = true := by decide +kernel
  exact List.all_eq_true.mp h w hw
theorem nb_tbl : ∀ w ∈ NSB, w ∈ lw_tbl := fun w hw => by
  have h : (NSB.all (fun w => decide (w ∈ lw_tbl))) = true := by decide +kernel
  exact of_decide_eq_true (List.all_eq_true.mp h w hw)
/-- what a throw stands on: its text, Throwable's statics, the words -/
def g_KX (D : g_D) (sa : Nat) (U : State) : Prop := vk_R RX7 91 NSX sa U ∧ vx_Zq Bundle.tN "UNASSIGNED_STACK" Bundle.steD (g_A D) U U.heap ∧ vx_Zq Bundle.tN "SUPPRESSED_SENTINEL" Bundle.listD (g_A D) U U.heap ∧ ∀ w ∈ NSB, va_Nw w U
theorem nb_warm {s U : State} (hW : s.WarmedH U.vm) : ∀ w ∈ NSB, va_Nw w s → va_Nw w U := by
  intro w hw h
  simp only [NSB, List.mem_cons, List.mem_nil_iff, or_false] at hw
  rcases hw with rfl | rfl | rfl | rfl
  · exact va_tabs rfl (rfl : (s.setVm U.vm).vm = U.vm) (by rw [Cond.declares_setVm hW.alike]; exact h)
  · exact va_tabs rfl (rfl : (s.setVm U.vm).vm = U.vm) (by rw [Cond.declares_setVm hW.alike]; exact h)
  · exact va_tabs rfl (rfl : (s.setVm U.vm).vm = U.vm) (by rw [Cond.declares_setVm hW.alike]; exact h)
  · exact va_Nw.warmC hW h
theorem g_KX.same {D : g_D} {sa : Nat} {u U : State} (h : g_KX D sa u) (hv : u.vm = U.vm) (hh : u.heap = U.heap) : g_KX D sa U := by
  have ha : u.vm.Alike U.vm := hv ▸ Vm.Alike.refl u.vm
  obtain ⟨h1, h2, h3, h4⟩ := h
  exact ⟨vk_R.same hv.symm h1, hh ▸ h2.moved ha, hh ▸ h3.moved ha, fun w hw => va_Nw.same (nb_on w hw) hv (h4 w hw)⟩
theorem g_KX.call {D : g_D} {sa : Nat} {s U : State} {H : Heap} {locs : List Loc} (h : g_KX D sa s) (hS : va_S (g_A D) s.heap H locs) (hU : U.heap = H) (hW : s.WarmedH U.vm) : g_KX D sa U := by
  obtain ⟨h1, h2, h3, h4⟩ := h
  subst hU
  exact ⟨h1.warm hW, (h2.kept hS.2.1).moved hW.alike, (h3.kept hS.2.1).moved hW.alike, fun w hw => nb_warm hW w hw (h4 w hw)⟩
def g_PX (D : g_D) (sa : Nat) (σ : g_S) (As : List Value) : Array Value → State → Prop := va_Pc As (fun U => g_H D σ U.heap ∧ g_K D U ∧ g_KX D sa U)
theorem g_blindX {D : g_D} {sa : Nat} {σ : g_S} {As : List Value} : FrameBlind (g_PX D sa σ As) := fun a U g mk q => by
  obtain ⟨q0, q1, q2, q3⟩ := q
  exact ⟨q0, q1, q2.same rfl rfl, q3.same rfl rfl⟩
theorem g_preX {D : g_D} {sa : Nat} {σ : g_S} {s : State} {H : Heap} {locs : List Loc} {As : List Value} (hK : g_K D s) (hX : g_KX D sa s) (hG : g_H D σ H) (hS : va_S (g_A D) s.heap H locs) : PreS s H (g_PX D sa σ As) As :=
  ⟨g_blindX, fun U hU hW => ⟨rfl, by rw [hU]; exact hG, hK.call hS hU hW, hX.call hS hU hW⟩⟩
theorem g_ofWH {l : Launch} {y : MethodName} {ws ws' : List Cond} {rm : Room} {Pc : Array Value → State → Prop} {Qc : Array Value → State → Outcome → State → Prop} {mc ms : Nat} {free : Addr → Prop} {cc : ByteArray} {maxL : Nat} {ret : Option FieldType} {hh : List (Nat × Nat × Nat × Nat)}
    (hy : plainName y.cls = true) (hw : ws = Cond.codeWith y cc maxL ret hh :: ws')
    (body : ∀ p e s m args below meth c s₁, BodyLoose p l y (headSpec ws rm) cc maxL ret e s m args below meth c s₁ → c.maxLocals = maxL → Pc args s →
      W p l e (headSpec ws rm).room s m args below meth c s.heap [] 0 0 (MQ below Qc args s mc ms free) (entryFrame m args maxL)) : Met l y ws rm Pc Qc mc ms free := by
  refine MetFree.of_bodyS (code := cc) (maxLocals := maxL) (ret := ret) hy ?_ ?_
  · intro args s m h hn
    obtain ⟨m9, meth, c, hn9, h1, h2, h3, h4, -, h5, h6, -⟩ := Cond.codeWith_spec (atoms_spec (ws := ws) h _ (by rw [hw]; exact List.mem_cons_self))
    cases hn.symm.trans hn9
    exact ⟨meth, c, h1, h2, h3, h4, h5, h6⟩
  · intro p e s m args below meth c s₁ B hml hP _
    have hh0 : s₁.heap = s.heap := by rw [B.state]; rfl
    obtain ⟨t, a1, o, b1, b2, b3⟩ := body p e s m args below meth c s₁ B hml hP s₁ hh0 (Stand.of_body B)
    exact ⟨t, o, a1, b1, b2, b3⟩
