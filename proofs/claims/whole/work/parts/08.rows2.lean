/-! new cells, copies, calls, returns -/
section GN
variable {p : Program} {l : Launch} {e : Env} {R : Room} {s : State} {m : MethodId} {args : Array Value} {below : List Frame} {meth : Method} {c : Code} {H : Heap} {locs : List Loc} {cells slots : Nat} {Q : State → Prop}
variable {cc : ByteArray} {pc : Nat} {ls : Array Slot} {rest : List Value} {D : g_D} {σ σ' : g_S} {a : Nat} {own : String}
theorem g_new (hx : p.tables.exec = Jvm.exec) (hb : c.code = cc) (hts : ∀ w ∈ lw_g, w.before args s = true) (hown : s.vm.findClass own = some m.cls) (hK : g_K D s) (hG : g_H D σ H) (hS : va_S (g_A D) s.heap H locs) {C : String} {T : u_T} {N ci index : Nat} {fs : List Value} (hc : classes[ci]? = some (C, T, N)) (hin : ∀ w ∈ u_ws C T N, w ∈ lw_g) (ty : Nat → FieldType) (hty : ∀ k, k < N → parseFieldDescriptor (T k).2.2.1 = some (ty k)) (hcl : Cond.classLink own index C ∈ lw_g) (hinst : Cond.instantiable C N ∈ lw_g) (hini : Cond.initialized C ∈ lw_g)
    (hfs : ∀ j, j < N → defaultValue (ty j) = vp_V fs j) (hcells : cells + 1 ≤ R.cells) (hslots : slots + N ≤ R.slots) (hdg : decode cc pc = .ok (.new index, 3))
    (kk : ∀ (H1 : Heap), g_H D (g_mk σ (.inr (ci, fs))) H1 → va_S (g_A D) s.heap H1 locs → W p l e R s m args below meth c H1 locs (cells + 1) (slots + N) Q (F0 m (pc + 3) ls (.ref σ.2 :: rest))) : W p l e R s m args below meth c H locs cells slots Q (F0 m pc ls rest) := by
  have hKn := hK.1.1 ci _ hc
  refine W.newcK hx hb hown (hts _ hcl) (hts _ hinst) (hts _ hini) rfl hdg hcells hslots hKn.2.1 rfl fun H1 kC hkC e1 z1 o1 => ?_
  have h2 := kk H1 (hG.new z1 o1 ⟨_, hc, (u_born ty hts hin hKn hkC e1 hty).to hfs⟩) (g_S.new (σ := σ) hS z1 o1)
  rw [← hG.1] at h2
  exact h2
theorem g_newa (hx : p.tables.exec = Jvm.exec) (hb : c.code = cc) (hts : ∀ w ∈ lw_g, w.before args s = true) (hK : g_K D s) (hG : g_H D σ H) (hS : va_S (g_A D) s.heap H locs) {atype : ArrayType} {t : Nat} {n : Int32} {N : Nat} {f : (Nat → Int32) ⊕ (Nat → Int64) ⊕ (Nat → UInt32) ⊕ (Nat → UInt64) ⊕ (Nat → Option Nat)} (hw : Cond.arrayClass (newarray.typeOf atype) ∈ lw_g) (hRA : ∀ cA, va_RA s cA (newarray.typeOf atype) = (s.vm.findClass ("[" ++ (newarray.typeOf atype).toString) = some cA)) (ht : (g_tys D.2.1)[t]? = some (D.2.1 t, newarray.typeOf atype))
    (hf : ∀ cA : ClassId, vp_cell cA (N, f) = arrV cA N (fun _ => defaultValue (newarray.typeOf atype))) (hn : ¬ n < 0) (hN : n.toNatClampNeg = N) (hbytes : N * componentBytes (newarray.typeOf atype) ≤ 536870912) (hcells : cells + 1 ≤ R.cells) (hslots : slots + N ≤ R.slots) (hdg : decode cc pc = .ok (.newarray atype, 2))
    (kk : ∀ (H1 : Heap), g_H D (g_mk σ (.inl (t, N, f))) H1 → va_S (g_A D) s.heap H1 locs → W p l e R s m args below meth c H1 locs (cells + 1) (slots + N) Q (F0 m (pc + 2) ls (.ref σ.2 :: rest))) : W p l e R s m args below meth c H locs cells slots Q (F0 m pc ls (.int n :: rest)) := by
  refine va_newaK hx hb (hts _ hw) rfl hdg rfl hn hN hbytes hcells hslots rfl fun H1 cA e1 z1 o1 hAr hNm => ?_
  have h9 := (hK.1.2 t _ ht).2
  dsimp only at h9
  rw [hRA] at h9
  have hcA : cA = D.2.1 t := Option.some.inj (hNm.symm.trans h9)
  subst hcA
  have h2 := kk H1 (hG.new z1 o1 (show H1[H.size]? = some (vp_cell _ _) by rw [hf]; exact e1)) (g_S.new (σ := σ) hS z1 o1)
  rw [← hG.1] at h2
  exact h2
theorem g_newq (hx : p.tables.exec = Jvm.exec) (hb : c.code = cc) (hts : ∀ w ∈ lw_g, w.before args s = true) (hown : s.vm.findClass own = some m.cls) (hK : g_K D s) (hG : g_H D σ H) (hS : va_S (g_A D) s.heap H locs) {C : String} {index t : Nat} {n : Int32} {N : Nat} (hcl : Cond.classLink own index C ∈ lw_g) (hov : va_AO C s) (ht : (g_tys D.2.1)[t]? = some (D.2.1 t, .object C))
    (hn : ¬ n < 0) (hN : n.toNatClampNeg = N) (hbytes : N * 4 ≤ 536870912) (hcells : cells + 1 ≤ R.cells) (hslots : slots + N ≤ R.slots) (hdg : decode cc pc = .ok (.anewarray index, 3))
    (kk : ∀ (H1 : Heap), g_H D (g_mk σ (.inl (t, N, .inr (.inr (.inr (.inr (fun _ => none))))))) H1 → va_S (g_A D) s.heap H1 locs → W p l e R s m args below meth c H1 locs (cells + 1) (slots + N) Q (F0 m (pc + 3) ls (.ref σ.2 :: rest))) : W p l e R s m args below meth c H locs cells slots Q (F0 m pc ls (.int n :: rest)) := by
  subst hN
  refine W.anew hx hb hown (hts _ hcl) (va_AO.use hov) rfl hdg rfl hn hbytes hcells hslots fun cA kA comp f1 f2 f3 f4 => ?_
  generalize hH1 : H.push ({ cls := cA, slots := Array.replicate n.toNatClampNeg .null, vm := .none } : Cell) = H1
  have z1 : H1.size = H.size + 1 := by rw [← hH1, Array.size_push]
  have e1 : H1[H.size]? = some (arrV cA n.toNatClampNeg (fun _ => .null)) := by rw [← hH1, Array.getElem?_push_size, ← arrV_new]
  have o1 : ∀ q : Nat, q < H.size → H1[q]? = H[q]? := fun q hq => by rw [← hH1, Array.getElem?_push, if_neg (Nat.ne_of_lt hq)]
  obtain ⟨kA', comp', k1, k2, k3, k4⟩ := (hK.1.2 t _ ht).2
  have hcA : cA = D.2.1 t := Option.some.inj (f1.symm.trans k4)
  subst hcA
  have h2 := kk H1 (hG.new z1 o1 (show H1[H.size]? = some (vp_cell _ _) by show _ = some (vp_cell _ (_, .inr (.inr (.inr (.inr _))))); rw [vp_cell_q]; exact e1)) (g_S.new (σ := σ) hS z1 o1)
  rw [← hG.1] at h2
  exact h2
theorem g_copy (hx : p.tables.exec = Jvm.exec) (hb : c.code = cc) (hml : c.maxLocals = ls.size) (hts : ∀ w ∈ lw_g, w.before args s = true) (hown : s.vm.findClass own = some m.cls) (hK : g_K D s) (hG : g_H D σ H) (hS : va_S (g_A D) s.heap H locs) {index t b : Nat} {sp dp n : Int32} (hv : g_cp σ t a sp b dp n = some σ') (ht : (g_tys D.2.1)[t]? = some (D.2.1 t, .int))
    (hlink : Cond.methodLink own index arraycopyName ∈ lw_g) (hnat : Cond.native arraycopyName ∈ lw_g) (hstat : Cond.static arraycopyName ∈ lw_g) (hini : Cond.initialized "java/lang/System" ∈ lw_g) (hframes : 1 ≤ R.frames) (hlocals : (rest.map fun v => v.category).sum + (nativeFrameWords "java/lang/System" "arraycopy" 5 + 11) ≤ R.locals) (hdg : decode cc pc = .ok (.invokestatic index, 3))
    (kk : ∀ (H1 : Heap) (locs1 : List Loc), g_H D σ' H1 → va_S (g_A D) s.heap H1 locs1 → W p l e R s m args below meth c H1 locs1 cells slots Q (F0 m (pc + 3) ls rest)) : W p l e R s m args below meth c H locs cells slots Q (F0 m pc ls (.int n :: .int dp :: .ref b :: .int sp :: .ref a :: rest)) := by
  obtain ⟨n0, f, n1, g, ha0, ha1, ⟨i1, i2, i3, i4, i5⟩, rfl⟩ := g_cp_spec hv
  have nn : ∀ z : Int32, 0 ≤ z.toInt → z.toInt = (z.toNatClampNeg : Int) := fun z hz => by
    show z.toInt = ((z.toInt.toNat : Nat) : Int)
    omega
  have n0' : ∀ z : Int32, 0 ≤ z.toInt → ¬ z < 0 := fun z hz h => by
    have := Int32.lt_iff_toInt_lt.mp h
    simp at this
    omega
  have hA := (hG.2.2 b _ ha1).1
  have hc0 : H[a]? = some (vp_cell (D.2.1 t) (n0, .inl f)) := (hG.2.2 a _ ha0).2
  have hc1 : H[b]? = some (vp_cell (D.2.1 t) (n1, .inl g)) := (hG.2.2 b _ ha1).2
  have e_sp := nn sp i1
  have e_dp := nn dp i2
  have e_n := nn n i3
  intro T hT X
  obtain ⟨-, k0, hk0, cm0, hkk0⟩ := (hK.1.2 t _ ht).1 n0 (fun j => .int (f j))
  obtain ⟨-, k1, hk1, cm1, hkk1⟩ := (hK.1.2 t _ ht).1 n1 (fun j => .int (g j))
  obtain ⟨vm', X', step⟩ := X.arraycopy hx hown (hts _ hlink) (hts _ hnat) (hts _ hstat) (hts _ hini) (src := a) (dst := b) (cs := vp_cell (D.2.1 t) (n0, .inl f)) (cd := vp_cell (D.2.1 t) (n1, .inl g)) (srcPos := sp) (destPos := dp) (n := n) (by rw [hT]; exact hc0) (by rw [hT]; exact hc1)
    (fun _ h => by cases h) (fun _ h => by cases h) (fun h => by cases h) (fun h => by cases h) hk0 hk1 hkk0 hkk1 (by simp [refKind]) (n0' sp i1) (n0' dp i2) (n0' n i3)
    (by show ¬ _ > ((arrV (D.2.1 t) n0 (fun j => .int (f j))).slots.size : Int); rw [arrV_size]; omega)
    (by show ¬ _ > ((arrV (D.2.1 t) n1 (fun j => .int (g j))).slots.size : Int); rw [arrV_size]; omega)
    (fun vm₁ _ i hi => by
      have e : (vp_cell (D.2.1 t) (n0, .inl f)).slots.getD (sp.toNatClampNeg + i) .null = .int (f (sp.toNatClampNeg + i)) := by
        show (arrV (D.2.1 t) n0 (fun j => .int (f j))).slots.getD _ _ = _
        rw [Array.getD_eq_getD_getElem?, arrV_read _ _ (by omega)]
        rfl
      refine ⟨?_, ?_⟩
      · rw [e]; rfl
      · rw [e]; exact trivial)
    (g := F0 m pc ls (.int n :: .int dp :: .ref b :: .int sp :: .ref a :: rest)) rfl (by rw [hml]) (rest := rest) rfl (by rw [hb]; exact hdg) hframes (by show 2 * 0 + _ + _ ≤ _; omega)
  have e1 : copied (vp_cell (D.2.1 t) (n0, .inl f)) (vp_cell (D.2.1 t) (n1, .inl g)) sp dp n = vp_cell (D.2.1 t) (n1, .inl (va_cpy f g sp.toNatClampNeg dp.toNatClampNeg n.toNatClampNeg)) := va_copied (fun z => .int z) (D.2.1 t) (D.2.1 t) f g (by omega)
  rw [e1] at X' step
  have hl : b < H.size := (Array.getElem?_eq_some_iff.mp hc1).1
  have hheap : ((T.setVm vm').setCell b (vp_cell (D.2.1 t) (n1, .inl (va_cpy f g sp.toNatClampNeg dp.toNatClampNeg n.toNatClampNeg)))).heap = H.setIfInBounds b (vp_cell (D.2.1 t) (n1, .inl (va_cpy f g sp.toNatClampNeg dp.toNatClampNeg n.toNatClampNeg))) := by rw [← hT]; rfl
  have oq : ∀ q : Nat, q ≠ b → (H.setIfInBounds b (vp_cell (D.2.1 t) (n1, .inl (va_cpy f g sp.toNatClampNeg dp.toNatClampNeg n.toNatClampNeg))))[q]? = H[q]? := fun q hq => by simp [Array.getElem?_setIfInBounds, Ne.symm hq]
  obtain ⟨t2, a1, b1⟩ := kk _ _ (hG.put ha1 (by simp) oq (show (H.setIfInBounds b _)[b]? = some _ by simp [Array.getElem?_setIfInBounds, hl])) ⟨by simp; exact hS.1, fun q g1 g2 => by
      rw [oq q (fun e => g2 (by rw [e]; exact hA))]
      exact hS.2.1 q g1 g2, fun q hq => by
      rcases List.mem_append.mp hq with h | h
      · exact hS.2.2 q h
      · obtain ⟨z, -, hz⟩ := List.mem_map.mp h
        rw [← hz]
        exact hA⟩ _ hheap X'
  exact ⟨t2, step t2 a1, b1⟩
-- calls
theorem g_good : GoodIn lw_g lw_g := fun w hw => ⟨hw, good_of_word (List.mem_filter.mp hw).2⟩
theorem g_goodC {w : Cond} (h : w ∈ lw_g) : GoodIn lw_g (w :: lw_g) := fun w' hw => by
  rcases List.mem_cons.mp hw with rfl | hw
  · exact g_good _ h
  · exact g_good _ hw
theorem g_call {v : Option Value} {av : Array Value} {mc ms : Nat} {st0 : List Value} (hr : va_Run p l e R s m args below meth c H locs cells slots mc ms (F0 m pc ls st0) rest (g_Q D σ' v av) (g_A D)) (hS : va_S (g_A D) s.heap H locs)
    (kk : ∀ (H1 : Heap) (locs1 : List Loc), g_H D σ' H1 → va_S (g_A D) s.heap H1 locs1 → W p l e R s m args below meth c H1 locs1 (cells + mc) (slots + ms) Q (F0 m (pc + 3) ls (v.toList ++ rest))) : W p l e R s m args below meth c H locs cells slots Q (F0 m pc ls st0) := by
  intro T hT X
  obtain ⟨v', st₀, t, T', L, h0, X', hL, e1, e2, ⟨⟨hv, hb⟩, hz, hk⟩, st⟩ := hr T hT X
  cases hv
  rw [h0] at hz hk
  obtain ⟨t2, a1, b1⟩ := kk T'.heap (locs ++ L) (by rw [e1]; exact hb)
    ⟨Nat.le_trans hS.1 (by rw [e1]; exact hz), fun q h1 h2 => by rw [e1, hk q (Nat.lt_of_lt_of_le h1 hS.1) h2]; exact hS.2.1 q h1 h2, fun q hq => by
      rcases List.mem_append.mp hq with h | h
      · exact hS.2.2 q h
      · exact hL q h⟩ T' rfl X'
  exact ⟨t2, st t2 a1, b1⟩
theorem g_blind {As : List Value} : FrameBlind (g_P D σ As) := fun a U g mk q => by
  obtain ⟨q0, q1, q2⟩ := q
  exact ⟨q0, q1, q2.same rfl rfl⟩
theorem g_pre {As : List Value} (hK : g_K D s) (hG : g_H D σ H) (hS : va_S (g_A D) s.heap H locs) : PreS s H (g_P D σ As) As :=
  ⟨g_blind, fun U hU hW => ⟨rfl, by rw [hU]; exact hG, hK.call hS hU hW⟩⟩
/-- what the tables say of an instance method, of a static one, of a constructor -/
def g_V (y : MethodName) (bytes : ByteArray) (maxL : Nat) (ret : Option FieldType) (n : Nat) : Prop := Cond.instanceMethod y ∈ lw_g ∧ Cond.selects y.cls y y ∈ lw_g ∧ Cond.initialized y.cls ∈ lw_g ∧ Cond.code y bytes maxL ret ∈ lw_g ∧ y.cls ≠ "java/lang/invoke/MethodHandle" ∧ y.cls ≠ "java/lang/invoke/VarHandle" ∧ (parseMethodDescriptor y.desc).map (fun d => d.parameters.length) = some n
def g_Vs (y : MethodName) (bytes : ByteArray) (maxL : Nat) (ret : Option FieldType) (n : Nat) : Prop := Cond.static y ∈ lw_g ∧ Cond.initialized y.cls ∈ lw_g ∧ Cond.code y bytes maxL ret ∈ lw_g ∧ y.cls ≠ "java/lang/invoke/MethodHandle" ∧ y.cls ≠ "java/lang/invoke/VarHandle" ∧ (parseMethodDescriptor y.desc).map (fun d => d.parameters.length) = some n
def g_Vi (y : MethodName) (bytes : ByteArray) (maxL : Nat) (n : Nat) : Prop := Cond.instanceMethod y ∈ lw_g ∧ y.name = "<init>" ∧ Cond.initialized y.cls ∈ lw_g ∧ Cond.code y bytes maxL none ∈ lw_g ∧ y.cls ≠ "java/lang/invoke/MethodHandle" ∧ y.cls ≠ "java/lang/invoke/VarHandle" ∧ (parseMethodDescriptor y.desc).map (fun d => d.parameters.length) = some n
theorem g_callV (hx : p.tables.exec = Jvm.exec) (hb : c.code = cc) {nL : Nat} (hml : c.maxLocals = nL) (hsz : ls.size = nL) (hts : ∀ w ∈ lw_g, w.before args s = true) (hown : s.vm.findClass own = some m.cls) (hK : g_K D s) (hG : g_H D σ H) (hS : va_S (g_A D) s.heap H locs) {y : MethodName} {bytes : ByteArray} {maxL n index ci b mc ms : Nat} {ret : Option FieldType} {rm : Room} {As fs : List Value} {v : Option Value} {r : vw_C} {st : List Value}
    (hM : Met l y (Cond.code y bytes maxL ret :: lw_g) rm (g_P D σ (.ref b :: As)) (g_Q D σ' v) mc ms (g_A D)) (hV : g_V y bytes maxL ret n) (hlink : Cond.methodLink own index y ∈ lw_g) (hrecv : g_o σ ci b = some fs) (hc : classes[ci]? = some r) (hr : r.1 = y.cls) (hrc : rm.cells = mc) (hrs : rm.slots = ms) (hR : rm.frames + 1 ≤ R.frames ∧ 8 + (maxL + 11) + rm.locals ≤ R.locals) (hn : As.length = n) (hst : st = As.reverse ++ .ref b :: rest) (hW : (rest.map fun v => v.category).sum ≤ 8) (hf : cells + mc ≤ R.cells ∧ slots + ms ≤ R.slots) (hdg : decode cc pc = .ok (.invokevirtual index, 3))
    (kk : ∀ (H1 : Heap) (locs1 : List Loc), g_H D σ' H1 → va_S (g_A D) s.heap H1 locs1 → W p l e R s m args below meth c H1 locs1 (cells + mc) (slots + ms) Q (F0 m (pc + 3) ls (v.toList ++ rest))) : W p l e R s m args below meth c H locs cells slots Q (F0 m pc ls st) := by
  obtain ⟨v1, v2, v3, v4, v5, v6, v7⟩ := hV
  have hp := g_P1 hG (g_o_spec hrecv)
  have hcb : CallB R s args own index y bytes maxL ret (Cond.code y bytes maxL ret :: lw_g) rm mc ms n := callB_of n hts (g_goodC v4) rfl hrc hrs (hts _ v3) (hts _ hlink) ⟨v5, v6, v7⟩ hR
  exact g_call (va_runV ⟨hx, hb, hml, hown, hts⟩ hM ⟨hcb, hts _ v1, hts _ v2⟩ ⟨(g_pre hK hG hS).1, hr ▸ va_recv hK.1 hp hc (q0 := 0) rfl, (g_pre hK hG hS).2⟩ rfl hn hsz hst (lv_room hW) hdg hf) hS kk
theorem g_callS (hx : p.tables.exec = Jvm.exec) (hb : c.code = cc) {nL : Nat} (hml : c.maxLocals = nL) (hsz : ls.size = nL) (hts : ∀ w ∈ lw_g, w.before args s = true) (hown : s.vm.findClass own = some m.cls) (hK : g_K D s) (hG : g_H D σ H) (hS : va_S (g_A D) s.heap H locs) {y : MethodName} {bytes : ByteArray} {maxL n index mc ms : Nat} {ret : Option FieldType} {rm : Room} {As : List Value} {v : Option Value} {st : List Value}
    (hM : Met l y (Cond.code y bytes maxL ret :: lw_g) rm (g_P D σ As) (g_Q D σ' v) mc ms (g_A D)) (hV : g_Vs y bytes maxL ret n) (hlink : Cond.methodLink own index y ∈ lw_g) (hrc : rm.cells = mc) (hrs : rm.slots = ms) (hR : rm.frames + 1 ≤ R.frames ∧ 8 + (maxL + 11) + rm.locals ≤ R.locals) (hn : As.length = n) (hst : st = As.reverse ++ rest) (hW : (rest.map fun v => v.category).sum ≤ 8) (hf : cells + mc ≤ R.cells ∧ slots + ms ≤ R.slots) (hdg : decode cc pc = .ok (.invokestatic index, 3))
    (kk : ∀ (H1 : Heap) (locs1 : List Loc), g_H D σ' H1 → va_S (g_A D) s.heap H1 locs1 → W p l e R s m args below meth c H1 locs1 (cells + mc) (slots + ms) Q (F0 m (pc + 3) ls (v.toList ++ rest))) : W p l e R s m args below meth c H locs cells slots Q (F0 m pc ls st) := by
  obtain ⟨v1, v3, v4, v5, v6, v7⟩ := hV
  have hcb : CallB R s args own index y bytes maxL ret (Cond.code y bytes maxL ret :: lw_g) rm mc ms n := callB_of n hts (g_goodC v4) rfl hrc hrs (hts _ v3) (hts _ hlink) ⟨v5, v6, v7⟩ hR
  exact g_call (va_runS ⟨hx, hb, hml, hown, hts⟩ hM ⟨hcb, hts _ v1⟩ (g_pre hK hG hS) rfl hn hsz hst (lv_room hW) hdg hf) hS kk
theorem g_callI (hx : p.tables.exec = Jvm.exec) (hb : c.code = cc) {nL : Nat} (hml : c.maxLocals = nL) (hsz : ls.size = nL) (hts : ∀ w ∈ lw_g, w.before args s = true) (hown : s.vm.findClass own = some m.cls) (hK : g_K D s) (hG : g_H D σ H) (hS : va_S (g_A D) s.heap H locs) {y : MethodName} {bytes : ByteArray} {maxL n index b mc ms : Nat} {rm : Room} {As : List Value} {v : Option Value} {st : List Value}
    (hM : Met l y (Cond.code y bytes maxL none :: lw_g) rm (g_P D σ (.ref b :: As)) (g_Q D σ' v) mc ms (g_A D)) (hV : g_Vi y bytes maxL n) (hlink : Cond.methodLink own index y ∈ lw_g) (hrc : rm.cells = mc) (hrs : rm.slots = ms) (hR : rm.frames + 1 ≤ R.frames ∧ 8 + (maxL + 11) + rm.locals ≤ R.locals) (hn : As.length = n) (hst : st = As.reverse ++ .ref b :: rest) (hW : (rest.map fun v => v.category).sum ≤ 8) (hf : cells + mc ≤ R.cells ∧ slots + ms ≤ R.slots) (hdg : decode cc pc = .ok (.invokespecial index, 3))
    (kk : ∀ (H1 : Heap) (locs1 : List Loc), g_H D σ' H1 → va_S (g_A D) s.heap H1 locs1 → W p l e R s m args below meth c H1 locs1 (cells + mc) (slots + ms) Q (F0 m (pc + 3) ls (v.toList ++ rest))) : W p l e R s m args below meth c H locs cells slots Q (F0 m pc ls st) := by
  obtain ⟨v1, v2, v3, v4, v5, v6, v7⟩ := hV
  have hcb : CallB R s args own index y bytes maxL none (Cond.code y bytes maxL none :: lw_g) rm mc ms n := callB_of n hts (g_goodC v4) rfl hrc hrs (hts _ v3) (hts _ hlink) ⟨v5, v6, v7⟩ hR
  exact g_call (va_runI ⟨hx, hb, hml, hown, hts⟩ hM ⟨hcb, v2, hts _ v1⟩ (g_pre hK hG hS) rfl hn hsz hst (lv_room hW) hdg hf) hS kk
/-- a private constructor of a nest mate -/
theorem g_callIN (hx : p.tables.exec = Jvm.exec) (hb : c.code = cc) {nL : Nat} (hml : c.maxLocals = nL) (hsz : ls.size = nL) (hts : ∀ w ∈ lw_g, w.before args s = true) (hown : s.vm.findClass own = some m.cls) (hK : g_K D s) (hG : g_H D σ H) (hS : va_S (g_A D) s.heap H locs) {y : MethodName} {bytes : ByteArray} {maxL n index b mc ms : Nat} {rm : Room} {As : List Value} {v : Option Value} {st : List Value} {host : String}
    (hM : Met l y (Cond.code y bytes maxL none :: lw_g) rm (g_P D σ (.ref b :: As)) (g_Q D σ' v) mc ms (g_A D)) (hV : g_Vi y bytes maxL n) (hlink : (own, index, y, host) ∈ g_nestM) (hrc : rm.cells = mc) (hrs : rm.slots = ms) (hR : rm.frames + 1 ≤ R.frames ∧ 8 + (maxL + 11) + rm.locals ≤ R.locals) (hn : As.length = n) (hst : st = As.reverse ++ .ref b :: rest) (hW : (rest.map fun v => v.category).sum ≤ 8) (hf : cells + mc ≤ R.cells ∧ slots + ms ≤ R.slots) (hdg : decode cc pc = .ok (.invokespecial index, 3))
    (kk : ∀ (H1 : Heap) (locs1 : List Loc), g_H D σ' H1 → va_S (g_A D) s.heap H1 locs1 → W p l e R s m args below meth c H1 locs1 (cells + mc) (slots + ms) Q (F0 m (pc + 3) ls (v.toList ++ rest))) : W p l e R s m args below meth c H locs cells slots Q (F0 m pc ls st) := by
  obtain ⟨v1, v2, v3, v4, v5, v6, v7⟩ := hV
  have hcb := va_cnB (R := R) (rm := rm) n hts (g_goodC v4) rfl hrc hrs (hK.2.1.1 _ hlink) (hts _ v3) ⟨v5, v6, v7⟩ hR
  exact g_call (va_runIN ⟨hx, hb, hml, hown, hts⟩ hM ⟨hcb, v2, hts _ v1⟩ (g_pre hK hG hS) rfl hn hsz hst (lv_room hW) hdg hf) hS kk
-- returns
theorem g_iret {v : Int32} (hx : p.tables.exec = Jvm.exec) (hb : c.code = cc) (hr : meth.sig.returnType = some .int) (hlocks : meth.locks = false) (hG : g_H D σ H) (hS : va_S (g_A D) s.heap H locs) (hdg : decode cc pc = .ok (.ireturn, 1)) : W p l e R s m args below meth c H locs cells slots (MQ below (g_Q D σ (some (.int v))) args s cells slots (g_A D)) (F0 m pc ls [.int v]) :=
  W.iret hx hb hr (fun t ht hW => ⟨⟨rfl, by rw [ht]; exact hG⟩, hS.F ht⟩) hS.2.2 hdg hlocks
theorem g_zret {v : Int32} (hx : p.tables.exec = Jvm.exec) (hb : c.code = cc) (hr : meth.sig.returnType = some .boolean) (hlocks : meth.locks = false) (hv : v = 0 ∨ v = 1) (hG : g_H D σ H) (hS : va_S (g_A D) s.heap H locs) (hdg : decode cc pc = .ok (.ireturn, 1)) : W p l e R s m args below meth c H locs cells slots (MQ below (g_Q D σ (some (.int v))) args s cells slots (g_A D)) (F0 m pc ls [.int v]) :=
  W.zret hx hb hr (by rcases hv with rfl | rfl <;> rfl) (fun t ht hW => ⟨⟨rfl, by rw [ht]; exact hG⟩, hS.F ht⟩) hS.2.2 hdg hlocks
theorem g_lret {v : Int64} (hx : p.tables.exec = Jvm.exec) (hb : c.code = cc) (hr : meth.sig.returnType = some .long) (hlocks : meth.locks = false) (hG : g_H D σ H) (hS : va_S (g_A D) s.heap H locs) (hdg : decode cc pc = .ok (.lreturn, 1)) : W p l e R s m args below meth c H locs cells slots (MQ below (g_Q D σ (some (.long v))) args s cells slots (g_A D)) (F0 m pc ls [.long v]) :=
  W.lret hx hb hr (fun t ht hW => ⟨⟨rfl, by rw [ht]; exact hG⟩, hS.F ht⟩) hS.2.2 hdg hlocks
theorem g_vret (hx : p.tables.exec = Jvm.exec) (hb : c.code = cc) (hr : meth.sig.returnType = none) (hlocks : meth.locks = false) (hG : g_H D σ H) (hS : va_S (g_A D) s.heap H locs) (hdg : decode cc pc = .ok (.return_, 1)) : W p l e R s m args below meth c H locs cells slots (MQ below (g_Q D σ none) args s cells slots (g_A D)) (F0 m pc ls []) :=
  W.vret hx hb hr (fun t ht hW => ⟨⟨rfl, by rw [ht]; exact hG⟩, hS.F ht⟩) hS.2.2 hdg hlocks
theorem g_aret {v : Nat} {rt : FieldType} (hx : p.tables.exec = Jvm.exec) (hb : c.code = cc) (hr : meth.sig.returnType = some rt) (hrt : (∃ n, rt = .object n) ∨ ∃ t, rt = .array t) (hlocks : meth.locks = false) (hG : g_H D σ H) (hS : va_S (g_A D) s.heap H locs) (hdg : decode cc pc = .ok (.areturn, 1)) : W p l e R s m args below meth c H locs cells slots (MQ below (g_Q D σ (some (.ref v))) args s cells slots (g_A D)) (F0 m pc ls [.ref v]) :=
  W.aret hx hb hr hrt (Or.inr ⟨v, rfl⟩) (fun t ht hW => ⟨⟨rfl, by rw [ht]; exact hG⟩, hS.F ht⟩) hS.2.2 hdg hlocks
end GN
