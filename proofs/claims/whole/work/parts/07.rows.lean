/-! THE MACHINE'S ROWS over the store. -/
theorem g_H.put {D : g_D} {σ : g_S} {a : Nat} {e0 e : g_E} {H H1 : Heap} (h : g_H D σ H) (ha : σ.1 a = some e0) (z : H1.size = H.size) (oq : ∀ q : Nat, q ≠ a → H1[q]? = H[q]?) (he : va_at D.1 classes (a, g_e D.2.1 e) H1) : g_H D (g_up σ a e) H1 := by
  refine ⟨by rw [z]; exact h.1, h.2.1, fun q e' hq => ?_⟩
  by_cases hqa : q = a
  · subst hqa
    rw [g_up_s] at hq
    cases hq
    exact ⟨(h.2.2 _ _ ha).1, he⟩
  · rw [g_up_n _ _ hqa] at hq
    obtain ⟨h1, h2⟩ := h.2.2 q e' hq
    exact ⟨h1, h2.kept (oq q hqa)⟩
theorem g_H.new {D : g_D} {σ : g_S} {e : g_E} {H H1 : Heap} (h : g_H D σ H) (z : H1.size = H.size + 1) (oq : ∀ q : Nat, q < H.size → H1[q]? = H[q]?) (he : va_at D.1 classes (H.size, g_e D.2.1 e) H1) : g_H D (g_mk σ e) H1 := by
  refine ⟨by rw [z, h.1]; rfl, Nat.le_succ_of_le h.2.1, fun q e' hq => ?_⟩
  by_cases hqa : q = σ.2
  · subst hqa
    have hq : (if σ.2 = σ.2 then some e else σ.1 σ.2) = some e' := hq
    rw [if_pos rfl] at hq
    cases hq
    exact ⟨h.2.1, by rw [← h.1]; exact he⟩
  · have hq : (if q = σ.2 then some e else σ.1 q) = some e' := hq
    rw [if_neg hqa] at hq
    obtain ⟨h1, h2⟩ := h.2.2 q e' hq
    exact ⟨h1, h2.kept (oq q h2.lt)⟩
theorem g_P1 {D : g_D} {σ : g_S} {H : Heap} {a : Nat} {e : g_E} (h : g_H D σ H) (ha : σ.1 a = some e) : va_P D.1 classes [(a, g_e D.2.1 e)] H := by
  intro k q hk
  have hz : k < 1 := (List.getElem?_eq_some_iff.mp hk).1
  rw [show k = 0 by omega] at hk
  cases hk
  exact (h.2.2 a e ha).2
theorem g_S.new {D : g_D} {σ : g_S} {H0 H H1 : Heap} {locs : List Loc} (h : va_S (g_A D) H0 H locs) (z : H1.size = H.size + 1) (oq : ∀ q : Nat, q < H.size → H1[q]? = H[q]?) : va_S (g_A D) H0 H1 locs :=
  ⟨Nat.le_trans h.1 (by omega), fun x h1 h2 => (oq x (Nat.lt_of_lt_of_le h1 h.1)).trans (h.2.1 x h1 h2), h.2.2⟩
section GR
variable {p : Program} {l : Launch} {e : Env} {R : Room} {s : State} {m : MethodId} {args : Array Value} {below : List Frame} {meth : Method} {c : Code} {H : Heap} {locs : List Loc} {cells slots : Nat} {Q : State → Prop}
variable {cc : ByteArray} {pc : Nat} {ls : Array Slot} {rest : List Value} {D : g_D} {σ σ' : g_S} {a : Nat} {own : String}
theorem g_topi {x y : Int32} (h : x = y) (k : W p l e R s m args below meth c H locs cells slots Q (F0 m pc ls (.int y :: rest))) : W p l e R s m args below meth c H locs cells slots Q (F0 m pc ls (.int x :: rest)) := h ▸ k
theorem g_topl {x y : Int64} (h : x = y) (k : W p l e R s m args below meth c H locs cells slots Q (F0 m pc ls (.long y :: rest))) : W p l e R s m args below meth c H locs cells slots Q (F0 m pc ls (.long x :: rest)) := h ▸ k
theorem g_geti (hx : p.tables.exec = Jvm.exec) (hb : c.code = cc) (hts : ∀ w ∈ lw_g, w.before args s = true) (hown : s.vm.findClass own = some m.cls) (hK : g_K D s) (hG : g_H D σ H) {C : String} {T : u_T} {N ci index k : Nat} {v : Int32} (hv : g_fi σ ci a k = some v) (hc : classes[ci]? = some (C, T, N)) (hin : ∀ w ∈ u_ws C T N, w ∈ lw_g) (hk : k < N) (hlink : Cond.fieldLink own index (T k).1 (T k).2.1 (T k).2.2.1 ∈ lw_g) (hdg : decode cc pc = .ok (.getfield index, 3))
    (kk : W p l e R s m args below meth c H locs cells slots Q (F0 m (pc + 3) ls (.int v :: rest))) : W p l e R s m args below meth c H locs cells slots Q (F0 m pc ls (.ref a :: rest)) := by
  obtain ⟨fs, h1, h2⟩ := g_fi_spec hv
  exact va_get (D := D.1) hx hb hts hin hown hK.1 (g_P1 hG h1) 0 rfl hc k hk (hts _ hlink) (fun _ h => h) h2 hdg kk
theorem g_getl (hx : p.tables.exec = Jvm.exec) (hb : c.code = cc) (hts : ∀ w ∈ lw_g, w.before args s = true) (hown : s.vm.findClass own = some m.cls) (hK : g_K D s) (hG : g_H D σ H) {C : String} {T : u_T} {N ci index k : Nat} {v : Int64} (hv : g_fl σ ci a k = some v) (hc : classes[ci]? = some (C, T, N)) (hin : ∀ w ∈ u_ws C T N, w ∈ lw_g) (hk : k < N) (hlink : Cond.fieldLink own index (T k).1 (T k).2.1 (T k).2.2.1 ∈ lw_g) (hdg : decode cc pc = .ok (.getfield index, 3))
    (kk : W p l e R s m args below meth c H locs cells slots Q (F0 m (pc + 3) ls (.long v :: rest))) : W p l e R s m args below meth c H locs cells slots Q (F0 m pc ls (.ref a :: rest)) := by
  obtain ⟨fs, h1, h2⟩ := g_fl_spec hv
  exact va_get (D := D.1) hx hb hts hin hown hK.1 (g_P1 hG h1) 0 rfl hc k hk (hts _ hlink) (fun _ h => h) h2 hdg kk
theorem g_getr (hx : p.tables.exec = Jvm.exec) (hb : c.code = cc) (hts : ∀ w ∈ lw_g, w.before args s = true) (hown : s.vm.findClass own = some m.cls) (hK : g_K D s) (hG : g_H D σ H) {C : String} {T : u_T} {N ci index k v : Nat} (hv : g_fr σ ci a k = some v) (hc : classes[ci]? = some (C, T, N)) (hin : ∀ w ∈ u_ws C T N, w ∈ lw_g) (hk : k < N) (hlink : Cond.fieldLink own index (T k).1 (T k).2.1 (T k).2.2.1 ∈ lw_g) (hdg : decode cc pc = .ok (.getfield index, 3))
    (kk : W p l e R s m args below meth c H locs cells slots Q (F0 m (pc + 3) ls (.ref v :: rest))) : W p l e R s m args below meth c H locs cells slots Q (F0 m pc ls (.ref a :: rest)) := by
  obtain ⟨fs, h1, h2⟩ := g_fr_spec hv
  exact va_get (D := D.1) hx hb hts hin hown hK.1 (g_P1 hG h1) 0 rfl hc k hk (hts _ hlink) (fun _ h => h) h2 hdg kk
theorem g_put (hx : p.tables.exec = Jvm.exec) (hb : c.code = cc) (hts : ∀ w ∈ lw_g, w.before args s = true) (hown : s.vm.findClass own = some m.cls) (hK : g_K D s) (hG : g_H D σ H) (hS0 : va_S (g_A D) s.heap H locs) {C : String} {T : u_T} {N ci index k : Nat} {v : Value} (hv : g_p σ ci a k v = some σ') (hc : classes[ci]? = some (C, T, N)) (hin : ∀ w ∈ u_ws C T N, w ∈ lw_g) (ty0 : Nat → FieldType) (hty : ∀ k, k < N → parseFieldDescriptor (T k).2.2.1 = some (ty0 k)) (hnm : ∀ a, a < N → ∀ b, b < N → a ≠ b → (T a).2.1 ≠ (T b).2.1)
    (hk : k < N) (hlink : Cond.fieldLink own index (T k).1 (T k).2.1 (T k).2.2.1 ∈ lw_g) (hfin : (T k).2.2.2 = false) (hn : narrow (ty0 k) v = v) (hfit : fits (ty0 k) v = true) (hdg : decode cc pc = .ok (.putfield index, 3))
    (kk : ∀ (H1 : Heap) (locs1 : List Loc), g_H D σ' H1 → va_S (g_A D) s.heap H1 locs1 → W p l e R s m args below meth c H1 locs1 cells slots Q (F0 m (pc + 3) ls rest)) : W p l e R s m args below meth c H locs cells slots Q (F0 m pc ls (v :: .ref a :: rest)) := by
  obtain ⟨fs, he, hl, rfl⟩ := g_p_spec hv
  have hap := va_apart (own := own) hts hin ty0 hty hnm hK.1 hc
  obtain ⟨hAa, r, h1, cell, q1, q2, q3, q4⟩ := hG.2.2 a _ he
  have hr : r = (C, T, N) := Option.some.inj (h1.symm.trans hc)
  subst hr
  obtain ⟨hS, hfc, kC, hkC, hkind⟩ := hK.1.1 ci _ hc
  obtain ⟨cf, kf, fi, f, hi, hsl⟩ := hS k hk
  have hlay := hts _ (hin _ (u_in_lay hk))
  unfold u_lay at hlay
  rw [if_neg (by rw [hfin]; decide)] at hlay
  have hst := (u_facts hfc hkC (u_lays hts hin hk) hi).1
  have h6 := u_store hfc hkC hkind hlay hi (hty k hk) hn hfit
  refine W.putK hx hb (f := f) ⟨hown, hts _ hlink, ⟨_, _, _, hi⟩, hst⟩ (by rw [q2]; exact h6) q1 q3 (by rw [hsl]; exact k2_hasslot (q4 k hk)) rfl rfl hdg fun H' e1 e2 e3 => ?_
  rw [hsl] at e1 ⊢
  exact kk H' _ (hG.put he e2 e3 ⟨_, hc, t_OB.to (V := updV (vp_V fs) k v) ⟨_, e1, q2, q3, t_set q4 hap hk v⟩ (fun j _ => vp_updV_set hl v j)⟩) (hS0.put e2 e3 hAa)
theorem g_putF (hx : p.tables.exec = Jvm.exec) (hb : c.code = cc) (hts : ∀ w ∈ lw_g, w.before args s = true) (hown : s.vm.findClass own = some m.cls) (hin2 : meth.name = "<init>") (hK : g_K D s) (hG : g_H D σ H) (hS0 : va_S (g_A D) s.heap H locs) {C : String} {T : u_T} {N ci index k : Nat} {v : Value} (hv : g_p σ ci a k v = some σ') (hc : classes[ci]? = some (C, T, N)) (hin : ∀ w ∈ u_ws C T N, w ∈ lw_g) (ty0 : Nat → FieldType) (hty : ∀ k, k < N → parseFieldDescriptor (T k).2.2.1 = some (ty0 k)) (hnm : ∀ a, a < N → ∀ b, b < N → a ≠ b → (T a).2.1 ≠ (T b).2.1)
    (hk : k < N) (hlink : Cond.fieldLink own index (T k).1 (T k).2.1 (T k).2.2.1 ∈ lw_g) (hfin : (T k).2.2.2 = true) (hdecl : (T k).1 = own) (hn : narrow (ty0 k) v = v) (hfit : fits (ty0 k) v = true) (hdg : decode cc pc = .ok (.putfield index, 3))
    (kk : ∀ (H1 : Heap) (locs1 : List Loc), g_H D σ' H1 → va_S (g_A D) s.heap H1 locs1 → W p l e R s m args below meth c H1 locs1 cells slots Q (F0 m (pc + 3) ls rest)) : W p l e R s m args below meth c H locs cells slots Q (F0 m pc ls (v :: .ref a :: rest)) := by
  obtain ⟨fs, he, hl, rfl⟩ := g_p_spec hv
  have hap := va_apart (own := own) hts hin ty0 hty hnm hK.1 hc
  obtain ⟨hAa, r, h1, cell, q1, q2, q3, q4⟩ := hG.2.2 a _ he
  have hr : r = (C, T, N) := Option.some.inj (h1.symm.trans hc)
  subst hr
  obtain ⟨hS, hfc, kC, hkC, hkind⟩ := hK.1.1 ci _ hc
  obtain ⟨cf, kf, fi, f, hi, hsl⟩ := hS k hk
  have hlay := hts _ (hin _ (u_in_lay hk))
  unfold u_lay at hlay
  rw [if_pos hfin] at hlay
  have hst := (u_facts hfc hkC (u_lays hts hin hk) hi).1
  have hcf : m.cls = cf := by
    obtain ⟨_, _, c', _, _, _, -, -, hf', -, -, -, hown2, -⟩ := Cond.laysFinal_spec hlay
    have e1 : c' = cf := by have := hi.symm.trans hf'; simp at this; exact this.1.symm
    rw [hdecl] at hown2
    rw [← e1]; exact Option.some.inj (hown.symm.trans hown2)
  have h6 := u_fits hfc hkC hkind (Or.inr hlay) hi (hty k hk) hn hfit
  refine W.putFinK hx hb hown (hts _ hlink) hi hst hcf hin2 (by rw [q2]; exact h6) q1 q3 (by rw [hsl]; exact k2_hasslot (q4 k hk)) rfl rfl hdg fun H' e1 e2 e3 => ?_
  rw [hsl] at e1 ⊢
  exact kk H' _ (hG.put he e2 e3 ⟨_, hc, t_OB.to (V := updV (vp_V fs) k v) ⟨_, e1, q2, q3, t_set q4 hap hk v⟩ (fun j _ => vp_updV_set hl v j)⟩) (hS0.put e2 e3 hAa)
-- arrays
theorem g_iald (hx : p.tables.exec = Jvm.exec) (hb : c.code = cc) (hK : g_K D s) (hG : g_H D σ H) {t : Nat} {i v : Int32} (hv : g_li σ t a i = some v) (ht : (g_tys D.2.1)[t]? = some (D.2.1 t, .int)) (hdg : decode cc pc = .ok (.iaload, 1))
    (kk : W p l e R s m args below meth c H locs cells slots Q (F0 m (pc + 1) ls (.int v :: rest))) : W p l e R s m args below meth c H locs cells slots Q (F0 m pc ls (.int i :: .ref a :: rest)) := by
  obtain ⟨n, f, h1, h2, rfl⟩ := g_li_spec hv
  exact va_iald (D := D.1) hx hb hK.1 (g_P1 hG h1) 0 t rfl ht h2 hdg kk
theorem g_bald (hx : p.tables.exec = Jvm.exec) (hb : c.code = cc) (hK : g_K D s) (hG : g_H D σ H) {t : Nat} {i v : Int32} (hv : g_li σ t a i = some v) (ht : (g_tys D.2.1)[t]? = some (D.2.1 t, .byte)) (hdg : decode cc pc = .ok (.baload, 1))
    (kk : W p l e R s m args below meth c H locs cells slots Q (F0 m (pc + 1) ls (.int v :: rest))) : W p l e R s m args below meth c H locs cells slots Q (F0 m pc ls (.int i :: .ref a :: rest)) := by
  obtain ⟨n, f, h1, h2, rfl⟩ := g_li_spec hv
  exact va_bald (D := D.1) hx hb hK.1 (g_P1 hG h1) 0 t rfl ht h2 hdg kk
theorem g_zald (hx : p.tables.exec = Jvm.exec) (hb : c.code = cc) (hK : g_K D s) (hG : g_H D σ H) {t : Nat} {i v : Int32} (hv : g_li σ t a i = some v) (ht : (g_tys D.2.1)[t]? = some (D.2.1 t, .boolean)) (hdg : decode cc pc = .ok (.baload, 1))
    (kk : W p l e R s m args below meth c H locs cells slots Q (F0 m (pc + 1) ls (.int v :: rest))) : W p l e R s m args below meth c H locs cells slots Q (F0 m pc ls (.int i :: .ref a :: rest)) := by
  obtain ⟨n, f, h1, h2, rfl⟩ := g_li_spec hv
  exact va_zald (D := D.1) hx hb hK.1 (g_P1 hG h1) 0 t rfl ht h2 hdg kk
theorem g_cald (hx : p.tables.exec = Jvm.exec) (hb : c.code = cc) (hK : g_K D s) (hG : g_H D σ H) {t : Nat} {i v : Int32} (hv : g_li σ t a i = some v) (ht : (g_tys D.2.1)[t]? = some (D.2.1 t, .char)) (hdg : decode cc pc = .ok (.caload, 1))
    (kk : W p l e R s m args below meth c H locs cells slots Q (F0 m (pc + 1) ls (.int v :: rest))) : W p l e R s m args below meth c H locs cells slots Q (F0 m pc ls (.int i :: .ref a :: rest)) := by
  obtain ⟨n, f, h1, h2, rfl⟩ := g_li_spec hv
  exact va_cald (D := D.1) hx hb hK.1 (g_P1 hG h1) 0 t rfl ht h2 hdg kk
theorem g_lald (hx : p.tables.exec = Jvm.exec) (hb : c.code = cc) (hK : g_K D s) (hG : g_H D σ H) {t : Nat} {i : Int32} {v : Int64} (hv : g_ll σ t a i = some v) (ht : (g_tys D.2.1)[t]? = some (D.2.1 t, .long)) (hdg : decode cc pc = .ok (.laload, 1))
    (kk : W p l e R s m args below meth c H locs cells slots Q (F0 m (pc + 1) ls (.long v :: rest))) : W p l e R s m args below meth c H locs cells slots Q (F0 m pc ls (.int i :: .ref a :: rest)) := by
  obtain ⟨n, f, h1, h2, rfl⟩ := g_ll_spec hv
  exact va_lald (D := D.1) hx hb hK.1 (g_P1 hG h1) 0 t rfl ht h2 hdg kk
theorem g_qald (hx : p.tables.exec = Jvm.exec) (hb : c.code = cc) (hK : g_K D s) (hG : g_H D σ H) {t : Nat} {i : Int32} {v : Nat} {C : String} (hv : g_lq σ t a i = some v) (ht : (g_tys D.2.1)[t]? = some (D.2.1 t, .object C)) (hdg : decode cc pc = .ok (.aaload, 1))
    (kk : W p l e R s m args below meth c H locs cells slots Q (F0 m (pc + 1) ls (.ref v :: rest))) : W p l e R s m args below meth c H locs cells slots Q (F0 m pc ls (.int i :: .ref a :: rest)) := by
  obtain ⟨n, f, h1, h2, h3⟩ := g_lq_spec hv
  refine va_aldq (D := D.1) hx hb hK.1 (g_P1 hG h1) 0 t rfl ht h2 hdg ?_
  rw [h3]
  exact kk
theorem g_alen (hx : p.tables.exec = Jvm.exec) (hb : c.code = cc) (hK : g_K D s) (hG : g_H D σ H) {t : Nat} {v : Int32} {ty : FieldType} (hv : g_len σ t a = some v) (ht : (g_tys D.2.1)[t]? = some (D.2.1 t, ty)) (hdg : decode cc pc = .ok (.arraylength, 1))
    (kk : W p l e R s m args below meth c H locs cells slots Q (F0 m (pc + 1) ls (.int v :: rest))) : W p l e R s m args below meth c H locs cells slots Q (F0 m pc ls (.ref a :: rest)) := by
  obtain ⟨x, h1, rfl⟩ := g_len_spec hv
  exact va_alen (D := D.1) hx hb hK.1 (g_P1 hG h1) 0 t rfl ht rfl hdg kk
theorem g_sto {cA : ClassId} {n : Nat} {f g : Nat → Int32} {k : Nat} {x : Int32} {y : Value} {H1 : Heap} (e : H1[a]? = some ((vp_cell cA (n, .inl f)).setSlot k y)) (hy : y = .int x) (hg : ∀ q, g q = upd f k x q) : H1[a]? = some (vp_cell cA (n, .inl g)) := by
  rw [e, vp_cell_i, vp_cell_i, arrV_store, hy]
  congr 2
  funext q
  rw [hg q]
  by_cases hq : q = k
  · subst hq; simp [updV, upd]
  · simp [updV, upd, hq]
theorem g_iast (hx : p.tables.exec = Jvm.exec) (hb : c.code = cc) (hK : g_K D s) (hG : g_H D σ H) (hS : va_S (g_A D) s.heap H locs) {t : Nat} {i x : Int32} (hv : g_si σ t a i x = some σ') (ht : (g_tys D.2.1)[t]? = some (D.2.1 t, .int)) (hdg : decode cc pc = .ok (.iastore, 1))
    (kk : ∀ (H1 : Heap) (locs1 : List Loc), g_H D σ' H1 → va_S (g_A D) s.heap H1 locs1 → W p l e R s m args below meth c H1 locs1 cells slots Q (F0 m (pc + 1) ls rest)) : W p l e R s m args below meth c H locs cells slots Q (F0 m pc ls (.int x :: .int i :: .ref a :: rest)) := by
  obtain ⟨n, f, h1, h2, rfl⟩ := g_si_spec hv
  obtain ⟨hA, hc⟩ := hG.2.2 a _ h1
  have hc : H[a]? = some (vp_cell (D.2.1 t) (n, .inl f)) := hc
  refine W.iast hx hb hc ((hK.1.2 t _ ht).1 n (fun j => .int (f j))) (fun q => by cases q) (by show ¬ (i < 0 ∨ (arrV _ _ _).slots.size ≤ _); rw [arrV_size]; exact h2) rfl rfl hdg fun H1 e z oq => ?_
  exact kk H1 _ (hG.put h1 z oq (g_sto e rfl (fun _ => rfl))) (hS.put z oq hA)
theorem g_bast (hx : p.tables.exec = Jvm.exec) (hb : c.code = cc) (hK : g_K D s) (hG : g_H D σ H) (hS : va_S (g_A D) s.heap H locs) {t : Nat} {i x : Int32} (hv : g_si σ t a i (vp_nar .byte x) = some σ') (ht : (g_tys D.2.1)[t]? = some (D.2.1 t, .byte)) (hdg : decode cc pc = .ok (.bastore, 1))
    (kk : ∀ (H1 : Heap) (locs1 : List Loc), g_H D σ' H1 → va_S (g_A D) s.heap H1 locs1 → W p l e R s m args below meth c H1 locs1 cells slots Q (F0 m (pc + 1) ls rest)) : W p l e R s m args below meth c H locs cells slots Q (F0 m pc ls (.int x :: .int i :: .ref a :: rest)) := by
  obtain ⟨n, f, h1, h2, rfl⟩ := g_si_spec hv
  obtain ⟨hA, hc⟩ := hG.2.2 a _ h1
  have hc : H[a]? = some (vp_cell (D.2.1 t) (n, .inl f)) := hc
  refine W.bast hx hb hc ((hK.1.2 t _ ht).1 n (fun j => .int (f j))) (fun q => by cases q) (by show ¬ (i < 0 ∨ (arrV _ _ _).slots.size ≤ _); rw [arrV_size]; exact h2) rfl rfl hdg fun H1 e z oq => ?_
  exact kk H1 _ (hG.put h1 z oq (g_sto e rfl (fun _ => rfl))) (hS.put z oq hA)
theorem g_zast (hx : p.tables.exec = Jvm.exec) (hb : c.code = cc) (hK : g_K D s) (hG : g_H D σ H) (hS : va_S (g_A D) s.heap H locs) {t : Nat} {i x : Int32} (hv : g_si σ t a i (vp_nar .boolean x) = some σ') (ht : (g_tys D.2.1)[t]? = some (D.2.1 t, .boolean)) (hdg : decode cc pc = .ok (.bastore, 1))
    (kk : ∀ (H1 : Heap) (locs1 : List Loc), g_H D σ' H1 → va_S (g_A D) s.heap H1 locs1 → W p l e R s m args below meth c H1 locs1 cells slots Q (F0 m (pc + 1) ls rest)) : W p l e R s m args below meth c H locs cells slots Q (F0 m pc ls (.int x :: .int i :: .ref a :: rest)) := by
  obtain ⟨n, f, h1, h2, rfl⟩ := g_si_spec hv
  obtain ⟨hA, hc⟩ := hG.2.2 a _ h1
  have hc : H[a]? = some (vp_cell (D.2.1 t) (n, .inl f)) := hc
  refine W.zast hx hb hc ((hK.1.2 t _ ht).1 n (fun j => .int (f j))) (fun q => by cases q) (by show ¬ (i < 0 ∨ (arrV _ _ _).slots.size ≤ _); rw [arrV_size]; exact h2) rfl rfl hdg fun H1 e z oq => ?_
  exact kk H1 _ (hG.put h1 z oq (g_sto e rfl (fun _ => rfl))) (hS.put z oq hA)
theorem g_cast (hx : p.tables.exec = Jvm.exec) (hb : c.code = cc) (hK : g_K D s) (hG : g_H D σ H) (hS : va_S (g_A D) s.heap H locs) {t : Nat} {i x : Int32} (hv : g_si σ t a i (vp_nar .char x) = some σ') (ht : (g_tys D.2.1)[t]? = some (D.2.1 t, .char)) (hdg : decode cc pc = .ok (.castore, 1))
    (kk : ∀ (H1 : Heap) (locs1 : List Loc), g_H D σ' H1 → va_S (g_A D) s.heap H1 locs1 → W p l e R s m args below meth c H1 locs1 cells slots Q (F0 m (pc + 1) ls rest)) : W p l e R s m args below meth c H locs cells slots Q (F0 m pc ls (.int x :: .int i :: .ref a :: rest)) := by
  obtain ⟨n, f, h1, h2, rfl⟩ := g_si_spec hv
  obtain ⟨hA, hc⟩ := hG.2.2 a _ h1
  have hc : H[a]? = some (vp_cell (D.2.1 t) (n, .inl f)) := hc
  refine W.cast hx hb hc ((hK.1.2 t _ ht).1 n (fun j => .int (f j))) (fun q => by cases q) (by show ¬ (i < 0 ∨ (arrV _ _ _).slots.size ≤ _); rw [arrV_size]; exact h2) rfl rfl hdg fun H1 e z oq => ?_
  exact kk H1 _ (hG.put h1 z oq (g_sto e rfl (fun _ => rfl))) (hS.put z oq hA)
theorem g_last (hx : p.tables.exec = Jvm.exec) (hb : c.code = cc) (hK : g_K D s) (hG : g_H D σ H) (hS : va_S (g_A D) s.heap H locs) {t : Nat} {i : Int32} {x : Int64} (hv : g_sl σ t a i x = some σ') (ht : (g_tys D.2.1)[t]? = some (D.2.1 t, .long)) (hdg : decode cc pc = .ok (.lastore, 1))
    (kk : ∀ (H1 : Heap) (locs1 : List Loc), g_H D σ' H1 → va_S (g_A D) s.heap H1 locs1 → W p l e R s m args below meth c H1 locs1 cells slots Q (F0 m (pc + 1) ls rest)) : W p l e R s m args below meth c H locs cells slots Q (F0 m pc ls (.long x :: .int i :: .ref a :: rest)) := by
  obtain ⟨n, f, h1, h2, rfl⟩ := g_sl_spec hv
  obtain ⟨hA, hc⟩ := hG.2.2 a _ h1
  have hc : H[a]? = some (vp_cell (D.2.1 t) (n, .inr (.inl f))) := hc
  refine W.last hx hb hc ((hK.1.2 t _ ht).1 n (fun j => .long (f j))) (fun q => by cases q) (by show ¬ (i < 0 ∨ (arrV _ _ _).slots.size ≤ _); rw [arrV_size]; exact h2) rfl rfl hdg fun H1 e z oq => ?_
  refine kk H1 _ (hG.put h1 z oq ?_) (hS.put z oq hA)
  show H1[a]? = some (vp_cell _ _)
  rw [e]
  show some ((vp_cell _ (n, .inr (.inl f))).setSlot _ _) = some (vp_cell _ (n, .inr (.inl _)))
  rw [vp_cell_l, vp_cell_l, arrV_store]
  congr 2
  funext q
  by_cases hq : q = i.toNatClampNeg
  · subst hq; simp [updV, vp_updL]
  · simp [updV, vp_updL, hq]
theorem g_qast (hx : p.tables.exec = Jvm.exec) (hb : c.code = cc) (hK : g_K D s) (hG : g_H D σ H) (hS : va_S (g_A D) s.heap H locs) {t ci v : Nat} {i : Int32} {r : vw_C} (hv : g_sq σ t ci a i v = some σ') (hci : classes[ci]? = some r) (ht : (g_tys D.2.1)[t]? = some (D.2.1 t, .object r.1)) (hdg : decode cc pc = .ok (.aastore, 1))
    (kk : ∀ (H1 : Heap) (locs1 : List Loc), g_H D σ' H1 → va_S (g_A D) s.heap H1 locs1 → W p l e R s m args below meth c H1 locs1 cells slots Q (F0 m (pc + 1) ls rest)) : W p l e R s m args below meth c H locs cells slots Q (F0 m pc ls (.ref v :: .int i :: .ref a :: rest)) := by
  obtain ⟨vs, n, f, h0, h1, h2, rfl⟩ := g_sq_spec hv
  obtain ⟨hA, hc⟩ := hG.2.2 a _ h1
  have hc : H[a]? = some (vp_cell (D.2.1 t) (n, .inr (.inr (.inr (.inr f))))) := hc
  obtain ⟨-, r', hr', cellV, g1, g2, g3, -⟩ := hG.2.2 v _ h0
  have hcls := (hK.1.1 ci r hci).2
  obtain ⟨kA, comp, k1, k2, k3, -⟩ := (hK.1.2 t _ ht).2
  have hcomp : comp = D.1.1 ci := Option.some.inj (k3.symm.trans hcls.1)
  subst hcomp
  obtain ⟨kC, hkC, -⟩ := hcls.2
  have hlt : i.toNatClampNeg < n := Nat.not_le.mp fun q => h2 (Or.inr q)
  refine W.aast hx hb hc (fun q h => by cases h) (fun h => by cases h) k1 k2 rfl hkC ⟨fun q => h2 (Or.inl q), by show _ < (arrV _ _ _).slots.size; rw [arrV_size]; exact hlt⟩ g1 (fun q h => by rw [g3] at h; cases h) (by rw [g2]; exact hkC) (by rw [g2]; exact va_assign hcls) rfl rfl hdg fun H1 e z oq => ?_
  refine kk H1 _ (hG.put h1 z oq ?_) (hS.put z oq hA)
  show H1[a]? = some (vp_cell _ _)
  rw [e]
  show some ((vp_cell _ (n, .inr (.inr (.inr (.inr f))))).setSlot _ _) = some (vp_cell _ (n, .inr (.inr (.inr (.inr _)))))
  rw [vp_cell_q, vp_cell_q, arrV_store]
  congr 2
  funext q
  by_cases hq : q = i.toNatClampNeg
  · subst hq; simp [updV, va_up, va_rf]
  · simp [updV, va_up, hq]
end GR
