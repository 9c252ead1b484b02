/-! the law: what holds at its entry -/
theorem inX7 : Cond.instantiable RX7 4 ∈ lw_g := g_memT1 21 rfl rfl
theorem inX8 : Cond.instantiable RX8 8 ∈ lw_g := g_memT3 188 rfl rfl
theorem itX7 : Cond.initialized RX7 ∈ lw_g := g_memT1 1 rfl rfl
theorem itX8 : Cond.initialized RX8 ∈ lw_g := g_memT1 10 rfl rfl
theorem ac_long : Cond.arrayClass .long ∈ lw_g := g_memT4 176 rfl rfl
theorem t_mem1 {w : Cond} (i : Nat) (h : tables_1_1[i]? = some w) : w ∈ lw_tbl := List.mem_append_right _ (List.mem_append_left _ (List.mem_of_getElem? h))
theorem t_mem3 {w : Cond} (i : Nat) (h : tables_1_3[i]? = some w) : w ∈ lw_tbl := List.mem_append_right _ (List.mem_append_right _ (List.mem_append_right _ (List.mem_append_left _ (List.mem_of_getElem? h))))
section LK
variable {s : State} {b : Nat}
theorem law_cls (hg : ∀ w ∈ lw_g, w.before #[Value.ref b] s = true) : ∃ (dC : Nat → ClassId) (dI : Nat → Nat → Nat), ∀ (k : Nat) (q : vw_C), classes[k]? = some q → u_Kn s q.1 q.2.1 q.2.2 (dC k) (dI k) := by
  obtain ⟨c0, i0, h0⟩ := u_known (C := RX0) (T := TX0) (N := 7) hg iX0 (hg _ inX0)
  obtain ⟨c1, i1, h1⟩ := u_known (C := RX1) (T := TX1) (N := 3) hg iX1 (hg _ inX1)
  obtain ⟨c2, i2, h2⟩ := u_known (C := RX2) (T := TX2) (N := 3) hg iX2 (hg _ inX2)
  obtain ⟨c3, i3, h3⟩ := u_known (C := RX3) (T := TX3) (N := 2) hg iX3 (hg _ inX3)
  obtain ⟨c4, i4, h4⟩ := u_known (C := RX4) (T := TX4) (N := 8) hg iX4 (hg _ inX4)
  obtain ⟨c5, i5, h5⟩ := u_known (C := RX5) (T := TX5) (N := 3) hg iX5 (hg _ inX5)
  obtain ⟨c6, i6, h6⟩ := u_known (C := RX6) (T := TX6) (N := 3) hg iX6 (hg _ inX6)
  obtain ⟨c7, i7, h7⟩ := u_known (C := RX7) (T := TX7) (N := 4) hg iX7 (hg _ inX7)
  obtain ⟨c8, i8, h8⟩ := u_known (C := RX8) (T := TX8) (N := 8) hg iX8 (hg _ inX8)
  refine ⟨fun k => if k = 0 then c0 else if k = 1 then c1 else if k = 2 then c2 else if k = 3 then c3 else if k = 4 then c4 else if k = 5 then c5 else if k = 6 then c6 else if k = 7 then c7 else c8, fun k => if k = 0 then i0 else if k = 1 then i1 else if k = 2 then i2 else if k = 3 then i3 else if k = 4 then i4 else if k = 5 then i5 else if k = 6 then i6 else if k = 7 then i7 else i8, ?_⟩
  intro k q hq
  match k, hq with
  | 0, hq => cases hq; exact h0
  | 1, hq => cases hq; exact h1
  | 2, hq => cases hq; exact h2
  | 3, hq => cases hq; exact h3
  | 4, hq => cases hq; exact h4
  | 5, hq => cases hq; exact h5
  | 6, hq => cases hq; exact h6
  | 7, hq => cases hq; exact h7
  | 8, hq => cases hq; exact h8
  | k + 9, hq => simp [classes] at hq
theorem law_arr1 {ty : FieldType} (hRA : ∀ cA, va_RA s cA ty = (s.vm.findClass ("[" ++ ty.toString) = some cA)) (h : (Cond.arrayClass ty).before #[Value.ref b] s = true) : ∃ cA, ArrOfT s cA ty ∧ va_RA s cA ty := by
  obtain ⟨cA, kA, comp, h1, h2, h3⟩ := Cond.arrayClass_spec h
  exact ⟨cA, fun n z => ⟨fun k h => (by cases h), kA, h2, comp, h3⟩, by rw [hRA]; exact h1⟩
theorem law_arr (hg : ∀ w ∈ lw_g, w.before #[Value.ref b] s = true) (hO : (Cond.arrayOver (.object RX2)).before #[Value.ref b] s = true) : ∃ cT : Nat → ClassId, ∀ (k : Nat) (q : ClassId × FieldType), (g_tys cT)[k]? = some q → ArrOfT s q.1 q.2 ∧ va_RA s q.1 q.2 := by
  obtain ⟨a0, h0⟩ := law_arr1 (ty := .int) (fun _ => rfl) (hg _ ac_int)
  obtain ⟨a1, h1⟩ := law_arr1 (ty := .byte) (fun _ => rfl) (hg _ ac_byte)
  obtain ⟨a2, h2⟩ := law_arr1 (ty := .char) (fun _ => rfl) (hg _ ac_char)
  obtain ⟨a3, h3⟩ := law_arr1 (ty := .long) (fun _ => rfl) (hg _ ac_long)
  obtain ⟨a5, h5⟩ := law_arr1 (ty := .boolean) (fun _ => rfl) (hg _ ac_boolean)
  obtain ⟨comp, a4, k4, g1, g2, g3, g4, g5⟩ := Cond.arrayOver_spec hO
  have h4 : ArrOfT s a4 (.object RX2) ∧ va_RA s a4 (.object RX2) := ⟨fun n z => ⟨fun k h => (by cases h), k4, g3, comp, g4⟩, k4, comp, g3, g4, g1, g5⟩
  refine ⟨fun k => if k = 0 then a0 else if k = 1 then a1 else if k = 2 then a2 else if k = 3 then a3 else if k = 4 then a4 else a5, ?_⟩
  intro k q hq
  match k, hq with
  | 0, hq => cases hq; exact h0
  | 1, hq => cases hq; exact h1
  | 2, hq => cases hq; exact h2
  | 3, hq => cases hq; exact h3
  | 4, hq => cases hq; exact h4
  | 5, hq => cases hq; exact h5
  | k + 6, hq => simp [g_tys] at hq
set_option maxRecDepth 100000 in
theorem law_K (hts : ∀ w ∈ lw_tbl, w.before #[Value.ref b] s = true) (hgv : (Jvm.Cond.and given_1 narrow_1).before #[Value.ref b] s = true) : ∃ (D : g_D) (sa : Nat), D.2.2.1 = s.heap.size ∧ g_K D s ∧ g_KX D sa s := by
  have hg : ∀ w ∈ lw_g, w.before #[Value.ref b] s = true := fun w h => hts w (List.mem_filter.mp h).1
  have hO : (Cond.arrayOver (.object RX2)).before #[Value.ref b] s = true := hts _ (t_mem1 29 rfl)
  obtain ⟨dC, dI, hC⟩ := law_cls hg
  obtain ⟨cT, hT⟩ := law_arr hg hO
  have hs := flat_of_before _ hgv
  have hA : ∀ a : Nat, a < s.heap.size → ¬ (fun q : Nat => s.heap.size ≤ q) a := fun a h => Nat.not_le.mpr h
  obtain ⟨adK, adV, hS, hE⟩ := vk_Sof (args := #[Value.ref b]) (s := s) (N := 1) (tm := fun _ => Term.string RX6 71) (len := [36]) (byt := [g_byt]) (A := fun q : Nat => s.heap.size ≤ q) (fun i hi => by rw [show i = 0 by omega]; decide) (fun i hi => hs _ (by decide +kernel)) (fun i hi => hs _ (by decide +kernel)) (fun i hi => hs _ (by decide +kernel))
    (fun i hi => by rw [show i = 0 by omega]; exact hs _ (by decide +kernel))
    (fun i hi j hj => by
      have hi0 : i = 0 := by omega
      subst hi0
      have hj : j < 36 := hj
      have key : ∀ j, j < 36 → (Cond.eq (.elem (.field (Term.string RX6 71) "java/lang/String" "value" "[B") (.int (Int32.ofNat j))) (.int (g_byt.getD j 0))) ∈ flatC (Jvm.Cond.and given_1 narrow_1) := by decide +kernel
      exact hs _ (key j hj)) (fun i j hi hj hne => absurd (show i = j by omega) hne) hA
  obtain ⟨ha, hax⟩ : ∃ sa : Nat, (Term.string RX7 91).eval #[Value.ref b] s none [] s = some (.ref sa) := by
    obtain ⟨a, c, cA, kA, q1, -⟩ := Cond.exactly_spec (args := #[Value.ref b]) (first := s) (o := none) (s := s) (idx := []) (t := Term.string RX7 91) (cls := "java/lang/String") (hs _ (by decide +kernel))
    exact ⟨a, q1⟩
  refine ⟨((dC, dI), cT, s.heap.size, adK, adV), ha, rfl, ⟨⟨hC, hT⟩, ⟨?_, va_AO.of hO⟩, vk_R.of (hts _ (t_mem3 58 rfl)) (hE 0 (by omega)), hS, ?_, ?_⟩, vk_R.of (hts _ (t_mem3 161 rfl)) hax, ?_, ?_, fun w hw => va_Nw.of (nb_on w hw) (hts w (nb_tbl w hw))⟩
  · intro q hq
    have hq : q = (RX7, 17, yX4_init, "FractionDesk") ∨ q = (RX4, 22, yX0_init, "FractionDesk") ∨ q = (RX0, 11, yX1_init, "FractionDesk") ∨ q = (RX7, 24, yX5_init, "FractionDesk") ∨ q = (RX7, 31, yX6_init, "FractionDesk") := by
      simpa [g_nestM] using hq
    rcases hq with rfl | rfl | rfl | rfl | rfl
    · exact va_Nw.of rfl (hts _ (t_mem1 32 rfl))
    · exact va_Nw.of rfl (hts _ (t_mem1 95 rfl))
    · exact va_Nw.of rfl (hts _ (t_mem1 101 rfl))
    · exact va_Nw.of rfl (hts _ (t_mem1 175 rfl))
    · exact va_Nw.of rfl (hts _ (t_mem1 193 rfl))
  · exact va_Zof (hts _ (t_mem3 68 rfl)) (hts _ (t_mem1 12 rfl)) (va_eqt (hs _ (by decide +kernel))) hA
  · exact va_Zqof (hts _ (t_mem3 76 rfl)) (hts _ (t_mem1 14 rfl)) (hs _ (by decide +kernel)) hA
  · exact vx_Zqof (hts _ (t_mem3 149 rfl)) (hts _ (t_mem1 16 rfl)) (hs _ (by decide +kernel)) hA
  · exact vx_Zqof (hts _ (t_mem3 151 rfl)) (hts _ (t_mem1 16 rfl)) (hs _ (by decide +kernel)) hA
end LK
