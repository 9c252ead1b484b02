/-! the desk is made, whole -/
theorem g_cell {σ σ' : g_S} {q : Nat} {e : Option g_E} (h : σ'.1 q = σ.1 q) (h2 : σ.1 q = e) : σ'.1 q = e := h.trans h2
theorem i_desk0 {σ : g_S} {x n : Nat} (h2 : σ.2 = n) (hx : x < n) (hc : σ.1 x = some (.inr (7, [.null, .null, .null, .null]))) : ∃ σb, (∀ q, q < n → q ≠ x → σb.1 q = σ.1 q) ∧ σb.2 = n + 35 ∧ σb.1 x = some (.inr (7, [.ref n, .ref (n + 1), .ref (n + 29), .ref (n + 31)])) ∧ σb.1 n = some (.inl (4, 16, .inr (.inr (.inr (.inr (fun _ => none)))))) ∧
    (σb.1 (n + 1) = some (.inr (4, [.ref (n + 2), .ref (n + 7), .ref (n + 8), .ref (n + 19), .ref (n + 21), .ref (n + 23), .ref (n + 25), .ref (n + 27)])) ∧ aF σb (n + 2) (n + 3) 136 ∧
    σb.1 (n + 7) = some (.inr (0, [.ref (n + 8), .ref (n + 15), .ref (n + 17), .long 0, .long 0, .long 0, .long 0])) ∧ σb.1 (n + 8) = some (.inr (1, [.ref (n + 9), .ref (n + 11), .ref (n + 13)])) ∧ nz σb (n + 9) 136 ∧ nz σb (n + 11) 136 ∧ nz σb (n + 13) 136 ∧ nz σb (n + 15) 136 ∧ nz σb (n + 17) 136 ∧ nz σb (n + 19) 67 ∧ nz σb (n + 21) 67 ∧ nz σb (n + 23) 67 ∧ nz σb (n + 25) 136 ∧ nz σb (n + 27) 136) ∧
    (σb.1 (n + 29) = some (.inr (5, [.ref (n + 30), .int 0, .int 0])) ∧ σb.1 (n + 30) = some (.inl (1, 1400, .inl (fun _ => 0)))) ∧ (σb.1 (n + 31) = some (.inr (6, [.ref (n + 32), .int 0, .ref (n + 33)])) ∧ σb.1 (n + 32) = some (.inl (2, 4098, .inl (fun _ => 0))) ∧ nz σb (n + 33) 67) ∧
    ∀ (β : Type) (Kf : g_S → Option β), (g_let σ.2 fun a2 => g_let (g_mk σ (.inl (4, 16, .inr (.inr (.inr (.inr (fun _ => none))))))) fun σ1 => (g_p σ1 7 x 0 (.ref a2)).bind fun σ3 => g_let σ3.2 fun a5 => g_let (g_mk σ3 (.inr (4, [.null, .null, .null, .null, .null, .null, .null, .null]))) fun σ4 => (fX4_init σ4 a5).bind fun r6 => (g_p r6 7 x 1 (.ref a5)).bind fun σ7 => g_let σ7.2 fun a9 => g_let (g_mk σ7 (.inr (5, [.null, .int 0, .int 0]))) fun σ8 => (fX5_init σ8 a9).bind fun r10 => (g_p r10 7 x 2 (.ref a9)).bind fun σ11 => g_let σ11.2 fun a13 => g_let (g_mk σ11 (.inr (6, [.null, .int 0, .null]))) fun σ12 => (fX6_init σ12 a13).bind fun r14 => (g_p r14 7 x 3 (.ref a13)).bind fun σ15 => Kf σ15) = Kf σb := by
  subst h2
  obtain ⟨τ1, et1⟩ : ∃ τ, τ = g_up (g_mk σ (.inl (4, 16, .inr (.inr (.inr (.inr (fun _ => none))))))) x (.inr (7, [.ref σ.2, .null, .null, .null])) := ⟨_, rfl⟩
  have hx1 : (g_mk σ (.inl (4, 16, .inr (.inr (.inr (.inr (fun _ => none))))))).1 x = some (.inr (7, [.null, .null, .null, .null])) := by rw [g_mk_q _ _ (by omega)]; exact hc
  have p1 : g_p (g_mk σ (.inl (4, 16, .inr (.inr (.inr (.inr (fun _ => none))))))) 7 x 0 (.ref σ.2) = some τ1 := by rw [et1]; exact g_p_of hx1 (Nat.le_of_ble_eq_true rfl) _
  have t1 : τ1.2 = σ.2 + 1 := by rw [et1]; rfl
  have tq1 : ∀ q, q < σ.2 → q ≠ x → τ1.1 q = σ.1 q := fun q q1 q2 => by rw [et1, g_up_n _ _ q2, g_mk_q _ _ (by omega)]
  have tn1 : τ1.1 σ.2 = some (.inl (4, 16, .inr (.inr (.inr (.inr (fun _ => none)))))) := by rw [et1, g_up_n _ _ (by omega), g_mk_n]
  have tx1 : τ1.1 x = some (.inr (7, [.ref σ.2, .null, .null, .null])) := by rw [et1]; exact g_up_s _ _ _
  obtain ⟨σ2, e2, b1, b2, b3, b4, b5, b6, c1, c2, c3, c4, c5, c6, c7, c8, c9, c10⟩ := i_reck (σ := g_mk τ1 (.inr (4, [.null, .null, .null, .null, .null, .null, .null, .null]))) (n := σ.2 + 2) (x0 := σ.2 + 1) (by show τ1.2 + 1 = _; omega) (by omega) (by rw [← t1]; exact g_mk_n _ _)
  have k2 : ∀ q, q < σ.2 + 1 → σ2.1 q = τ1.1 q := fun q q1 => by rw [b2 q (by omega) (by omega), g_mk_q _ _ (by omega)]
  obtain ⟨τ2, et2⟩ : ∃ τ, τ = g_up σ2 x (.inr (7, [.ref σ.2, .ref (σ.2 + 1), .null, .null])) := ⟨_, rfl⟩
  have p2 : g_p σ2 7 x 1 (.ref (σ.2 + 1)) = some τ2 := by rw [et2]; exact g_p_of (k := 1) (g_cell (k2 x (by omega)) tx1) (Nat.le_of_ble_eq_true rfl) _
  have t2 : τ2.2 = σ.2 + 29 := by rw [et2]; show σ2.2 = _; omega
  have tq2 : ∀ q, q ≠ x → τ2.1 q = σ2.1 q := fun q q2 => by rw [et2, g_up_n _ _ q2]
  have tx2 : τ2.1 x = some (.inr (7, [.ref σ.2, .ref (σ.2 + 1), .null, .null])) := by rw [et2]; exact g_up_s _ _ _
  obtain ⟨σ3, e3, d1, d2, d3, d4⟩ := i_tape (σ := g_mk τ2 (.inr (5, [.null, .int 0, .int 0]))) (n := σ.2 + 30) (x0 := σ.2 + 29) (by show τ2.2 + 1 = _; omega) (by omega) (by rw [← t2]; exact g_mk_n _ _)
  have k3 : ∀ q, q < σ.2 + 29 → σ3.1 q = τ2.1 q := fun q q1 => by rw [d2 q (by omega) (by omega), g_mk_q _ _ (by omega)]
  obtain ⟨τ3, et3⟩ : ∃ τ, τ = g_up σ3 x (.inr (7, [.ref σ.2, .ref (σ.2 + 1), .ref (σ.2 + 29), .null])) := ⟨_, rfl⟩
  have p3 : g_p σ3 7 x 2 (.ref (σ.2 + 29)) = some τ3 := by rw [et3]; exact g_p_of (k := 2) (g_cell (k3 x (by omega)) tx2) (Nat.le_of_ble_eq_true rfl) _
  have t3 : τ3.2 = σ.2 + 31 := by rw [et3]; show σ3.2 = _; omega
  have tq3 : ∀ q, q ≠ x → τ3.1 q = σ3.1 q := fun q q2 => by rw [et3, g_up_n _ _ q2]
  have tx3 : τ3.1 x = some (.inr (7, [.ref σ.2, .ref (σ.2 + 1), .ref (σ.2 + 29), .null])) := by rw [et3]; exact g_up_s _ _ _
  obtain ⟨σ4, e4, f1, f2, f3, f4, f5⟩ := i_text (σ := g_mk τ3 (.inr (6, [.null, .int 0, .null]))) (n := σ.2 + 32) (x0 := σ.2 + 31) (by show τ3.2 + 1 = _; omega) (by omega) (by rw [← t3]; exact g_mk_n _ _)
  have k4 : ∀ q, q < σ.2 + 31 → σ4.1 q = τ3.1 q := fun q q1 => by rw [f2 q (by omega) (by omega), g_mk_q _ _ (by omega)]
  obtain ⟨τ4, et4⟩ : ∃ τ, τ = g_up σ4 x (.inr (7, [.ref σ.2, .ref (σ.2 + 1), .ref (σ.2 + 29), .ref (σ.2 + 31)])) := ⟨_, rfl⟩
  have p4 : g_p σ4 7 x 3 (.ref (σ.2 + 31)) = some τ4 := by rw [et4]; exact g_p_of (k := 3) (g_cell (k4 x (by omega)) tx3) (Nat.le_of_ble_eq_true rfl) _
  have q4 : ∀ q, q ≠ x → τ4.1 q = σ4.1 q := fun q q2 => by rw [et4, g_up_n _ _ q2]
  have q3 : ∀ q, q < σ.2 + 31 → q ≠ x → τ4.1 q = σ3.1 q := fun q q1 q2 => by rw [q4 q q2, k4 q q1, tq3 q q2]
  have q2 : ∀ q, q < σ.2 + 29 → q ≠ x → τ4.1 q = σ2.1 q := fun q q1 q2 => by rw [q3 q (by omega) q2, k3 q q1, tq2 q q2]
  have q1 : ∀ q, q < σ.2 + 1 → q ≠ x → τ4.1 q = τ1.1 q := fun q q1 q2' => by rw [q2 q (by omega) q2', k2 q q1]
  have z : ∀ {a cap}, nz σ2 a cap → σ.2 ≤ a → a < σ.2 + 28 → nz τ4 a cap := fun h h1 h2 => h.kp (q2 _ (by omega) (by omega)) (q2 _ (by omega) (by omega))
  refine ⟨τ4, fun q r1 r2 => by rw [q1 q (by omega) r2, tq1 q r1 r2], by rw [et4]; show σ4.2 = _; omega, by rw [et4]; exact g_up_s _ _ _, by rw [q1 _ (by omega) (by omega)]; exact tn1, ⟨g_cell (q2 _ (by omega) (by omega)) b3, b4.kp (fun q hq => q2 q (by omega) (by omega)), g_cell (q2 _ (by omega) (by omega)) b5, g_cell (q2 _ (by omega) (by omega)) b6, z c1 (by omega) (by omega), z c2 (by omega) (by omega), z c3 (by omega) (by omega), z c4 (by omega) (by omega), z c5 (by omega) (by omega), z c6 (by omega) (by omega), z c7 (by omega) (by omega), z c8 (by omega) (by omega), z c9 (by omega) (by omega), z c10 (by omega) (by omega)⟩, ⟨g_cell (q3 _ (by omega) (by omega)) d3, g_cell (q3 _ (by omega) (by omega)) d4⟩, ⟨g_cell (q4 _ (by omega)) f3, g_cell (q4 _ (by omega)) f4, f5.kp (q4 _ (by omega)) (q4 _ (by omega))⟩, fun β Kf => ?_⟩
  simp only [g_let]
  rw [p1, Option.bind_some, t1, e2, Option.bind_some, p2, Option.bind_some, t2, e3, Option.bind_some, p3, Option.bind_some, t3, e4, Option.bind_some, p4, Option.bind_some]
set_option maxRecDepth 100000 in
theorem i_desk {σ : g_S} {x n : Nat} (h2 : σ.2 = n) (hx : x < n) (hc : σ.1 x = some (.inr (7, [.null, .null, .null, .null]))) : ∃ σ' f, fX7_init σ x = some σ' ∧ σ'.2 = n + 115 ∧ (∀ q, q < n → q ≠ x → σ'.1 q = σ.1 q) ∧ kOK (K0 x n f) ∧ CS (K0 x n f) σ' σ' m0 := by
  obtain ⟨σb, hk, hs, hxb, hnb, ⟨r1, r2, r3, r4, z1, z2, z3, z4, z5, z6, z7, z8, z9, z10⟩, ⟨t1, t2⟩, ⟨u1, u2, u3⟩, e0⟩ := i_desk0 h2 hx hc
  have P0 : PB σb σb n 0 := ⟨by omega, fun _ _ _ => rfl, ⟨_, hnb, fun k hk => by omega⟩, fun k hk => by omega⟩
  have st : ∀ {σ1 p}, p < 16 → PB σb σ1 n p → _ := fun {σ1 p} hp h => i_place (σ := σ1) (p := p) hx hxb rfl hp h
  obtain ⟨σ1, P1, e1⟩ := st (by decide) P0
  obtain ⟨σ2, P2, e2⟩ := st (by decide) P1
  obtain ⟨σ3, P3, e3⟩ := st (by decide) P2
  obtain ⟨σ4, P4, e4⟩ := st (by decide) P3
  obtain ⟨σ5, P5, e5⟩ := st (by decide) P4
  obtain ⟨σ6, P6, e6⟩ := st (by decide) P5
  obtain ⟨σ7, P7, e7⟩ := st (by decide) P6
  obtain ⟨σ8, P8, e8⟩ := st (by decide) P7
  obtain ⟨σ9, P9, e9⟩ := st (by decide) P8
  obtain ⟨σ10, P10, e10⟩ := st (by decide) P9
  obtain ⟨σ11, P11, e11⟩ := st (by decide) P10
  obtain ⟨σ12, P12, e12⟩ := st (by decide) P11
  obtain ⟨σ13, P13, e13⟩ := st (by decide) P12
  obtain ⟨σ14, P14, e14⟩ := st (by decide) P13
  obtain ⟨σ15, P15, e15⟩ := st (by decide) P14
  obtain ⟨σ16, P16, e16⟩ := st (by decide) P15
  have hfx : fX7_init σ x = some σ16 := by
    unfold fX7_init
    rw [e0]
    exact (e1 _ _).trans ((e2 _ _).trans ((e3 _ _).trans ((e4 _ _).trans ((e5 _ _).trans ((e6 _ _).trans ((e7 _ _).trans ((e8 _ _).trans ((e9 _ _).trans ((e10 _ _).trans ((e11 _ _).trans ((e12 _ _).trans ((e13 _ _).trans ((e14 _ _).trans ((e15 _ _).trans (e16 _ _)))))))))))))))
  clear e0 e1 e2 e3 e4 e5 e6 e7 e8 e9 e10 e11 e12 e13 e14 e15 e16 P1 P2 P3 P4 P5 P6 P7 P8 P9 P10 P11 P12 P13 P14 P15 st P0
  obtain ⟨w1, w2, ⟨f, w3, w4⟩, w5⟩ := P16
  have hf : ∀ k, k < 16 → f k = some (n + fo k) := fun k hk => by
    rw [w4 k hk]
    unfold fo
    rw [if_pos hk, Nat.add_assoc]
  have kz : ∀ {a cap}, nz σb a cap → n < a → a < n + 34 → nz σ16 a cap := fun h h1 h2 => h.kp (w2 _ (by omega) (by omega)) (w2 _ (by omega) (by omega))
  have F16 : aF σ16 (n + 2) (n + 3) 136 := r2.kp (fun q hq => w2 q (by omega) (by omega))
  -- the naturals
  have nat : ∀ i, i < 45 → σ16.1 (n + lo i) = some (.inr (3, [.ref (n + lo i + 1), .int (nI (v0 i))])) ∧ σ16.1 (n + lo i + 1) = some (.inl (0, lc i, .inl (fun k => nI (if k = 0 then v0 i else 0)))) := by
    intro i hi
    have zz : ∀ (o cap : Nat), nz σ16 (n + o) cap → o = lo i → cap = lc i → v0 i = 0 → σ16.1 (n + lo i) = some (.inr (3, [.ref (n + lo i + 1), .int (nI (v0 i))])) ∧ σ16.1 (n + lo i + 1) = some (.inl (0, lc i, .inl (fun k => nI (if k = 0 then v0 i else 0)))) := by
      intro o cap h h1 h2 h3
      subst h1 h2
      rw [h3]
      refine ⟨h.1, h.2.trans ?_⟩
      unfold aN
      congr 5
      funext k
      split <;> rfl
    have uu : ∀ (o cap : Nat), σ16.1 (n + o) = some (cU (n + o + 1)) → σ16.1 (n + o + 1) = some (aU cap) → o = lo i → cap = lc i → v0 i = 1 → σ16.1 (n + lo i) = some (.inr (3, [.ref (n + lo i + 1), .int (nI (v0 i))])) ∧ σ16.1 (n + lo i + 1) = some (.inl (0, lc i, .inl (fun k => nI (if k = 0 then v0 i else 0)))) := by
      intro o cap h h' h1 h2 h3
      subst h1 h2
      rw [h3]
      exact ⟨h, h'⟩
    rcases Nat.lt_or_ge i 32 with q | q
    · have W := w5 (i / 2) (by omega)
      rcases Nat.mod_two_eq_zero_or_one i with qq | qq
      · refine zz (36 + 5 * (i / 2)) 67 ⟨?_, ?_⟩ (by unfold lo; rw [if_pos q, qq]; omega) (by unfold lc; rw [if_pos q]) (by unfold v0; rw [if_pos (by omega), qq])
        · rw [← Nat.add_assoc]; exact W.2.1
        · rw [← Nat.add_assoc]; exact W.2.2.1
      · refine uu (38 + 5 * (i / 2)) 67 ?_ ?_ (by unfold lo; rw [if_pos q, qq]; omega) (by unfold lc; rw [if_pos q]) (by unfold v0; rw [if_pos (by omega), qq])
        · rw [show n + (38 + 5 * (i / 2)) = n + 36 + 5 * (i / 2) + 2 by omega]; exact W.2.2.2.1
        · rw [show n + (38 + 5 * (i / 2)) + 1 = n + 36 + 5 * (i / 2) + 3 by omega]; exact W.2.2.2.2
    · have hcs : i = 32 ∨ i = 33 ∨ i = 34 ∨ i = 35 ∨ i = 36 ∨ i = 37 ∨ i = 38 ∨ i = 39 ∨ i = 40 ∨ i = 41 ∨ i = 42 ∨ i = 43 ∨ i = 44 := by omega
      rcases hcs with rfl | rfl | rfl | rfl | rfl | rfl | rfl | rfl | rfl | rfl | rfl | rfl | rfl
      · exact zz 3 136 ⟨F16.2.1, F16.2.2.1⟩ rfl rfl rfl
      · exact uu 5 136 F16.2.2.2.1 F16.2.2.2.2 rfl rfl rfl
      · exact zz 9 136 (kz z1 (by omega) (by omega)) rfl rfl rfl
      · exact zz 11 136 (kz z2 (by omega) (by omega)) rfl rfl rfl
      · exact zz 13 136 (kz z3 (by omega) (by omega)) rfl rfl rfl
      · exact zz 15 136 (kz z4 (by omega) (by omega)) rfl rfl rfl
      · exact zz 17 136 (kz z5 (by omega) (by omega)) rfl rfl rfl
      · exact zz 19 67 (kz z6 (by omega) (by omega)) rfl rfl rfl
      · exact zz 21 67 (kz z7 (by omega) (by omega)) rfl rfl rfl
      · exact zz 23 67 (kz z8 (by omega) (by omega)) rfl rfl rfl
      · exact zz 25 136 (kz z9 (by omega) (by omega)) rfl rfl rfl
      · exact zz 27 136 (kz z10 (by omega) (by omega)) rfl rfl rfl
      · exact zz 33 67 (u3.kp (w2 _ (by omega) (by omega)) (w2 _ (by omega) (by omega))) rfl rfl rfl
  refine ⟨σ16, f, hfx, by omega, fun q q1 q2 => by rw [w2 q (by omega) (by omega), hk q q1 q2], K0_ok hx hf, (fun _ => 0, (0, 0, fun _ => 0), (0, fun _ => 0)), v0, ⟨0, 0, 0, 0, v0, fun i k => if k = 0 then v0 i else 0, ?_, ?_⟩, ?_⟩
  · refine dk_build (fun i hi => (nat i hi).1) (fun i hi => (nat i hi).2) ?_ ?_ ?_
    · exact g_cell (w2 (n + 7) (by omega) (by omega)) r3
    · intro p hp
      rcases Nat.lt_or_ge p 16 with q | q
      · have W := (w5 p q).1
        show σ16.1 (n + fo p) = some (.inr (2, [.ref (n + lo (2 * p)), .ref (n + lo (2 * p + 1)), .int (nI 0)]))
        have e1 : fo p = 35 + 5 * p := by unfold fo; rw [if_pos q]
        have e2 : lo (2 * p) = 36 + 5 * p := by unfold lo; rw [if_pos (by omega), show 2 * p / 2 = p by omega, show 2 * p % 2 = 0 by omega]; omega
        have e3 : lo (2 * p + 1) = 36 + 5 * p + 2 := by unfold lo; rw [if_pos (by omega), show (2 * p + 1) / 2 = p by omega, show (2 * p + 1) % 2 = 1 by omega]
        rw [e1, e2, e3, ← Nat.add_assoc, ← Nat.add_assoc, ← Nat.add_assoc, ← Nat.add_assoc]
        exact W
      · have : p = 16 := by omega
        subst this
        exact F16.1
    · intro i hi h2
      have hcs : i = 0 ∨ i = 1 ∨ i = 3 ∨ i = 4 ∨ i = 5 ∨ i = 6 ∨ i = 7 ∨ i = 8 := by omega
      rcases hcs with rfl | rfl | rfl | rfl | rfl | rfl | rfl | rfl
      · exact g_cell (w2 x (by omega) (by omega)) hxb
      · exact g_cell (w2 (n + 1) (by omega) (by omega)) r1
      · exact g_cell (w2 (n + 8) (by omega) (by omega)) r4
      · exact g_cell (w2 (n + 29) (by omega) (by omega)) t1
      · exact g_cell (w2 (n + 30) (by omega) (by omega)) t2
      · exact g_cell (w2 (n + 31) (by omega) (by omega)) u1
      · exact g_cell (w2 (n + 32) (by omega) (by omega)) u2
      · exact w3
  · intro i hi
    have hl := lc_ok i hi
    have hv : v0 i ≤ 1 := by unfold v0; split <;> omega
    refine ⟨by show v0 i ≤ lc i; omega, fun k => by show (if k = 0 then v0 i else 0) < 2147483648; split <;> omega, ?_, ?_⟩
    · rcases Nat.eq_zero_or_pos (v0 i) with q | q
      · exact Or.inl q
      · refine Or.inr ?_
        show (if v0 i - 1 = 0 then v0 i else 0) ≠ 0
        rw [if_pos (by omega)]; omega
    · rcases Nat.eq_zero_or_pos (v0 i) with q | q
      · rw [q]; rfl
      · rw [show v0 i = 1 by omega, wv_s, wv_0]
        show 0 + (if 0 = 0 then v0 i else 0) * 2147483648 ^ 0 = 1
        rw [if_pos rfl, Nat.pow_zero]
        omega
  · refine ⟨fun p hp => ⟨?_, Nat.lt_of_lt_of_le Nat.one_pos (Nat.le_of_lt TOP_1), Nat.one_pos, TOP_1, Nat.gcd_one_right 0, by show 0 ≤ 1; omega, fun _ => rfl⟩, ⟨rfl, by show 0 ≤ 1400; omega, fun k hk => absurd hk (Nat.not_lt_zero _)⟩, rfl, by show 0 ≤ 4098; omega, fun k hk => absurd hk (Nat.not_lt_zero _)⟩
    show ((0 : Nat), (1 : Nat), (0 : Nat)) = (v0 (2 * p), v0 (2 * p + 1), 0)
    unfold v0
    rw [if_pos (by omega), if_pos (by omega), show 2 * p % 2 = 0 by omega, show (2 * p + 1) % 2 = 1 by omega]
