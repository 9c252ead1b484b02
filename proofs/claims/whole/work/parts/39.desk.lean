/-! THE DESK laid over a store: naturals, fractions, and the nine other objects. -/
abbrev g_Q9 : Type := g_L × (Nat → Nat) × (Nat → Nat) × (Nat → Option Nat)
abbrev g_Y : Type := (Nat → Nat) × (Nat × Nat × (Nat → Int32)) × (Nat × (Nat → Int32))
def oE (K : g_Q9) (t : Nat × Nat × (Nat → Int32)) (x : Nat × (Nat → Int32)) : Nat → g_E
  | 0 => .inr (7, [.ref (K.2.2.1 8), .ref (K.2.2.1 1), .ref (K.2.2.1 4), .ref (K.2.2.1 6)])
  | 1 => .inr (4, [.ref (K.2.1 16), .ref (K.2.2.1 2), .ref (K.2.2.1 3), .ref (K.1.1 39), .ref (K.1.1 40), .ref (K.1.1 41), .ref (K.1.1 42), .ref (K.1.1 43)])
  | 2 => .inr (0, [])
  | 3 => .inr (1, [.ref (K.1.1 34), .ref (K.1.1 35), .ref (K.1.1 36)])
  | 4 => .inr (5, [.ref (K.2.2.1 5), .int (nI t.1), .int (nI t.2.1)])
  | 5 => .inl (1, 1400, .inl t.2.2)
  | 6 => .inr (6, [.ref (K.2.2.1 7), .int (nI x.1), .ref (K.1.1 44)])
  | 7 => .inl (2, 4098, .inl x.2)
  | _ => .inl (4, 16, .inr (.inr (.inr (.inr K.2.2.2))))
def mkO (K : g_Q9) (t : Nat × Nat × (Nat → Int32)) (x : Nat × (Nat → Int32)) (σb : g_S) : g_S := (fun q => match ix K.2.2.1 q 9 with
  | some i => some (oE K t x i)
  | none => σb.1 q, σb.2)
def mkF (K : g_Q9) (bl : Nat → Nat) (σ0 : g_S) : g_S := (fun q => match ix K.2.1 q 17 with
  | some p => some (.inr (2, [.ref (K.1.1 (2 * p)), .ref (K.1.1 (2 * p + 1)), .int (nI (bl p))]))
  | none => σ0.1 q, σ0.2)
def dk (K : g_Q9) (σb : g_S) (y : g_Y) (a b c d : Int) (s : Nat → Nat) (lf : Nat → Nat → Nat) : g_S := mkN K.1 (cdS K.1 (mkF K y.1 (mkO K y.2.1 y.2.2 σb)) (K.2.2.1 2) (K.2.2.1 3) a b c d) s lf
def kOK (K : g_Q9) : Prop := g_ok K.1 ∧ g_W K.1 ∧ (∀ i j, i < 9 → j < 9 → K.2.2.1 i = K.2.2.1 j → i = j) ∧ (∀ p q, p < 17 → q < 17 → K.2.1 p = K.2.1 q → p = q) ∧ (∀ i p, i < 9 → p < 17 → K.2.2.1 i ≠ K.2.1 p) ∧ (∀ i, i < 9 → g_not K.1 (K.2.2.1 i)) ∧ (∀ p, p < 17 → g_not K.1 (K.2.1 p)) ∧ ∀ k, k < 16 → K.2.2.2 k = some (K.2.1 k)
def St (K : g_Q9) (σb σ : g_S) (y : g_Y) (v : Nat → Nat) : Prop := ∃ a b c d s lf, σ = dk K σb y a b c d s lf ∧ GV K.1 s lf v
section DK
variable {K : g_Q9} {σb σ : g_S} {y : g_Y} {a b c d : Int} {s : Nat → Nat} {lf : Nat → Nat → Nat} {v : Nat → Nat}
theorem mkF_f (hK : kOK K) {bl : Nat → Nat} {σ0 : g_S} {p : Nat} (hp : p < 17) : (mkF K bl σ0).1 (K.2.1 p) = some (.inr (2, [.ref (K.1.1 (2 * p)), .ref (K.1.1 (2 * p + 1)), .int (nI (bl p))])) := by
  unfold mkF
  simp only [ix_some hK.2.2.2.1 hp]
theorem mkF_x {bl : Nat → Nat} {σ0 : g_S} {q : Nat} (hq : ∀ p, p < 17 → K.2.1 p ≠ q) : (mkF K bl σ0).1 q = σ0.1 q := by
  unfold mkF
  simp only [ix_none hq]
theorem mkO_o (hK : kOK K) {t : Nat × Nat × (Nat → Int32)} {x : Nat × (Nat → Int32)} {i : Nat} (hi : i < 9) : (mkO K t x σb).1 (K.2.2.1 i) = some (oE K t x i) := by
  unfold mkO
  simp only [ix_some hK.2.2.1 hi]
theorem dk_F (hK : kOK K) {p : Nat} (hp : p < 17) : (dk K σb y a b c d s lf).1 (K.2.1 p) = some (.inr (2, [.ref (K.1.1 (2 * p)), .ref (K.1.1 (2 * p + 1)), .int (nI (y.1 p))])) := by
  unfold dk
  rw [mkN_x (hK.2.2.2.2.2.2.1 p hp)]
  unfold cdS
  rw [g_up_n _ _ (fun e => hK.2.2.2.2.1 2 p (by decide) hp e.symm), mkF_f hK hp]
theorem dk_O (hK : kOK K) {i : Nat} (hi : i < 9) (h2 : i ≠ 2) : (dk K σb y a b c d s lf).1 (K.2.2.1 i) = some (oE K y.2.1 y.2.2 i) := by
  unfold dk
  rw [mkN_x (hK.2.2.2.2.2.1 i hi)]
  unfold cdS
  rw [g_up_n _ _ (fun e => h2 (hK.2.2.1 i 2 hi (by decide) e)), mkF_x (fun p hp e => hK.2.2.2.2.1 i p hi hp e.symm), mkO_o hK hi]
theorem dk_upF (hK : kOK K) {p : Nat} (hp : p < 17) (n : Nat) : g_up (dk K σb y a b c d s lf) (K.2.1 p) (.inr (2, [.ref (K.1.1 (2 * p)), .ref (K.1.1 (2 * p + 1)), .int (nI n)])) = dk K σb (va_up y.1 p n, y.2) a b c d s lf := by
  unfold dk
  rw [mkN_px (hK.2.2.2.2.2.2.1 p hp)]
  congr 1
  unfold cdS
  apply Prod.ext
  · funext q
    show (if q = K.2.1 p then _ else if q = K.2.2.1 2 then _ else _) = if q = K.2.2.1 2 then _ else _
    by_cases h2 : q = K.2.2.1 2
    · rw [if_neg (fun e => hK.2.2.2.2.1 2 p (by decide) hp (by rw [← h2, e])), if_pos h2, if_pos h2]
    · rw [if_neg h2, if_neg h2]
      by_cases h : q = K.2.1 p
      · rw [if_pos h, h, mkF_f hK hp]
        simp only [va_up_self]
      · rw [if_neg h]
        simp only [mkF]
        cases hx : ix K.2.1 q 17 with
        | none => simp only
        | some j =>
          obtain ⟨h1, h3⟩ := ix_eq hx
          have hne : j ≠ p := fun e => h (by rw [← h3, e])
          simp only [va_up_ne y.1 n hne]
  · rfl
theorem dk_upO (hK : kOK K) {i : Nat} (hi : i < 9) (h2 : i ≠ 2) {t : Nat × Nat × (Nat → Int32)} {x : Nat × (Nat → Int32)} {e : g_E} (he : oE K t x i = e) (hr : ∀ j, j ≠ i → oE K t x j = oE K y.2.1 y.2.2 j) : g_up (dk K σb y a b c d s lf) (K.2.2.1 i) e = dk K σb (y.1, t, x) a b c d s lf := by
  unfold dk
  rw [mkN_px (hK.2.2.2.2.2.1 i hi)]
  congr 1
  unfold cdS
  apply Prod.ext
  · funext q
    show (if q = K.2.2.1 i then _ else if q = K.2.2.1 2 then _ else _) = if q = K.2.2.1 2 then _ else _
    by_cases h : q = K.2.2.1 i
    · rw [if_pos h, if_neg (fun z => h2 (hK.2.2.1 i 2 hi (by decide) (by rw [← h, z]))), h, mkF_x (fun p hp z => hK.2.2.2.2.1 i p hi hp z.symm), mkO_o hK hi, he]
    · rw [if_neg h]
      by_cases h3 : q = K.2.2.1 2
      · rw [if_pos h3, if_pos h3]
      · rw [if_neg h3, if_neg h3]
        simp only [mkF]
        cases hy : ix K.2.1 q 17 with
        | some p => simp only
        | none =>
          simp only [mkO]
          cases hx : ix K.2.2.1 q 9 with
          | none => simp only
          | some j =>
            obtain ⟨h1, h4⟩ := ix_eq hx
            have hne : j ≠ i := fun z => h (by rw [← h4, z])
            simp only [hr j hne]
  · rfl
theorem St.f (hK : kOK K) (S : St K σb σ y v) {p : Nat} (hp : p < 17) : g_o σ 2 (K.2.1 p) = some [.ref (K.1.1 (2 * p)), .ref (K.1.1 (2 * p + 1)), .int (nI (y.1 p))] := by
  obtain ⟨a, b, c, d, s, lf, rfl, -⟩ := S
  exact g_o_of (dk_F hK hp)
theorem St.at (hK : kOK K) (S : St K σb σ y v) {i : Nat} (hi : i < 9) (h2 : i ≠ 2) : σ.1 (K.2.2.1 i) = some (oE K y.2.1 y.2.2 i) := by
  obtain ⟨a, b, c, d, s, lf, rfl, -⟩ := S
  exact dk_O hK hi h2
theorem St.n (hK : kOK K) (S : St K σb σ y v) {i : Nat} (hi : i < 45) {β : Type} (X : Option β) : ((g_o σ 3 (K.1.1 i)).bind fun _ => X) = X := by
  obtain ⟨a, b, c, d, s, lf, rfl, -⟩ := S
  unfold dk
  rw [n_o hK.1 hi]
  rfl
theorem St.cd (hK : kOK K) (S : St K σb σ y v) {β : Type} (X : Option β) : ((g_o σ 0 (K.2.2.1 2)).bind fun _ => X) = X := by
  obtain ⟨a, b, c, d, s, lf, rfl, -⟩ := S
  unfold dk
  rw [cd_o (hK.2.2.2.2.2.1 2 (by decide))]
  rfl
theorem rdF (hK : kOK K) (S : St K σb σ y v) {p : Nat} (hp : p < 17) : g_fr σ 2 (K.2.1 p) 0 = some (K.1.1 (2 * p)) ∧ g_fr σ 2 (K.2.1 p) 1 = some (K.1.1 (2 * p + 1)) ∧ g_fi σ 2 (K.2.1 p) 2 = some (nI (y.1 p)) ∧ ∀ {β : Type} (X : Option β), ((g_o σ 2 (K.2.1 p)).bind fun _ => X) = X := by
  unfold g_fr g_fi
  rw [S.f hK hp]
  exact ⟨rfl, rfl, rfl, fun X => rfl⟩
theorem rdG (hK : kOK K) (S : St K σb σ y v) : g_fr σ 2 (K.2.1 16) 0 = some (K.1.1 32) ∧ g_fr σ 2 (K.2.1 16) 1 = some (K.1.1 33) ∧ g_fi σ 2 (K.2.1 16) 2 = some (nI (y.1 16)) ∧ ∀ {β : Type} (X : Option β), ((g_o σ 2 (K.2.1 16)).bind fun _ => X) = X := rdF hK S (p := 16) (by decide)
theorem rdR (hK : kOK K) (S : St K σb σ y v) : g_fr σ 4 (K.2.2.1 1) 0 = some (K.2.1 16) ∧ g_fr σ 4 (K.2.2.1 1) 1 = some (K.2.2.1 2) ∧ g_fr σ 4 (K.2.2.1 1) 2 = some (K.2.2.1 3) ∧ g_fr σ 4 (K.2.2.1 1) 3 = some (K.1.1 39) ∧ g_fr σ 4 (K.2.2.1 1) 4 = some (K.1.1 40) ∧ g_fr σ 4 (K.2.2.1 1) 5 = some (K.1.1 41) ∧ g_fr σ 4 (K.2.2.1 1) 6 = some (K.1.1 42) ∧ g_fr σ 4 (K.2.2.1 1) 7 = some (K.1.1 43) ∧ (∀ {β : Type} (X : Option β), ((g_o σ 4 (K.2.2.1 1)).bind fun _ => X) = X) ∧ (∀ {β : Type} (X : Option β), ((g_o σ 0 (K.2.2.1 2)).bind fun _ => X) = X) ∧ g_fr σ 1 (K.2.2.1 3) 0 = some (K.1.1 34) ∧ g_fr σ 1 (K.2.2.1 3) 1 = some (K.1.1 35) ∧ (∀ {β : Type} (X : Option β), ((g_o σ 1 (K.2.2.1 3)).bind fun _ => X) = X) := by
  have e1 : g_o σ 4 (K.2.2.1 1) = _ := g_o_of (S.at hK (i := 1) (by decide) (by decide))
  have e3 : g_o σ 1 (K.2.2.1 3) = _ := g_o_of (S.at hK (i := 3) (by decide) (by decide))
  unfold g_fr
  rw [e1, e3]
  exact ⟨rfl, rfl, rfl, rfl, rfl, rfl, rfl, rfl, fun X => rfl, fun X => S.cd hK X, rfl, rfl, fun X => rfl⟩
theorem rdD (hK : kOK K) (S : St K σb σ y v) : g_fr σ 7 (K.2.2.1 0) 0 = some (K.2.2.1 8) ∧ g_fr σ 7 (K.2.2.1 0) 1 = some (K.2.2.1 1) ∧ g_fr σ 7 (K.2.2.1 0) 2 = some (K.2.2.1 4) ∧ g_fr σ 7 (K.2.2.1 0) 3 = some (K.2.2.1 6) ∧ (∀ {β : Type} (X : Option β), ((g_o σ 7 (K.2.2.1 0)).bind fun _ => X) = X) := by
  have e1 : g_o σ 7 (K.2.2.1 0) = _ := g_o_of (S.at hK (i := 0) (by decide) (by decide))
  unfold g_fr
  rw [e1]
  exact ⟨rfl, rfl, rfl, rfl, fun X => rfl⟩
theorem rdT (hK : kOK K) (S : St K σb σ y v) : g_fr σ 5 (K.2.2.1 4) 0 = some (K.2.2.1 5) ∧ g_fi σ 5 (K.2.2.1 4) 1 = some (nI y.2.1.1) ∧ g_fi σ 5 (K.2.2.1 4) 2 = some (nI y.2.1.2.1) ∧ (∀ {β : Type} (X : Option β), ((g_o σ 5 (K.2.2.1 4)).bind fun _ => X) = X) := by
  have e1 : g_o σ 5 (K.2.2.1 4) = _ := g_o_of (S.at hK (i := 4) (by decide) (by decide))
  unfold g_fr g_fi
  rw [e1]
  exact ⟨rfl, rfl, rfl, fun X => rfl⟩
theorem rdX (hK : kOK K) (S : St K σb σ y v) : g_fr σ 6 (K.2.2.1 6) 0 = some (K.2.2.1 7) ∧ g_fi σ 6 (K.2.2.1 6) 1 = some (nI y.2.2.1) ∧ g_fr σ 6 (K.2.2.1 6) 2 = some (K.1.1 44) ∧ (∀ {β : Type} (X : Option β), ((g_o σ 6 (K.2.2.1 6)).bind fun _ => X) = X) := by
  have e1 : g_o σ 6 (K.2.2.1 6) = _ := g_o_of (S.at hK (i := 6) (by decide) (by decide))
  unfold g_fr g_fi
  rw [e1]
  exact ⟨rfl, rfl, rfl, fun X => rfl⟩
theorem rdP (hK : kOK K) (S : St K σb σ y v) {p : Nat} (hp : p < 16) : g_lq σ 4 (K.2.2.1 8) (nI p) = some (K.2.1 p) := by
  have e1 : σ.1 (K.2.2.1 8) = _ := S.at hK (i := 8) (by decide) (by decide)
  unfold g_lq g_aq
  rw [e1]
  show (if g_in (nI p) 16 then K.2.2.2 (nI p).toNatClampNeg else none) = _
  rw [if_pos (g_in_of hp (by decide)), nI_clamp (by omega), hK.2.2.2.2.2.2.2 p hp]
theorem t_putF (hK : kOK K) (S : St K σb σ y v) {p : Nat} (hp : p < 17) (n : Nat) : ∃ σ', g_p σ 2 (K.2.1 p) 2 (.int (nI n)) = some σ' ∧ St K σb σ' (va_up y.1 p n, y.2) v := by
  have e := S.f hK hp
  obtain ⟨a, b, c, d, s, lf, rfl, h⟩ := S
  refine ⟨_, ?_, a, b, c, d, s, lf, rfl, h⟩
  unfold g_p
  rw [e, ← dk_upF hK hp n]
  rfl
theorem t_putT1 (hK : kOK K) (S : St K σb σ y v) (n : Nat) : ∃ σ', g_p σ 5 (K.2.2.1 4) 1 (.int (nI n)) = some σ' ∧ St K σb σ' (y.1, (n, y.2.1.2), y.2.2) v := by
  have e : g_o σ 5 (K.2.2.1 4) = _ := g_o_of (S.at hK (i := 4) (by decide) (by decide))
  obtain ⟨a, b, c, d, s, lf, rfl, h⟩ := S
  refine ⟨_, ?_, a, b, c, d, s, lf, rfl, h⟩
  unfold g_p
  rw [e, ← dk_upO hK (i := 4) (t := (n, y.2.1.2)) (x := y.2.2) (by decide) (by decide) rfl (fun j hj => by unfold oE; split <;> first | rfl | exact absurd rfl hj)]
  rfl
theorem t_putT2 (hK : kOK K) (S : St K σb σ y v) (n : Nat) : ∃ σ', g_p σ 5 (K.2.2.1 4) 2 (.int (nI n)) = some σ' ∧ St K σb σ' (y.1, (y.2.1.1, n, y.2.1.2.2), y.2.2) v := by
  have e : g_o σ 5 (K.2.2.1 4) = _ := g_o_of (S.at hK (i := 4) (by decide) (by decide))
  obtain ⟨a, b, c, d, s, lf, rfl, h⟩ := S
  refine ⟨_, ?_, a, b, c, d, s, lf, rfl, h⟩
  unfold g_p
  rw [e, ← dk_upO hK (i := 4) (t := (y.2.1.1, n, y.2.1.2.2)) (x := y.2.2) (by decide) (by decide) rfl (fun j hj => by unfold oE; split <;> first | rfl | exact absurd rfl hj)]
  rfl
theorem t_putX1 (hK : kOK K) (S : St K σb σ y v) (n : Nat) : ∃ σ', g_p σ 6 (K.2.2.1 6) 1 (.int (nI n)) = some σ' ∧ St K σb σ' (y.1, y.2.1, (n, y.2.2.2)) v := by
  have e : g_o σ 6 (K.2.2.1 6) = _ := g_o_of (S.at hK (i := 6) (by decide) (by decide))
  obtain ⟨a, b, c, d, s, lf, rfl, h⟩ := S
  refine ⟨_, ?_, a, b, c, d, s, lf, rfl, h⟩
  unfold g_p
  rw [e, ← dk_upO hK (i := 6) (t := y.2.1) (x := (n, y.2.2.2)) (by decide) (by decide) rfl (fun j hj => by unfold oE; split <;> first | rfl | exact absurd rfl hj)]
  rfl
theorem t_getT (hK : kOK K) (S : St K σb σ y v) {k : Nat} (hk : k < 1400) : g_li σ 1 (K.2.2.1 5) (nI k) = some (y.2.1.2.2 k) := by
  have e : g_ai σ 1 (K.2.2.1 5) = _ := g_ai_of (S.at hK (i := 5) (by decide) (by decide))
  unfold g_li
  rw [e]
  show (if g_in (nI k) 1400 then _ else _) = _
  rw [if_pos (g_in_of hk (by decide)), nI_clamp (by omega)]
theorem t_setT (hK : kOK K) (S : St K σb σ y v) {k : Nat} (hk : k < 1400) (x : Int32) : ∃ σ', g_si σ 1 (K.2.2.1 5) (nI k) x = some σ' ∧ St K σb σ' (y.1, (y.2.1.1, y.2.1.2.1, upd y.2.1.2.2 k x), y.2.2) v := by
  have e : g_ai σ 1 (K.2.2.1 5) = _ := g_ai_of (S.at hK (i := 5) (by decide) (by decide))
  obtain ⟨a, b, c, d, s, lf, rfl, h⟩ := S
  refine ⟨_, ?_, a, b, c, d, s, lf, rfl, h⟩
  unfold g_si
  rw [e]
  show (if g_in (nI k) 1400 then _ else _) = _
  rw [if_pos (g_in_of hk (by decide)), nI_clamp (by omega), ← dk_upO hK (i := 5) (t := (y.2.1.1, y.2.1.2.1, upd y.2.1.2.2 k x)) (x := y.2.2) (by decide) (by decide) rfl (fun j hj => by unfold oE; split <;> first | rfl | exact absurd rfl hj)]
  rfl
theorem t_getX (hK : kOK K) (S : St K σb σ y v) {k : Nat} (hk : k < 4098) : g_li σ 2 (K.2.2.1 7) (nI k) = some (y.2.2.2 k) := by
  have e : g_ai σ 2 (K.2.2.1 7) = _ := g_ai_of (S.at hK (i := 7) (by decide) (by decide))
  unfold g_li
  rw [e]
  show (if g_in (nI k) 4098 then _ else _) = _
  rw [if_pos (g_in_of hk (by decide)), nI_clamp (by omega)]
theorem t_lenX (hK : kOK K) (S : St K σb σ y v) : g_len σ 2 (K.2.2.1 7) = some (nI 4098) := by
  have e : σ.1 (K.2.2.1 7) = _ := S.at hK (i := 7) (by decide) (by decide)
  unfold g_len
  rw [e]
  rfl
theorem t_setX (hK : kOK K) (S : St K σb σ y v) {k : Nat} (hk : k < 4098) (x : Int32) : ∃ σ', g_si σ 2 (K.2.2.1 7) (nI k) x = some σ' ∧ St K σb σ' (y.1, y.2.1, (y.2.2.1, upd y.2.2.2 k x)) v := by
  have e : g_ai σ 2 (K.2.2.1 7) = _ := g_ai_of (S.at hK (i := 7) (by decide) (by decide))
  obtain ⟨a, b, c, d, s, lf, rfl, h⟩ := S
  refine ⟨_, ?_, a, b, c, d, s, lf, rfl, h⟩
  unfold g_si
  rw [e]
  show (if g_in (nI k) 4098 then _ else _) = _
  rw [if_pos (g_in_of hk (by decide)), nI_clamp (by omega), ← dk_upO hK (i := 7) (t := y.2.1) (x := (y.2.2.1, upd y.2.2.2 k x)) (by decide) (by decide) rfl (fun j hj => by unfold oE; split <;> first | rfl | exact absurd rfl hj)]
  rfl
end DK
