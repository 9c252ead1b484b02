/-! the constructors: what they lay, cell by cell -/
def cN (a : Nat) : g_E := .inr (3, [.ref a, .int 0])
def aN (cap : Nat) : g_E := .inl (0, cap, .inl (fun _ => 0))
def cU (a : Nat) : g_E := .inr (3, [.ref a, .int 1])
def aU (cap : Nat) : g_E := .inl (0, cap, .inl (fun k => nI (if k = 0 then 1 else 0)))
theorem g_p_of {σ : g_S} {ci a k : Nat} {fs : List Value} (hc : σ.1 a = some (.inr (ci, fs))) (hk : k < fs.length) (v : Value) : g_p σ ci a k v = some (g_up σ a (.inr (ci, fs.set k v))) := by
  unfold g_p
  rw [g_o_of hc]
  show (if k < fs.length then _ else _) = _
  rw [if_pos hk]
theorem g_fr_of {σ : g_S} {ci a k x : Nat} {fs : List Value} (hc : σ.1 a = some (.inr (ci, fs))) (hk : fs[k]? = some (.ref x)) : g_fr σ ci a k = some x := by
  unfold g_fr
  rw [g_o_of hc]
  show (match fs[k]? with | some (.ref v) => some v | _ => none) = _
  rw [hk]
theorem g_fi_of {σ : g_S} {ci a k : Nat} {x : Int32} {fs : List Value} (hc : σ.1 a = some (.inr (ci, fs))) (hk : fs[k]? = some (.int x)) : g_fi σ ci a k = some x := by
  unfold g_fi
  rw [g_o_of hc]
  show (match fs[k]? with | some (.int v) => some v | _ => none) = _
  rw [hk]
theorem g_mk_n (σ : g_S) (e : g_E) : (g_mk σ e).1 σ.2 = some e := if_pos rfl
theorem g_mk_q (σ : g_S) (e : g_E) {q : Nat} (h : q ≠ σ.2) : (g_mk σ e).1 q = σ.1 q := if_neg h
section NW
variable {σ : g_S} {n x0 : Nat}
theorem i_nat {cap : Nat} (h2 : σ.2 = n) (hx : x0 < n) (hc : σ.1 x0 = some (.inr (3, [.null, .int 0]))) (h67 : 67 ≤ cap) (h136 : cap ≤ 136) : ∃ σ', fX3_init σ x0 (nI cap) = some σ' ∧ σ'.2 = n + 1 ∧ (∀ q, q < n → q ≠ x0 → σ'.1 q = σ.1 q) ∧ σ'.1 x0 = some (cN n) ∧ σ'.1 n = some (aN cap) := by
  subst h2
  have e1 : fJ9_max_7cf53 σ (nI cap) 67 = some (nI cap, σ) := by
    unfold fJ9_max_7cf53 BJ9_max_7cf53_10
    rw [show (67 : Int32) = nI 67 from rfl, if_neg (nI_nlt h67 (by omega))]
  have e2 := g_p_of (σ := g_mk σ (aN cap)) (ci := 3) (a := x0) (k := 0) (fs := [.null, .int 0]) (by rw [g_mk_q _ _ (by omega)]; exact hc) (by decide) (.ref σ.2)
  refine ⟨g_up (g_mk σ (aN cap)) x0 (cN σ.2), ?_, rfl, ?_, g_up_s _ _ _, ?_⟩
  · unfold fX3_init
    rw [e1]
    simp only [Option.bind_some]
    rw [g_if_pos (by rw [nI_toInt (by omega)]; omega), nI_clamp (by omega)]
    show ((g_p (g_mk σ (aN cap)) 3 x0 0 (.ref σ.2)).bind fun σ5 => some σ5) = _
    rw [e2]
    rfl
  · intro q hq hne
    rw [g_up_n _ _ hne, g_mk_q _ _ (by omega)]
  · rw [g_up_n _ _ (by omega), g_mk_n]
/-- a new natural, put into a field -/
theorem i_natp {ci k cap : Nat} {fs : List Value} (h2 : σ.2 = n) (hx : x0 < n) (hc : σ.1 x0 = some (.inr (ci, fs))) (hk : k < fs.length) (h67 : 67 ≤ cap) (h136 : cap ≤ 136) : ∃ σ', σ'.2 = n + 2 ∧ (∀ q, q < n → q ≠ x0 → σ'.1 q = σ.1 q) ∧ σ'.1 x0 = some (.inr (ci, fs.set k (.ref n))) ∧ σ'.1 n = some (cN (n + 1)) ∧ σ'.1 (n + 1) = some (aN cap) ∧
    ∀ (β : Type) (Kf : g_S → Option β), (g_let σ.2 fun a2 => g_let (g_mk σ (.inr (3, [.null, .int 0]))) fun σ1 => (fX3_init σ1 a2 (nI cap)).bind fun r3 => (g_p r3 ci x0 k (.ref a2)).bind fun σ4 => Kf σ4) = Kf σ' := by
  subst h2
  obtain ⟨σ1, e1, a1, a2, a3, a4⟩ := i_nat (σ := g_mk σ (.inr (3, [.null, .int 0]))) (n := σ.2 + 1) (x0 := σ.2) (cap := cap) rfl (by omega) (g_mk_n _ _) h67 h136
  have hx1 : σ1.1 x0 = some (.inr (ci, fs)) := by rw [a2 _ (by omega) (by omega), g_mk_q _ _ (by omega)]; exact hc
  have e2 := g_p_of hx1 hk (.ref σ.2)
  refine ⟨g_up σ1 x0 (.inr (ci, fs.set k (.ref σ.2))), a1, fun q hq hne => ?_, g_up_s _ _ _, ?_, ?_, fun β Kf => ?_⟩
  · rw [g_up_n _ _ hne, a2 _ (by omega) (by omega), g_mk_q _ _ (by omega)]
  · rw [g_up_n _ _ (by omega)]; exact a3
  · rw [g_up_n _ _ (by omega)]; exact a4
  · simp only [g_let]
    rw [e1]
    simp only [Option.bind_some]
    rw [e2]
    rfl
theorem i_one {a cap : Nat} (hc : σ.1 x0 = some (cN a)) (ha : σ.1 a = some (aN cap)) (hne : x0 ≠ a) (h67 : 67 ≤ cap) (h136 : cap ≤ 136) : ∃ σ', fX3_becomeUnsigned σ x0 1 = some σ' ∧ σ'.2 = σ.2 ∧ (∀ q, q ≠ x0 → q ≠ a → σ'.1 q = σ.1 q) ∧ σ'.1 x0 = some (cU a) ∧ σ'.1 a = some (aU cap) := by
  have st : ∀ (τ : g_S) (f : Nat → Int32) (k : Nat) (x : Int32), k < 67 → τ.1 a = some (.inl (0, cap, .inl f)) → g_si τ 0 a (nI k) x = some (g_up τ a (.inl (0, cap, .inl (upd f k x)))) := by
    intro τ f k x hk h
    unfold g_si
    rw [g_ai_of h]
    show (if g_in (nI k) cap then some (g_up τ a (.inl (0, cap, .inl (upd f (nI k).toNatClampNeg x)))) else none) = _
    rw [if_pos (g_in_of (by omega) (by omega)), nI_clamp (by omega)]
  have rd : ∀ (τ : g_S) (f : Nat → Int32) (k : Nat), k < 67 → τ.1 a = some (.inl (0, cap, .inl f)) → g_li τ 0 a (nI k) = some (f k) := by
    intro τ f k hk h
    unfold g_li
    rw [g_ai_of h]
    show (if g_in (nI k) cap then some (f (nI k).toNatClampNeg) else none) = _
    rw [if_pos (g_in_of (by omega) (by omega)), nI_clamp (by omega)]
  obtain ⟨f, hfu⟩ : ∃ f, g_fuel = f + 1 + 1 + 1 := ⟨g_fuel - 3, by have := g_fuel_ge; omega⟩
  obtain ⟨τ1, e1⟩ : ∃ τ1, τ1 = g_up σ a (.inl (0, cap, .inl (upd (fun _ => 0) 0 1))) := ⟨_, rfl⟩
  obtain ⟨τ2, e2⟩ : ∃ τ2, τ2 = g_up τ1 a (.inl (0, cap, .inl (upd (upd (fun _ => 0) 0 1) 1 0))) := ⟨_, rfl⟩
  obtain ⟨τ3, e3⟩ : ∃ τ3, τ3 = g_up τ2 a (.inl (0, cap, .inl (upd (upd (upd (fun _ => 0) 0 1) 1 0) 2 0))) := ⟨_, rfl⟩
  have a1 : τ1.1 a = some (.inl (0, cap, .inl (upd (fun _ => 0) 0 1))) := by rw [e1]; exact g_up_s _ _ _
  have a2 : τ2.1 a = some (.inl (0, cap, .inl (upd (upd (fun _ => 0) 0 1) 1 0))) := by rw [e2]; exact g_up_s _ _ _
  have a3 : τ3.1 a = some (.inl (0, cap, .inl (upd (upd (upd (fun _ => 0) 0 1) 1 0) 2 0))) := by rw [e3]; exact g_up_s _ _ _
  have x1 : τ1.1 x0 = some (cN a) := by rw [e1, g_up_n _ _ hne]; exact hc
  have x2 : τ2.1 x0 = some (cN a) := by rw [e2, g_up_n _ _ hne]; exact x1
  have x3 : τ3.1 x0 = some (cN a) := by rw [e3, g_up_n _ _ hne]; exact x2
  have s1 : g_si σ 0 a 0 1 = some τ1 := by rw [e1]; exact st σ _ 0 1 (by decide) ha
  have s2 : g_si τ1 0 a 1 0 = some τ2 := by rw [e2]; exact st τ1 _ 1 0 (by decide) a1
  have s3 : g_si τ2 0 a 2 0 = some τ3 := by rw [e3]; exact st τ2 _ 2 0 (by decide) a2
  obtain ⟨υ3, u3⟩ : ∃ υ3, υ3 = g_up τ3 x0 (.inr (3, [.ref a, .int 3])) := ⟨_, rfl⟩
  obtain ⟨υ2, u2⟩ : ∃ υ2, υ2 = g_up υ3 x0 (.inr (3, [.ref a, .int 2])) := ⟨_, rfl⟩
  obtain ⟨υ1, u1⟩ : ∃ υ1, υ1 = g_up υ2 x0 (.inr (3, [.ref a, .int 1])) := ⟨_, rfl⟩
  have y3 : υ3.1 x0 = some (.inr (3, [.ref a, .int 3])) := by rw [u3]; exact g_up_s _ _ _
  have y2 : υ2.1 x0 = some (.inr (3, [.ref a, .int 2])) := by rw [u2]; exact g_up_s _ _ _
  have y1 : υ1.1 x0 = some (.inr (3, [.ref a, .int 1])) := by rw [u1]; exact g_up_s _ _ _
  have b3 : υ3.1 a = some (.inl (0, cap, .inl (upd (upd (upd (fun _ => 0) 0 1) 1 0) 2 0))) := by rw [u3, g_up_n _ _ (Ne.symm hne)]; exact a3
  have b2 : υ2.1 a = some (.inl (0, cap, .inl (upd (upd (upd (fun _ => 0) 0 1) 1 0) 2 0))) := by rw [u2, g_up_n _ _ (Ne.symm hne)]; exact b3
  have b1 : υ1.1 a = some (.inl (0, cap, .inl (upd (upd (upd (fun _ => 0) 0 1) 1 0) 2 0))) := by rw [u1, g_up_n _ _ (Ne.symm hne)]; exact b2
  have p3 : g_p τ3 3 x0 1 (.int 3) = some υ3 := by rw [u3]; exact g_p_of x3 (Nat.le_of_ble_eq_true rfl) _
  have p2 : g_p υ3 3 x0 1 (.int (3 - 1)) = some υ2 := by rw [u2]; exact g_p_of y3 (Nat.le_of_ble_eq_true rfl) _
  have p1 : g_p υ2 3 x0 1 (.int (2 - 1)) = some υ1 := by rw [u1]; exact g_p_of y2 (Nat.le_of_ble_eq_true rfl) _
  refine ⟨υ1, ?_, ?_, fun q q1 q2 => ?_, y1, ?_⟩
  · unfold fX3_becomeUnsigned fX3_trim
    rw [show ((1 : Int64) &&& 2147483647).toInt32 = 1 by decide, show ((g_lushr (1 : Int64) 31) &&& 2147483647).toInt32 = 0 by decide, show (g_lushr (1 : Int64) 62).toInt32 = 0 by decide]
    rw [g_fr_of hc rfl, Option.bind_some, s1, Option.bind_some, g_fr_of x1 rfl, Option.bind_some, s2, Option.bind_some, g_fr_of x2 rfl, Option.bind_some, s3, Option.bind_some, g_o_of x3, Option.bind_some, p3, Option.bind_some, hfu]
    rw [LX3_trim_5, g_fi_of y3 rfl, Option.bind_some, if_neg (by decide), g_fr_of y3 rfl, Option.bind_some, Option.bind_some, show (3 : Int32) - 1 = nI 2 from rfl, rd υ3 _ 2 (by decide) b3, Option.bind_some, if_pos (by rfl), Option.bind_some, p2, Option.bind_some]
    rw [LX3_trim_5, g_fi_of y2 rfl, Option.bind_some, if_neg (by decide), g_fr_of y2 rfl, Option.bind_some, Option.bind_some, show (2 : Int32) - 1 = nI 1 from rfl, rd υ2 _ 1 (by decide) b2, Option.bind_some, if_pos (by rfl), Option.bind_some, p1, Option.bind_some]
    rw [LX3_trim_5, g_fi_of y1 rfl, Option.bind_some, if_neg (by decide), g_fr_of y1 rfl, Option.bind_some, Option.bind_some, show (1 : Int32) - 1 = nI 0 from rfl, rd υ1 _ 0 (by decide) b1, Option.bind_some, if_neg (by decide)]
    rfl
  · rw [u1, u2, u3, e3, e2, e1]; rfl
  · rw [u1, g_up_n _ _ q1, u2, g_up_n _ _ q1, u3, g_up_n _ _ q1, e3, g_up_n _ _ q2, e2, g_up_n _ _ q2, e1, g_up_n _ _ q2]
  · rw [b1]
    unfold aU
    congr 5
    funext k
    show (if k = 2 then 0 else if k = 1 then 0 else if k = 0 then 1 else 0) = nI (if k = 0 then 1 else 0)
    by_cases h0 : k = 0
    · rw [if_neg (by omega), if_neg (by omega), if_pos h0, if_pos h0]; rfl
    · rw [if_neg h0]
      split
      · rfl
      · split
        · rfl
        · rfl
/-- a fraction's four cells -/
def aF (σ : g_S) (x n cap : Nat) : Prop := σ.1 x = some (.inr (2, [.ref n, .ref (n + 2), .int 0])) ∧ σ.1 n = some (cN (n + 1)) ∧ σ.1 (n + 1) = some (aN cap) ∧ σ.1 (n + 2) = some (cU (n + 3)) ∧ σ.1 (n + 3) = some (aU cap)
theorem i_frac {cap : Nat} (h2 : σ.2 = n) (hx : x0 < n) (hc : σ.1 x0 = some (.inr (2, [.null, .null, .int 0]))) (h67 : 67 ≤ cap) (h136 : cap ≤ 136) : ∃ σ', fX2_init σ x0 (nI cap) = some σ' ∧ σ'.2 = n + 4 ∧ (∀ q, q < n → q ≠ x0 → σ'.1 q = σ.1 q) ∧ aF σ' x0 n cap := by
  obtain ⟨σ1, a1, a2, a3, a4, a5, e1⟩ := i_natp h2 hx hc (k := 0) (cap := cap) (Nat.le_of_ble_eq_true rfl) h67 h136
  obtain ⟨σ2, b1, b2, b3, b4, b5, e2⟩ := i_natp a1 (by omega) a3 (k := 1) (cap := cap) (Nat.le_of_ble_eq_true rfl) h67 h136
  obtain ⟨σ3, e3, c1, c2, c3, c4⟩ := i_one b4 b5 (by omega) h67 h136
  refine ⟨σ3, ?_, by omega, fun q q1 q2 => ?_, ?_, ?_, ?_, c3, c4⟩
  · unfold fX2_init
    rw [e1, e2, g_fr_of b3 rfl, Option.bind_some, g_o_of b4, Option.bind_some, e3]
    rfl
  · rw [c2 q (by omega) (by omega), b2 q (by omega) q2, a2 q q1 q2]
  · rw [c2 _ (by omega) (by omega), b3]
    rfl
  · rw [c2 _ (by omega) (by omega), b2 _ (by omega) (by omega), a4]
  · rw [c2 _ (by omega) (by omega), b2 _ (by omega) (by omega), a5]
end NW
