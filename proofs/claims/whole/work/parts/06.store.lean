/-! what the store stands on: the classes, the array classes, the nest's words, the constants -/
abbrev classes : List vw_C := vwCl
def g_tys (cT : Nat → ClassId) : List (ClassId × FieldType) := [(cT 0, .int), (cT 1, .byte), (cT 2, .char), (cT 3, .long), (cT 4, .object RX2), (cT 5, .boolean)]
def g_nestM : List (String × Nat × MethodName × String) := [(RX7, 17, yX4_init, "FractionDesk"), (RX4, 22, yX0_init, "FractionDesk"), (RX0, 11, yX1_init, "FractionDesk"), (RX7, 24, yX5_init, "FractionDesk"), (RX7, 31, yX6_init, "FractionDesk")]
theorem g_fuelE : ∃ n : Nat, 1000000 ≤ n := ⟨_, Nat.le_refl _⟩
/-- the loops' fuel: a number that nothing unfolds -/
noncomputable def g_fuel : Nat := Classical.choose g_fuelE
theorem g_fuel_ge : 1000000 ≤ g_fuel := Classical.choose_spec g_fuelE
def g_txt : String := "0123456789abcdefghijklmnopqrstuvwxyz"
def g_byt : List Int32 := [48, 49, 50, 51, 52, 53, 54, 55, 56, 57, 97, 98, 99, 100, 101, 102, 103, 104, 105, 106, 107, 108, 109, 110, 111, 112, 113, 114, 115, 116, 117, 118, 119, 120, 121, 122]
-- shifts and rests by names
def g_ishl (x y : Int32) : Int32 := x <<< (y &&& 31)
def g_ishr (x y : Int32) : Int32 := x >>> (y &&& 31)
def g_iushr (x y : Int32) : Int32 := (x.toUInt32 >>> (y.toUInt32 &&& Int32.toUInt32 31)).toInt32
def g_lshl (x : Int64) (y : Int32) : Int64 := x <<< (y.toInt64 &&& 63)
def g_lshr (x : Int64) (y : Int32) : Int64 := x >>> (y.toInt64 &&& 63)
def g_lushr (x : Int64) (y : Int32) : Int64 := (x.toUInt64 >>> (y.toInt64.toUInt64 &&& Int64.toUInt64 63)).toInt64
def g_irem (x y : Int32) : Int32 := x - x / y * y
def g_lrem (x y : Int64) : Int64 := x - x / y * y
def g_if {α : Type} (c : Prop) [Decidable c] (x : Option α) : Option α := if c then x else none
theorem g_if_spec {α : Type} {c : Prop} [Decidable c] {x : Option α} {y : α} (h : g_if c x = some y) : c ∧ x = some y := by
  unfold g_if at h
  split at h
  · rename_i hc; exact ⟨hc, h⟩
  · cases h
theorem g_nz {v : Int32} (h : v = 0 ∨ v = 1) : narrow .boolean (.int v) = .int v ∧ fits .boolean (.int v) = true := by
  rcases h with rfl | rfl <;> exact ⟨rfl, rfl⟩
theorem g_cap0 {x : Int32} {n : Int} (h : 0 ≤ x.toInt ∧ x.toInt ≤ n) : ¬ x < 0 := fun q => by
  have := Int32.lt_iff_toInt_lt.mp q
  simp at this
  omega
theorem g_capN {x : Int32} {n : Nat} (h : 0 ≤ x.toInt ∧ x.toInt ≤ n) : x.toNatClampNeg ≤ n := by
  show x.toInt.toNat ≤ n
  omega
theorem g_capS {x : Int32} {n a b : Nat} (h : 0 ≤ x.toInt ∧ x.toInt ≤ n) (hn : a + n ≤ b) : a + x.toNatClampNeg ≤ b := by
  have := g_capN h
  omega
theorem g_capB {x : Int32} (h : 0 ≤ x.toInt ∧ x.toInt ≤ (136 : Int)) : x.toNatClampNeg * componentBytes (newarray.typeOf .int) ≤ 536870912 := by
  have : x.toNatClampNeg ≤ 136 := g_capN h
  have h2 : componentBytes (newarray.typeOf .int) = 4 := rfl
  rw [h2]
  omega
theorem g_capW {x : Int32} {n a b : Nat} (h : 0 ≤ x.toInt ∧ x.toInt ≤ n) (hn : a + n ≤ b := by decide) : a + x.toNatClampNeg ≤ b := g_capS h hn
theorem g_out {x : Int32} {hi : Int} (h : ∀ k : Nat, (k : Int) ≤ hi → ¬ x = nI k) : x.toInt < 0 ∨ hi < x.toInt := by
  by_cases h1 : x.toInt < 0
  · exact Or.inl h1
  · by_cases h2 : hi < x.toInt
    · exact Or.inr h2
    · exfalso
      have hlt : x.toInt < 2 ^ 31 := Int32.toInt_lt x
      refine h x.toInt.toNat (by omega) (Int32.toInt_inj.mp ?_)
      rw [nI_toInt (by omega)]
      omega
/-! THE STORE: what is known of the heap, as a function of addresses; each row of the machine as a step of the store. -/
abbrev g_E : Type := (Nat × vp_A) ⊕ (Nat × List Value)
abbrev g_S : Type := (Nat → Option g_E) × Nat
def g_up (σ : g_S) (a : Nat) (e : g_E) : g_S := (fun q => if q = a then some e else σ.1 q, σ.2)
def g_mk (σ : g_S) (e : g_E) : g_S := (fun q => if q = σ.2 then some e else σ.1 q, σ.2 + 1)
/-- the classes' numbers and slots; the array classes' numbers; the first address; the text constants' addresses -/
abbrev g_D : Type := va_G × (Nat → ClassId) × Nat × (Nat → Nat) × (Nat → Nat)
def g_e (cT : Nat → ClassId) (e : g_E) : va_E := match e with
  | .inl x => .inl (cT x.1, x.2)
  | .inr o => .inr o
def g_A (D : g_D) : Nat → Prop := fun q => D.2.2.1 ≤ q
def g_H (D : g_D) (σ : g_S) (H : Heap) : Prop := H.size = σ.2 ∧ D.2.2.1 ≤ σ.2 ∧ ∀ (a : Nat) (e : g_E), σ.1 a = some e → D.2.2.1 ≤ a ∧ va_at D.1 classes (a, g_e D.2.1 e) H
/-- the constants' words and cells: the digits' text, String's own static, the index checks' static -/
def g_str (D : g_D) (U : State) : Prop := vk_R RX6 71 g_txt (D.2.2.2.1 0) U ∧ vk_S 1 [36] [g_byt] D.2.2.2.1 D.2.2.2.2 (g_A D) U U.heap ∧ va_Z "java/lang/String" "COMPACT_STRINGS" "Z" (.int 1) (g_A D) U U.heap ∧ va_Zq "jdk/internal/util/Preconditions" "SIOOBE_FORMATTER" "Ljava/util/function/BiFunction;" (g_A D) U U.heap
def g_N (U : State) : Prop := (∀ q ∈ g_nestM, va_Nw (.methodLinkNest q.1 q.2.1 q.2.2.1 q.2.2.2) U) ∧ va_AO RX2 U
def g_K (D : g_D) (U : State) : Prop := va_K D.1 classes (g_tys D.2.1) U ∧ g_N U ∧ g_str D U
theorem g_K.same {D : g_D} {u U : State} (h : g_K D u) (hv : u.vm = U.vm) (hh : u.heap = U.heap) : g_K D U := by
  have ha : u.vm.Alike U.vm := hv ▸ Vm.Alike.refl u.vm
  obtain ⟨h1, ⟨h2, h3⟩, h4, h5, h6, h7⟩ := h
  exact ⟨h1.moved ha, ⟨fun q hq => (h2 q hq).same rfl hv, h3.moved ha⟩, vk_R.same hv.symm h4, hh ▸ h5.moved ha, hh ▸ h6.moved ha, hh ▸ h7.moved ha⟩
theorem g_K.call {D : g_D} {s U : State} {H : Heap} {locs : List Loc} (h : g_K D s) (hS : va_S (g_A D) s.heap H locs) (hU : U.heap = H) (hW : s.WarmedH U.vm) : g_K D U := by
  obtain ⟨h1, ⟨h2, h3⟩, h4, h5, h6, h7⟩ := h
  subst hU
  exact ⟨h1.moved hW.alike, ⟨fun q hq => (h2 q hq).warmM hW, h3.moved hW.alike⟩, h4.warm hW, (h5.kept hS.2.1).moved hW.alike, (h6.kept hS.2.1).moved hW.alike, (h7.kept hS.2.1).moved hW.alike⟩
/-- a method's own: the machine, the code, its class, the words -/
def g_C (own : String) (cc : ByteArray) (nL : Nat) (ret : Option FieldType) (X : Prop) (p : Program) (s : State) (m : MethodId) (args : Array Value) (meth : Method) (c : Code) : Prop :=
  p.tables.exec = Jvm.exec ∧ c.code = cc ∧ c.maxLocals = nL ∧ s.vm.findClass own = some m.cls ∧ (∀ w ∈ lw_g, w.before args s = true) ∧ meth.sig.returnType = ret ∧ meth.locks = false ∧ X
def g_P (D : g_D) (σ : g_S) (As : List Value) : Array Value → State → Prop := va_Pc As (fun U => g_H D σ U.heap ∧ g_K D U)
def g_Q (D : g_D) (σ : g_S) (v : Option Value) : Array Value → State → Outcome → State → Prop := fun _ st oc t => (oc = .returned v ∧ g_H D σ t.heap) ∧ va_F (g_A D) st t
theorem g_up_s (σ : g_S) (a : Nat) (e : g_E) : (g_up σ a e).1 a = some e := if_pos rfl
theorem g_up_n (σ : g_S) {a q : Nat} (e : g_E) (h : q ≠ a) : (g_up σ a e).1 q = σ.1 q := if_neg h
theorem g_bind {α β : Type} {x : Option α} {f : α → Option β} {y : β} (h : x.bind f = some y) : ∃ a, x = some a ∧ f a = some y := by
  cases x with
  | none => cases h
  | some a => exact ⟨a, rfl, h⟩
def g_let {α β : Type} (e : α) (k : α → β) : β := k e
theorem g_let_spec {α β : Type} {e : α} {k : α → β} {r : β} (h : g_let e k = r) : ∃ x, e = x ∧ k x = r := ⟨e, rfl, h⟩
-- the steps of the store
def g_o (σ : g_S) (ci a : Nat) : Option (List Value) := match σ.1 a with
  | some (.inr o) => if o.1 = ci then some o.2 else none
  | _ => none
def g_fi (σ : g_S) (ci a k : Nat) : Option Int32 := (g_o σ ci a).bind fun fs => match fs[k]? with
  | some (.int v) => some v
  | _ => none
def g_fl (σ : g_S) (ci a k : Nat) : Option Int64 := (g_o σ ci a).bind fun fs => match fs[k]? with
  | some (.long v) => some v
  | _ => none
def g_fr (σ : g_S) (ci a k : Nat) : Option Nat := (g_o σ ci a).bind fun fs => match fs[k]? with
  | some (.ref v) => some v
  | _ => none
def g_p (σ : g_S) (ci a k : Nat) (v : Value) : Option g_S := (g_o σ ci a).bind fun fs => if k < fs.length then some (g_up σ a (.inr (ci, fs.set k v))) else none
/-- an array's length and content, ints (of any width up to 32), longs, references -/
def g_ai (σ : g_S) (t a : Nat) : Option (Nat × (Nat → Int32)) := match σ.1 a with
  | some (.inl (t', n, .inl f)) => if t' = t then some (n, f) else none
  | _ => none
def g_al (σ : g_S) (t a : Nat) : Option (Nat × (Nat → Int64)) := match σ.1 a with
  | some (.inl (t', n, .inr (.inl f))) => if t' = t then some (n, f) else none
  | _ => none
def g_aq (σ : g_S) (t a : Nat) : Option (Nat × (Nat → Option Nat)) := match σ.1 a with
  | some (.inl (t', n, .inr (.inr (.inr (.inr f))))) => if t' = t then some (n, f) else none
  | _ => none
def g_in (i : Int32) (n : Nat) : Bool := decide (0 ≤ i.toInt ∧ i.toInt < n)
def g_li (σ : g_S) (t a : Nat) (i : Int32) : Option Int32 := (g_ai σ t a).bind fun x => if g_in i x.1 then some (x.2 i.toNatClampNeg) else none
def g_ll (σ : g_S) (t a : Nat) (i : Int32) : Option Int64 := (g_al σ t a).bind fun x => if g_in i x.1 then some (x.2 i.toNatClampNeg) else none
def g_lq (σ : g_S) (t a : Nat) (i : Int32) : Option Nat := (g_aq σ t a).bind fun x => if g_in i x.1 then x.2 i.toNatClampNeg else none
def g_si (σ : g_S) (t a : Nat) (i x : Int32) : Option g_S := (g_ai σ t a).bind fun z => if g_in i z.1 then some (g_up σ a (.inl (t, z.1, .inl (upd z.2 i.toNatClampNeg x)))) else none
def g_sl (σ : g_S) (t a : Nat) (i : Int32) (x : Int64) : Option g_S := (g_al σ t a).bind fun z => if g_in i z.1 then some (g_up σ a (.inl (t, z.1, .inr (.inl (vp_updL z.2 i.toNatClampNeg x))))) else none
/-- an object of class ci goes into a row of such -/
def g_sq (σ : g_S) (t ci a : Nat) (i : Int32) (v : Nat) : Option g_S := (g_o σ ci v).bind fun _ => (g_aq σ t a).bind fun z => if g_in i z.1 then some (g_up σ a (.inl (t, z.1, .inr (.inr (.inr (.inr (va_up z.2 i.toNatClampNeg (some v)))))))) else none
def g_len (σ : g_S) (t a : Nat) : Option Int32 := match σ.1 a with
  | some (.inl (t', x)) => if t' = t then some (Int32.ofNat x.1) else none
  | _ => none
/-- a row copied into another (or the same) -/
def g_cp (σ : g_S) (t a : Nat) (sp : Int32) (b : Nat) (dp n : Int32) : Option g_S := (g_ai σ t a).bind fun x => (g_ai σ t b).bind fun z =>
  if 0 ≤ sp.toInt ∧ 0 ≤ dp.toInt ∧ 0 ≤ n.toInt ∧ sp.toInt + n.toInt ≤ x.1 ∧ dp.toInt + n.toInt ≤ z.1 then some (g_up σ b (.inl (t, z.1, .inl (va_cpy x.2 z.2 sp.toNatClampNeg dp.toNatClampNeg n.toNatClampNeg)))) else none
theorem g_o_spec {σ : g_S} {ci a : Nat} {fs : List Value} (h : g_o σ ci a = some fs) : σ.1 a = some (.inr (ci, fs)) := by
  unfold g_o at h
  split at h
  · rename_i o ho
    split at h
    · rename_i hc
      cases h
      rw [ho, ← hc]
    · cases h
  · cases h
theorem g_o_of {σ : g_S} {ci a : Nat} {fs : List Value} (h : σ.1 a = some (.inr (ci, fs))) : g_o σ ci a = some fs := by
  simp [g_o, h]
theorem g_fi_spec {σ : g_S} {ci a k : Nat} {v : Int32} (h : g_fi σ ci a k = some v) : ∃ fs, σ.1 a = some (.inr (ci, fs)) ∧ fs[k]? = some (.int v) := by
  obtain ⟨fs, h1, h2⟩ := g_bind h
  refine ⟨fs, g_o_spec h1, ?_⟩
  split at h2
  · rename_i hk; cases h2; exact hk
  · cases h2
theorem g_fl_spec {σ : g_S} {ci a k : Nat} {v : Int64} (h : g_fl σ ci a k = some v) : ∃ fs, σ.1 a = some (.inr (ci, fs)) ∧ fs[k]? = some (.long v) := by
  obtain ⟨fs, h1, h2⟩ := g_bind h
  refine ⟨fs, g_o_spec h1, ?_⟩
  split at h2
  · rename_i hk; cases h2; exact hk
  · cases h2
theorem g_fr_spec {σ : g_S} {ci a k : Nat} {v : Nat} (h : g_fr σ ci a k = some v) : ∃ fs, σ.1 a = some (.inr (ci, fs)) ∧ fs[k]? = some (.ref v) := by
  obtain ⟨fs, h1, h2⟩ := g_bind h
  refine ⟨fs, g_o_spec h1, ?_⟩
  split at h2
  · rename_i hk; cases h2; exact hk
  · cases h2
theorem g_p_spec {σ σ' : g_S} {ci a k : Nat} {v : Value} (h : g_p σ ci a k v = some σ') : ∃ fs, σ.1 a = some (.inr (ci, fs)) ∧ k < fs.length ∧ σ' = g_up σ a (.inr (ci, fs.set k v)) := by
  obtain ⟨fs, h1, h2⟩ := g_bind h
  split at h2
  · rename_i hk; cases h2; exact ⟨fs, g_o_spec h1, hk, rfl⟩
  · cases h2
theorem g_ai_spec {σ : g_S} {t a : Nat} {x : Nat × (Nat → Int32)} (h : g_ai σ t a = some x) : σ.1 a = some (.inl (t, x.1, .inl x.2)) := by
  unfold g_ai at h
  split at h
  · rename_i t' n f ho
    split at h
    · rename_i hc; cases h; rw [ho, hc]
    · cases h
  · cases h
theorem g_ai_of {σ : g_S} {t a n : Nat} {f : Nat → Int32} (h : σ.1 a = some (.inl (t, n, .inl f))) : g_ai σ t a = some (n, f) := by
  simp [g_ai, h]
theorem g_al_spec {σ : g_S} {t a : Nat} {x : Nat × (Nat → Int64)} (h : g_al σ t a = some x) : σ.1 a = some (.inl (t, x.1, .inr (.inl x.2))) := by
  unfold g_al at h
  split at h
  · rename_i t' n f ho
    split at h
    · rename_i hc; cases h; rw [ho, hc]
    · cases h
  · cases h
theorem g_al_of {σ : g_S} {t a n : Nat} {f : Nat → Int64} (h : σ.1 a = some (.inl (t, n, .inr (.inl f)))) : g_al σ t a = some (n, f) := by
  simp [g_al, h]
theorem g_aq_spec {σ : g_S} {t a : Nat} {x : Nat × (Nat → Option Nat)} (h : g_aq σ t a = some x) : σ.1 a = some (.inl (t, x.1, .inr (.inr (.inr (.inr x.2))))) := by
  unfold g_aq at h
  split at h
  · rename_i t' n f ho
    split at h
    · rename_i hc; cases h; rw [ho, hc]
    · cases h
  · cases h
theorem g_aq_of {σ : g_S} {t a n : Nat} {f : Nat → Option Nat} (h : σ.1 a = some (.inl (t, n, .inr (.inr (.inr (.inr f)))))) : g_aq σ t a = some (n, f) := by
  simp [g_aq, h]
theorem g_in_spec {i : Int32} {n : Nat} (h : g_in i n = true) : vp_in i n := vp_in_iff.mpr (of_decide_eq_true h)
theorem g_li_spec {σ : g_S} {t a : Nat} {i v : Int32} (h : g_li σ t a i = some v) : ∃ n f, σ.1 a = some (.inl (t, n, .inl f)) ∧ vp_in i n ∧ v = f i.toNatClampNeg := by
  obtain ⟨x, h1, h2⟩ := g_bind h
  split at h2
  · rename_i hk; cases h2; exact ⟨x.1, x.2, g_ai_spec h1, g_in_spec hk, rfl⟩
  · cases h2
theorem g_ll_spec {σ : g_S} {t a : Nat} {i : Int32} {v : Int64} (h : g_ll σ t a i = some v) : ∃ n f, σ.1 a = some (.inl (t, n, .inr (.inl f))) ∧ vp_in i n ∧ v = f i.toNatClampNeg := by
  obtain ⟨x, h1, h2⟩ := g_bind h
  split at h2
  · rename_i hk; cases h2; exact ⟨x.1, x.2, g_al_spec h1, g_in_spec hk, rfl⟩
  · cases h2
theorem g_lq_spec {σ : g_S} {t a : Nat} {i : Int32} {v : Nat} (h : g_lq σ t a i = some v) : ∃ n f, σ.1 a = some (.inl (t, n, .inr (.inr (.inr (.inr f))))) ∧ vp_in i n ∧ f i.toNatClampNeg = some v := by
  obtain ⟨x, h1, h2⟩ := g_bind h
  split at h2
  · rename_i hk; exact ⟨x.1, x.2, g_aq_spec h1, g_in_spec hk, h2⟩
  · cases h2
theorem g_si_spec {σ σ' : g_S} {t a : Nat} {i x : Int32} (h : g_si σ t a i x = some σ') : ∃ n f, σ.1 a = some (.inl (t, n, .inl f)) ∧ vp_in i n ∧ σ' = g_up σ a (.inl (t, n, .inl (upd f i.toNatClampNeg x))) := by
  obtain ⟨z, h1, h2⟩ := g_bind h
  split at h2
  · rename_i hk; cases h2; exact ⟨z.1, z.2, g_ai_spec h1, g_in_spec hk, rfl⟩
  · cases h2
theorem g_sl_spec {σ σ' : g_S} {t a : Nat} {i : Int32} {x : Int64} (h : g_sl σ t a i x = some σ') : ∃ n f, σ.1 a = some (.inl (t, n, .inr (.inl f))) ∧ vp_in i n ∧ σ' = g_up σ a (.inl (t, n, .inr (.inl (vp_updL f i.toNatClampNeg x)))) := by
  obtain ⟨z, h1, h2⟩ := g_bind h
  split at h2
  · rename_i hk; cases h2; exact ⟨z.1, z.2, g_al_spec h1, g_in_spec hk, rfl⟩
  · cases h2
theorem g_sq_spec {σ σ' : g_S} {t ci a v : Nat} {i : Int32} (h : g_sq σ t ci a i v = some σ') : ∃ vs n f, σ.1 v = some (.inr (ci, vs)) ∧ σ.1 a = some (.inl (t, n, .inr (.inr (.inr (.inr f))))) ∧ vp_in i n ∧ σ' = g_up σ a (.inl (t, n, .inr (.inr (.inr (.inr (va_up f i.toNatClampNeg (some v))))))) := by
  obtain ⟨vs, h0, h⟩ := g_bind h
  obtain ⟨z, h1, h2⟩ := g_bind h
  split at h2
  · rename_i hk; cases h2; exact ⟨vs, z.1, z.2, g_o_spec h0, g_aq_spec h1, g_in_spec hk, rfl⟩
  · cases h2
theorem g_len_spec {σ : g_S} {t a : Nat} {v : Int32} (h : g_len σ t a = some v) : ∃ x, σ.1 a = some (.inl (t, x)) ∧ v = Int32.ofNat x.1 := by
  unfold g_len at h
  split at h
  · rename_i t' x ho
    split at h
    · rename_i hc; cases h; exact ⟨x, by rw [ho, hc], rfl⟩
    · cases h
  · cases h
theorem g_cp_spec {σ σ' : g_S} {t a b : Nat} {sp dp n : Int32} (h : g_cp σ t a sp b dp n = some σ') : ∃ n0 f n1 g, σ.1 a = some (.inl (t, n0, .inl f)) ∧ σ.1 b = some (.inl (t, n1, .inl g)) ∧ (0 ≤ sp.toInt ∧ 0 ≤ dp.toInt ∧ 0 ≤ n.toInt ∧ sp.toInt + n.toInt ≤ n0 ∧ dp.toInt + n.toInt ≤ n1) ∧ σ' = g_up σ b (.inl (t, n1, .inl (va_cpy f g sp.toNatClampNeg dp.toNatClampNeg n.toNatClampNeg))) := by
  obtain ⟨x, h0, h⟩ := g_bind h
  obtain ⟨z, h1, h2⟩ := g_bind h
  split at h2
  · rename_i hk; cases h2; exact ⟨x.1, x.2, z.1, z.2, g_ai_spec h0, g_ai_spec h1, hk, rfl⟩
  · cases h2
