/-! fractions in least terms: no machine here -/
theorem a_split {n d : Nat} (hd : 0 < d) : ∃ x y, n = x * Nat.gcd n d ∧ d = y * Nat.gcd n d ∧ Nat.gcd x y = 1 ∧ 0 < Nat.gcd n d := by
  have hg := Nat.gcd_pos_of_pos_right n hd
  obtain ⟨x, y, h1, h2, h3⟩ := Nat.exists_coprime n d
  exact ⟨x, y, h2, h3, h1, hg⟩
theorem a_red {N D g x y : Nat} (hg : 0 < g) (hN : N = x * g) (hD : D = y * g) (h : Nat.gcd x y = 1) : Nat.gcd N D = g ∧ N / Nat.gcd N D = x ∧ D / Nat.gcd N D = y := by
  have e : Nat.gcd N D = g := by rw [hN, hD, Nat.gcd_mul_right, h, Nat.one_mul]
  rw [e, hN, hD]
  exact ⟨rfl, Nat.mul_div_cancel _ hg, Nat.mul_div_cancel _ hg⟩
theorem a_mul {n1 d1 n2 d2 : Nat} (h1 : Nat.gcd n1 d1 = 1) (h2 : Nat.gcd n2 d2 = 1) (p1 : 0 < d1) (p2 : 0 < d2) :
    (n1 / Nat.gcd n1 d2) * (n2 / Nat.gcd n2 d1) = (n1 * n2) / Nat.gcd (n1 * n2) (d1 * d2) ∧ (d2 / Nat.gcd n1 d2) * (d1 / Nat.gcd n2 d1) = (d1 * d2) / Nat.gcd (n1 * n2) (d1 * d2) := by
  obtain ⟨x, y, ex, ey, exy, hg⟩ := a_split (n := n1) p2
  obtain ⟨z, w, ez, ew, ezw, hk⟩ := a_split (n := n2) p1
  generalize Nat.gcd n1 d2 = g at *
  generalize Nat.gcd n2 d1 = k at *
  have c1 : Nat.Coprime x w := Nat.Coprime.coprime_dvd_right (m := d1) ⟨k, ew⟩ (Nat.Coprime.coprime_dvd_left (k := n1) ⟨g, ex⟩ h1)
  have c2 : Nat.Coprime z y := Nat.Coprime.coprime_dvd_right (m := d2) ⟨g, ey⟩ (Nat.Coprime.coprime_dvd_left (k := n2) ⟨k, ez⟩ h2)
  have c : Nat.Coprime (x * z) (y * w) := Nat.Coprime.mul_left (Nat.Coprime.mul_right exy c1) (Nat.Coprime.mul_right c2 ezw)
  obtain ⟨e1, e2, e3⟩ := a_red (N := n1 * n2) (D := d1 * d2) (g := g * k) (x := x * z) (y := y * w) (Nat.mul_pos hg hk) (by rw [ex, ez]; ac_rfl) (by rw [ey, ew]; ac_rfl) c
  rw [e2, e3]
  constructor
  · conv => lhs; rw [ex, ez]
    rw [Nat.mul_div_cancel _ hg, Nat.mul_div_cancel _ hk]
  · conv => lhs; rw [ey, ew]
    rw [Nat.mul_div_cancel _ hg, Nat.mul_div_cancel _ hk]
theorem a_dvd {t A B c : Nat} (h : t + B = A ∨ t + A = B ∨ t = A + B) (h1 : c ∣ t) (h2 : c ∣ B) : c ∣ A := by
  rcases h with h | h | h
  · rw [← h]; exact Nat.dvd_add h1 h2
  · rw [← h] at h2; exact (Nat.dvd_add_right h1).mp h2
  · rw [h] at h1; exact (Nat.dvd_add_left h2).mp h1
theorem a_cop {t A B f : Nat} (h : t + B = A ∨ t + A = B ∨ t = A + B) (hB : f ∣ B) (hA : Nat.gcd A f = 1) : Nat.gcd t f = 1 := by
  have h1 : Nat.gcd t f ∣ A := a_dvd h (Nat.gcd_dvd_left t f) (Nat.dvd_trans (Nat.gcd_dvd_right t f) hB)
  have h2 : Nat.gcd t f ∣ Nat.gcd A f := Nat.dvd_gcd h1 (Nat.gcd_dvd_right t f)
  rw [hA] at h2
  exact Nat.dvd_one.mp h2
/-- the sum of two fractions: what the class reckons is the whole sum in least terms -/
theorem a_add {n1 d1 n2 d2 t : Nat} (h1 : Nat.gcd n1 d1 = 1) (h2 : Nat.gcd n2 d2 = 1) (p1 : 0 < d1) (p2 : 0 < d2)
    (ht : t + n2 * (d1 / Nat.gcd d1 d2) = n1 * (d2 / Nat.gcd d1 d2) ∨ t + n1 * (d2 / Nat.gcd d1 d2) = n2 * (d1 / Nat.gcd d1 d2) ∨ t = n1 * (d2 / Nat.gcd d1 d2) + n2 * (d1 / Nat.gcd d1 d2)) :
    t / Nat.gcd t (Nat.gcd d1 d2) = (t * Nat.gcd d1 d2) / Nat.gcd (t * Nat.gcd d1 d2) (d1 * d2) ∧ (d1 / Nat.gcd d1 d2) * (d2 / Nat.gcd t (Nat.gcd d1 d2)) = (d1 * d2) / Nat.gcd (t * Nat.gcd d1 d2) (d1 * d2) := by
  obtain ⟨f, e, ef, ee, efe, hg⟩ := a_split (n := d1) p2
  generalize Nat.gcd d1 d2 = g at *
  have f1 : d1 / g = f := by conv => lhs; rw [ef]
                             exact Nat.mul_div_cancel _ hg
  have e1 : d2 / g = e := by conv => lhs; rw [ee]
                             exact Nat.mul_div_cancel _ hg
  rw [f1, e1] at ht
  rw [f1]
  have cf : Nat.gcd t f = 1 := a_cop ht ⟨n2, Nat.mul_comm _ _⟩ (Nat.Coprime.mul_left (Nat.Coprime.coprime_dvd_right (m := d1) ⟨g, ef⟩ h1) (Nat.Coprime.symm efe))
  have ce : Nat.gcd t e = 1 := a_cop (A := n2 * f) (B := n1 * e) (by rcases ht with q | q | q <;> omega) ⟨n1, Nat.mul_comm _ _⟩ (Nat.Coprime.mul_left (Nat.Coprime.coprime_dvd_right (m := d2) ⟨g, ee⟩ h2) efe)
  obtain ⟨u, w, eu, ew, euw, hk⟩ := a_split (n := t) hg
  generalize Nat.gcd t g = k at *
  have cu : Nat.Coprime u (f * (e * w)) := Nat.Coprime.mul_right (Nat.Coprime.coprime_dvd_left (k := t) ⟨k, eu⟩ cf) (Nat.Coprime.mul_right (Nat.Coprime.coprime_dvd_left (k := t) ⟨k, eu⟩ ce) euw)
  obtain ⟨z1, z2, z3⟩ := a_red (N := t * g) (D := d1 * d2) (g := k * g) (x := u) (y := f * (e * w)) (Nat.mul_pos hk hg) (by rw [← Nat.mul_assoc, ← eu]) (by
    have q : d1 * d2 = (f * e) * (w * k) * g := by rw [← ew]; conv => lhs; rw [ef, ee]
                                                   ac_rfl
    rw [q]; ac_rfl) cu
  rw [z2, z3]
  constructor
  · conv => lhs; rw [eu]
    exact Nat.mul_div_cancel _ hk
  · have q : d2 = (e * w) * k := by
      conv => lhs; rw [ee, ew]
      ac_rfl
    conv => lhs; rw [q]
    rw [Nat.mul_div_cancel _ hk]
/-- fractions in least terms of one size are one -/
theorem a_uniq {n1 d1 n2 d2 : Nat} (h1 : Nat.gcd n1 d1 = 1) (h2 : Nat.gcd n2 d2 = 1) (p1 : 0 < d1) (h : n1 * d2 = n2 * d1) : n1 = n2 ∧ d1 = d2 := by
  have q1 : d1 ∣ d2 := Nat.Coprime.dvd_of_dvd_mul_left (Nat.Coprime.symm h1) ⟨n2, by rw [h, Nat.mul_comm]⟩
  have q2 : d2 ∣ d1 := Nat.Coprime.dvd_of_dvd_mul_left (Nat.Coprime.symm h2) ⟨n1, by rw [← h, Nat.mul_comm]⟩
  have e : d1 = d2 := Nat.dvd_antisymm q1 q2
  refine ⟨?_, e⟩
  rw [← e] at h
  exact Nat.eq_of_mul_eq_mul_right p1 h
-- WHAT EACH CALL SAYS: a fraction is numerator, denominator, 1 if below 0
abbrev g_Fr : Type := Nat × Nat × Nat
def sT (A B b1 b2 : Nat) : Nat := if b1 = b2 then A + B else if A < B then B - A else A - B
def sF (A B b1 b2 : Nat) : Nat := if b1 = b2 then b1 else if A < B then b2 else b1
def bx (a b : Nat) : Nat := if a = b then 0 else 1
def sz (n b : Nat) : Nat := if n = 0 then 0 else b
def cRes (N D b : Nat) : Int32 × g_Fr := if N / Nat.gcd N D < TOP ∧ D / Nat.gcd N D < TOP then (0, N / Nat.gcd N D, D / Nat.gcd N D, sz (N / Nat.gcd N D) b) else (-3, 0, 1, 0)
def cOrd (x z : g_Fr) : Int32 := if x.2.2 = z.2.2 then (if x.2.2 = 0 then cmpI (x.1 * z.2.1) (z.1 * x.2.1) else cmpI (z.1 * x.2.1) (x.1 * z.2.1)) else if x.2.2 = 0 then 1 else -1
def cQuo (n m b1 b2 : Nat) : Nat := if b1 = b2 ∨ n % m = 0 then n / m else n / m + 1
def cRem (n m b1 b2 : Nat) : Nat := if b1 = b2 ∨ n % m = 0 then n % m else m - n % m
def cPow (x : g_Fr) (e : Nat) : Int32 × g_Fr := if x.1 ^ e < TOP ∧ x.2.1 ^ e < TOP then (0, x.1 ^ e, x.2.1 ^ e, if e % 2 = 1 then sz x.1 x.2.2 else 0) else (-3, 0, 1, 0)
def spC (x z : g_Fr) (op : Int32) : Int32 × g_Fr :=
  if op = 0 then cRes (sT (x.1 * z.2.1) (z.1 * x.2.1) x.2.2 z.2.2) (x.2.1 * z.2.1) (sF (x.1 * z.2.1) (z.1 * x.2.1) x.2.2 z.2.2)
  else if op = 1 then cRes (sT (x.1 * z.2.1) (z.1 * x.2.1) x.2.2 (1 - z.2.2)) (x.2.1 * z.2.1) (sF (x.1 * z.2.1) (z.1 * x.2.1) x.2.2 (1 - z.2.2))
  else if op = 2 then cRes (x.1 * z.1) (x.2.1 * z.2.1) (bx x.2.2 z.2.2)
  else if op = 3 then (if z.1 = 0 then (-2, 0, 1, 0) else cRes (x.1 * z.2.1) (x.2.1 * z.1) (bx x.2.2 z.2.2))
  else if op = 4 then (if x.2.1 = 1 ∧ z.2.1 = 1 then (if z.1 = 0 then (-2, 0, 1, 0) else (0, cQuo x.1 z.1 x.2.2 z.2.2, 1, sz (cQuo x.1 z.1 x.2.2 z.2.2) (bx x.2.2 z.2.2))) else (-1, 0, 1, 0))
  else if op = 5 then (if x.2.1 = 1 ∧ z.2.1 = 1 then (if z.1 = 0 then (-2, 0, 1, 0) else (0, cRem x.1 z.1 x.2.2 z.2.2, 1, sz (cRem x.1 z.1 x.2.2 z.2.2) z.2.2)) else (-1, 0, 1, 0))
  else if op = 6 then (if x.2.1 = 1 ∧ z.2.1 = 1 then (0, Nat.gcd x.1 z.1, 1, 0) else (-1, 0, 1, 0))
  else if op = 7 then (if z.2.1 = 1 ∧ z.2.2 = 0 ∧ z.1 ≤ 10000 then cPow x z.1 else (-1, 0, 1, 0))
  else if op = 8 then (if 0 < cOrd x z then (0, z) else (0, x))
  else if op = 9 then (if cOrd x z < 0 then (0, z) else (0, x))
  else (-1, 0, 1, 0)
/-- is the rounded size one more? -/
def cAw (x : g_Fr) (op : Int32) : Nat := if x.1 % x.2.1 = 0 then 0 else if op = 5 then 0 else if op = 6 then (if x.2.1 < 2 * (x.1 % x.2.1) ∨ (2 * (x.1 % x.2.1) = x.2.1 ∧ x.1 / x.2.1 % 2 = 1) then 1 else 0) else if op = 3 then x.2.2 else 1 - x.2.2
def spR (x : g_Fr) (op : Int32) : Int32 × g_Fr :=
  if op = 0 then (0, x.1, 1, sz x.1 x.2.2)
  else if op = 1 then (0, x.2.1, 1, 0)
  else if op = 2 then (0, x.1, x.2.1, 0)
  else if op = 7 then (0, x.1, x.2.1, sz x.1 (1 - x.2.2))
  else if op = 3 ∨ op = 4 ∨ op = 5 ∨ op = 6 then (0, x.1 / x.2.1 + cAw x op, 1, sz (x.1 / x.2.1 + cAw x op) x.2.2)
  else (-1, 0, 1, 0)
/-- a place's fraction is one -/
def fOK (x : g_Fr) : Prop := x.1 < TOP ∧ 0 < x.2.1 ∧ x.2.1 < TOP ∧ Nat.gcd x.1 x.2.1 = 1 ∧ x.2.2 ≤ 1 ∧ (x.1 = 0 → x.2.2 = 0)
