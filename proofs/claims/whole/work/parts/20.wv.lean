/-! ROWS OF DIGITS: the value of the first n digits of g, base B; no machine here. -/
def wv (B : Nat) (g : Nat → Nat) : Nat → Nat
  | 0 => 0
  | n + 1 => wv B g n + g n * B ^ n
theorem wv_0 (B : Nat) (g : Nat → Nat) : wv B g 0 = 0 := rfl
theorem wv_s (B : Nat) (g : Nat → Nat) (n : Nat) : wv B g (n + 1) = wv B g n + g n * B ^ n := rfl
theorem wv_congr {B : Nat} {g h : Nat → Nat} : ∀ {n : Nat}, (∀ i, i < n → g i = h i) → wv B g n = wv B h n
  | 0, _ => rfl
  | n + 1, e => by rw [wv_s, wv_s, wv_congr (fun i hi => e i (by omega)), e n (by omega)]
theorem wv_lt {B : Nat} {g : Nat → Nat} : ∀ {n : Nat}, (∀ i, i < n → g i < B) → wv B g n < B ^ n
  | 0, _ => by simp [wv_0]
  | n + 1, e => by
    have h1 := wv_lt (n := n) (fun i hi => e i (by omega))
    have h2 : g n + 1 ≤ B := e n (by omega)
    have h3 : (g n + 1) * B ^ n ≤ B * B ^ n := Nat.mul_le_mul_right _ h2
    rw [wv_s, Nat.pow_succ, Nat.mul_comm (B ^ n) B]
    rw [Nat.add_mul, Nat.one_mul] at h3
    omega
theorem wv_low {B : Nat} {g : Nat → Nat} {n : Nat} (h : g n ≠ 0) : B ^ n ≤ wv B g (n + 1) := by
  rw [wv_s]
  have : 1 * B ^ n ≤ g n * B ^ n := Nat.mul_le_mul_right _ (by omega)
  omega
theorem wv_add (B : Nat) (g : Nat → Nat) (m : Nat) : ∀ n, wv B g (m + n) = wv B g m + B ^ m * wv B (fun i => g (m + i)) n
  | 0 => by simp [wv_0]
  | n + 1 => by
    rw [← Nat.add_assoc, wv_s, wv_add B g m n, wv_s, Nat.mul_add, Nat.pow_add]
    have : g (m + n) * (B ^ m * B ^ n) = B ^ m * (g (m + n) * B ^ n) := by
      rw [← Nat.mul_assoc, Nat.mul_comm (g (m + n)) (B ^ m), Nat.mul_assoc]
    omega
theorem wv_head (B : Nat) (g : Nat → Nat) (n : Nat) : wv B g (n + 1) = g 0 + B * wv B (fun i => g (i + 1)) n := by
  have h := wv_add B g 1 n
  rw [Nat.add_comm 1 n] at h
  rw [h, wv_s, wv_0]
  simp [Nat.add_comm]
theorem wv_top0 {B : Nat} {g : Nat → Nat} {m : Nat} : ∀ {n : Nat}, (∀ i, m ≤ i → i < m + n → g i = 0) → wv B g (m + n) = wv B g m
  | 0, _ => rfl
  | n + 1, e => by
    rw [← Nat.add_assoc, wv_s, wv_top0 (n := n) (fun i h1 h2 => e i h1 (by omega)), e (m + n) (by omega) (by omega)]
    simp
theorem wv_all0 {B : Nat} {g : Nat → Nat} {n : Nat} (h : ∀ i, i < n → g i = 0) : wv B g n = 0 := by
  have := wv_top0 (B := B) (g := g) (m := 0) (n := n) (fun i _ h2 => h i (by omega))
  rw [Nat.zero_add] at this
  rw [this, wv_0]
/-- a digit is set -/
theorem wv_up {B : Nat} {g : Nat → Nat} {k x : Nat} : ∀ {n : Nat}, k < n → wv B (fun j => if j = k then x else g j) n + g k * B ^ k = wv B g n + x * B ^ k
  | 0, h => by omega
  | n + 1, h => by
    rw [wv_s, wv_s]
    by_cases hk : k = n
    · subst hk
      rw [wv_congr (g := fun j => if j = k then x else g j) (h := g) (fun i hi => by simp [Nat.ne_of_lt hi])]
      simp
      omega
    · have := wv_up (B := B) (g := g) (x := x) (k := k) (n := n) (by omega)
      have h2 : (if n = k then x else g n) = g n := if_neg (fun e => hk e.symm)
      simp only [h2]
      omega
/-- the row's highest digit isn't 0 -/
def wc (g : Nat → Nat) (n : Nat) : Prop := n = 0 ∨ g (n - 1) ≠ 0
theorem wc_low {B : Nat} {g : Nat → Nat} {n : Nat} (h : wc g n) (hn : 0 < n) : B ^ (n - 1) ≤ wv B g n := by
  obtain ⟨m, rfl⟩ : ∃ m, n = m + 1 := ⟨n - 1, by omega⟩
  rcases h with h | h
  · omega
  · exact wv_low h
theorem wc_zero {B : Nat} (hB : 0 < B) {g : Nat → Nat} {n : Nat} (h : wc g n) : wv B g n = 0 ↔ n = 0 := by
  constructor
  · intro e
    by_cases hn : n = 0
    · exact hn
    · have h1 := wc_low (B := B) h (by omega)
      have h2 : 0 < B ^ (n - 1) := Nat.pow_pos hB
      omega
  · rintro rfl; rfl
/-- fewer digits: less -/
theorem wc_lt {B : Nat} (hB : 0 < B) {g h : Nat → Nat} {n m : Nat} (hg : ∀ i, i < n → g i < B) (hm : wc h m) (hnm : n < m) : wv B g n < wv B h m := by
  have h1 := wv_lt (B := B) hg
  have h2 := wc_low (B := B) hm (by omega)
  have h3 : B ^ n ≤ B ^ (m - 1) := Nat.pow_le_pow_right hB (by omega)
  omega
/-- the same digits above k, and at k less: less -/
theorem wv_lt_at {B : Nat} {g h : Nat → Nat} {k : Nat} (hg : ∀ i, i < k → g i < B) (hk : g k < h k) : ∀ {n : Nat}, k < n → (∀ i, k < i → i < n → g i = h i) → wv B g n < wv B h n
  | 0, hn, _ => by omega
  | n + 1, hn, he => by
    rw [wv_s, wv_s]
    by_cases hkn : k = n
    · subst hkn
      have h1 := wv_lt (B := B) hg
      have h2 : (g k + 1) * B ^ k ≤ h k * B ^ k := Nat.mul_le_mul_right _ (by omega)
      rw [Nat.add_mul, Nat.one_mul] at h2
      omega
    · have := wv_lt_at (B := B) hg hk (n := n) (by omega) (fun i h1 h2 => he i h1 (by omega))
      rw [he n (by omega) (by omega)]
      omega
/-- rows of the same value are the same row -/
theorem wv_inj {B : Nat} {g h : Nat → Nat} : ∀ {n : Nat}, (∀ i, i < n → g i < B) → (∀ i, i < n → h i < B) → wv B g n = wv B h n → ∀ i, i < n → g i = h i
  | 0, _, _, _, i, hi => by omega
  | n + 1, hg, hh, e, i, hi => by
    rw [wv_s, wv_s] at e
    have h1 := wv_lt (B := B) (n := n) (g := g) (fun i hi => hg i (by omega))
    have h2 := wv_lt (B := B) (n := n) (g := h) (fun i hi => hh i (by omega))
    have h3 : g n = h n := by
      rcases Nat.lt_trichotomy (g n) (h n) with q | q | q
      · have : (g n + 1) * B ^ n ≤ h n * B ^ n := Nat.mul_le_mul_right _ q
        rw [Nat.add_mul, Nat.one_mul] at this
        omega
      · exact q
      · have : (h n + 1) * B ^ n ≤ g n * B ^ n := Nat.mul_le_mul_right _ q
        rw [Nat.add_mul, Nat.one_mul] at this
        omega
    by_cases hin : i = n
    · rw [hin]; exact h3
    · exact wv_inj (n := n) (fun i hi => hg i (by omega)) (fun i hi => hh i (by omega)) (by rw [h3] at e; omega) i (by omega)
/-- the least size that leaves the value: what trimming comes to -/
def wt (g : Nat → Nat) : Nat → Nat
  | 0 => 0
  | n + 1 => if g n = 0 then wt g n else n + 1
theorem wt_le (g : Nat → Nat) : ∀ n, wt g n ≤ n
  | 0 => Nat.le_refl 0
  | n + 1 => by
    unfold wt
    split
    · exact Nat.le_succ_of_le (wt_le g n)
    · exact Nat.le_refl _
theorem wt_c (g : Nat → Nat) : ∀ n, wc g (wt g n)
  | 0 => Or.inl rfl
  | n + 1 => by
    unfold wt
    split
    · exact wt_c g n
    · rename_i h; exact Or.inr h
theorem wt_v (B : Nat) (g : Nat → Nat) : ∀ n, wv B g (wt g n) = wv B g n
  | 0 => rfl
  | n + 1 => by
    unfold wt
    split
    · rename_i h; rw [wt_v B g n, wv_s, h]; simp
    · rfl
theorem wt_id {g : Nat → Nat} {n : Nat} (h : wc g n) : wt g n = n := by
  cases n with
  | zero => rfl
  | succ n =>
    rcases h with h | h
    · cases h
    · unfold wt
      exact if_neg h
