/-! What the pure functions come to: dividing, Euclid's algorithm. Numbers are nI n and lN n of natural numbers n. -/
theorem l_lt {a b : Nat} (ha : a < 2 ^ 63) (hb : b < 2 ^ 63) : lN a < lN b ↔ a < b := pk_lLT ha hb
theorem q_quot {a b : Nat} (ha : a < 2 ^ 63) (hb : b < 2 ^ 63) : f_X5_quotient (lN a) (lN b) = some (lN (a / b)) := by
  unfold f_X5_quotient
  by_cases h : b = 0
  · subst h
    rw [if_pos (show lN 0 < 1 from (pk_lLT (b := 1) (by decide) (by decide)).mpr (by decide)), Nat.div_zero]; rfl
  · have h1 : ¬ lN b < 1 := fun q => by have := (pk_lLT (b := 1) hb (by decide)).mp q; omega
    have h2 : ¬ lN b = 0 := fun q => h ((pk_lEQ (b := 0) hb (by decide)).mp q)
    rw [if_neg h1, if_neg h2, pk_lDiv ha (by omega) hb]
theorem q_left {a b : Nat} (ha : a < 2 ^ 63) (h0 : 0 < b) (hb : b < 2 ^ 63) : f_X5_left (lN a) (lN b) = some (lN (a % b)) := by
  unfold f_X5_left
  have h1 : ¬ lN b < 1 := fun q => by have := (pk_lLT (b := 1) hb (by decide)).mp q; omega
  have h2 : ¬ lN b = 0 := fun q => by have := (pk_lEQ (b := 0) hb (by decide)).mp q; omega
  rw [if_neg h1, if_neg h2, pk_lRem ha h0 hb]
theorem e_half {a b t : Nat} (hb : b < 2 ^ (t + 1)) (h0 : a % b ≠ 0) (hb0 : 0 < b) : b % (a % b) < 2 ^ t := by
  have h1 : a % b < b := Nat.mod_lt _ hb0
  have h2 : 2 ^ (t + 1) = 2 * 2 ^ t := by rw [Nat.pow_succ, Nat.mul_comm]
  rcases Nat.lt_or_ge (2 * (a % b)) b with h | h
  · have := Nat.mod_lt b (show 0 < a % b by omega)
    omega
  · have h3 : b % (a % b) = (b - a % b) % (a % b) := by
      rw [Nat.mod_eq_sub_mod (by omega)]
    have h4 : (b - a % b) % (a % b) ≤ b - a % b := Nat.mod_le _ _
    omega
theorem e_step (a b : Nat) : Nat.gcd a b = Nat.gcd b (a % b) := by
  rw [Nat.gcd_comm a b, Nat.gcd_rec b a, Nat.gcd_comm]
theorem q_gcd0 (n a k : Nat) : f_X5_greatestCommon_b9 (n + 1) (lN a) (lN 0) (nI k) = some (lN a) := by
  show (if lN 0 = 0 then _ else _) = _
  rw [if_pos (show lN 0 = 0 from rfl)]
theorem q_gcd1 {n a b k : Nat} (ha : a < 2 ^ 63) (hb : b < 2 ^ 63) (h0 : 0 < b) (hk : k < 200) : f_X5_greatestCommon_b9 (n + 1) (lN a) (lN b) (nI k) = f_X5_greatestCommon_b9 n (lN b) (lN (a % b)) (nI (k + 1)) := by
  have h2 : ¬ lN b = 0 := fun q => by have := (pk_lEQ (b := 0) hb (by decide)).mp q; omega
  have h3 : ¬ (200 : Int32) ≤ nI k := fun q => by have := (nI_leI (a := 200) (b := k) (by decide) (by omega)).mp q; omega
  show (if lN b = 0 then _ else (if (200 : Int32) ≤ nI k then _ else (if lN b = 0 then none else _))) = _
  rw [if_neg h2, if_neg h3, if_neg h2, pk_lRem ha h0 hb, nI_1]
theorem q_gcd_loop : ∀ (t n a b k : Nat), a < 2 ^ 63 → b < 2 ^ 63 → b < 2 ^ t → k + 2 * t ≤ 199 → 2 * t < n → f_X5_greatestCommon_b9 n (lN a) (lN b) (nI k) = some (lN (Nat.gcd a b)) := by
  intro t
  induction t with
  | zero =>
    intro n a b k ha hb63 hb hk hn
    have : b = 0 := by omega
    subst this
    obtain ⟨n, rfl⟩ : ∃ m, n = m + 1 := ⟨n - 1, by omega⟩
    rw [q_gcd0, Nat.gcd_zero_right]
  | succ t ih =>
    intro n a b k ha hb63 hb hk hn
    obtain ⟨n, rfl⟩ : ∃ m, n = m + 2 := ⟨n - 2, by omega⟩
    by_cases h0 : b = 0
    · subst h0
      rw [q_gcd0, Nat.gcd_zero_right]
    · rw [q_gcd1 ha hb63 (by omega) (by omega), e_step a b]
      have hr : a % b < b := Nat.mod_lt _ (by omega)
      by_cases h1 : a % b = 0
      · rw [h1, q_gcd0, Nat.gcd_zero_right]
      · have hr2 : b % (a % b) < a % b := Nat.mod_lt _ (by omega)
        rw [q_gcd1 hb63 (by omega) (by omega) (by omega), e_step b (a % b)]
        exact ih n _ _ _ (by omega) (by omega) (e_half hb h1 (by omega)) (by omega) (by omega)
theorem q_gcd {a b : Nat} (ha : a < 2 ^ 63) (hb : b < 2 ^ 63) : f_X5_greatestCommon (lN a) (lN b) = some (lN (Nat.gcd a b)) :=
  q_gcd_loop 63 xfuel a b 0 ha hb hb (by decide) (by decide)
/-- the other side's Euclid, of natural numbers -/
theorem m_fac0 (n a : Nat) (ha : a < 2 ^ 63) : f_X11_factor_b6 (n + 1) (lN a) (lN 0) = some (lN a) := by
  show (if lN 0 = 0 then (if lN a < 0 then _ else _) else _) = _
  have h : ¬ lN a < 0 := fun q => by have := (pk_lLT (b := 0) ha (by decide)).mp q; omega
  rw [if_pos (show lN 0 = 0 from rfl), if_neg h]
theorem m_fac1 {n a b : Nat} (ha : a < 2 ^ 63) (hb : b < 2 ^ 63) (h0 : 0 < b) : f_X11_factor_b6 (n + 1) (lN a) (lN b) = f_X11_factor_b6 n (lN b) (lN (a % b)) := by
  have h2 : ¬ lN b = 0 := fun q => by have := (pk_lEQ (b := 0) hb (by decide)).mp q; omega
  show (if lN b = 0 then _ else (if lN b = 0 then none else _)) = _
  rw [if_neg h2, if_neg h2, pk_lRem ha h0 hb]
theorem m_fac_loop : ∀ (t n a b : Nat), a < 2 ^ 63 → b < 2 ^ 63 → b < 2 ^ t → 2 * t < n → f_X11_factor_b6 n (lN a) (lN b) = some (lN (Nat.gcd a b)) := by
  intro t
  induction t with
  | zero =>
    intro n a b ha hb63 hb hn
    have : b = 0 := by omega
    subst this
    obtain ⟨n, rfl⟩ : ∃ m, n = m + 1 := ⟨n - 1, by omega⟩
    rw [m_fac0 n a ha, Nat.gcd_zero_right]
  | succ t ih =>
    intro n a b ha hb63 hb hn
    obtain ⟨n, rfl⟩ : ∃ m, n = m + 2 := ⟨n - 2, by omega⟩
    by_cases h0 : b = 0
    · subst h0
      rw [m_fac0 _ a ha, Nat.gcd_zero_right]
    · rw [m_fac1 ha hb63 (by omega), e_step a b]
      have hr : a % b < b := Nat.mod_lt _ (by omega)
      by_cases h1 : a % b = 0
      · rw [h1, m_fac0 _ b hb63, Nat.gcd_zero_right]
      · have hr2 : b % (a % b) < a % b := Nat.mod_lt _ (by omega)
        rw [m_fac1 hb63 (by omega) (by omega), e_step b (a % b)]
        exact ih n _ _ (by omega) (by omega) (e_half hb h1 (by omega)) (by omega)
theorem m_fac {a b : Nat} (ha : a < 2 ^ 63) (hb : b < 2 ^ 63) : f_X11_factor (lN a) (lN b) = some (lN (Nat.gcd a b)) :=
  m_fac_loop 63 xfuel a b ha hb hb (by decide)
/-! The head of a denominator, and its part without the base's factors. -/
/-- one digit on -/
def hstep (B d : Nat) : Nat := d / Nat.gcd d B
/-- how often a factor of the base goes out of d (at most k times are looked at) -/
def hlen (B : Nat) : Nat → Nat → Nat
  | 0, _ => 0
  | k + 1, d => if Nat.gcd d B = 1 then 0 else hlen B k (hstep B d) + 1
/-- what is left then -/
def hcop (B : Nat) : Nat → Nat → Nat
  | 0, d => d
  | k + 1, d => if Nat.gcd d B = 1 then d else hcop B k (hstep B d)
theorem hstep_lt {B d t : Nat} (hd : 0 < d) (hB : 0 < B) (h : Nat.gcd d B ≠ 1) (ht : d < 2 ^ (t + 1)) : 0 < hstep B d ∧ hstep B d < 2 ^ t ∧ hstep B d < d := by
  have h1 : 0 < Nat.gcd d B := Nat.gcd_pos_of_pos_left _ hd
  have h2 : Nat.gcd d B ∣ d := Nat.gcd_dvd_left d B
  obtain ⟨c, hc⟩ := h2
  have hs : hstep B d = c := by
    unfold hstep
    rw (config := { occs := .pos [1] }) [hc]
    exact Nat.mul_div_cancel_left c h1
  rw [hs]
  have h3 : 2 ≤ Nat.gcd d B := by omega
  have h4 : 0 < c := by
    rcases Nat.eq_zero_or_pos c with h | h
    · rw [h, Nat.mul_zero] at hc; omega
    · exact h
  have h5 : 2 * c ≤ d := by
    have := Nat.mul_le_mul_right c h3
    omega
  have h6 : 2 ^ (t + 1) = 2 * 2 ^ t := by rw [Nat.pow_succ, Nat.mul_comm]
  omega
theorem hstep_self {B d : Nat} (h : Nat.gcd d B = 1) : hstep B d = d := by unfold hstep; rw [h, Nat.div_one]
theorem hstep_ne {B d : Nat} (hd : 0 < d) (hB : 0 < B) (h : Nat.gcd d B ≠ 1) : hstep B d ≠ d := by
  have hp : d < 2 ^ (d + 1) := Nat.lt_of_lt_of_le Nat.lt_two_pow_self (Nat.pow_le_pow_right (by decide) (by omega))
  have := (hstep_lt hd hB h hp).2.2
  omega
theorem q_digitOn {d B : Nat} (hd : d < 2 ^ 63) (hB : B < 2 ^ 31) (hB0 : 0 < B) : f_X0_digitOn (lN d) (nI B) = some (lN (hstep B d)) := by
  unfold f_X0_digitOn
  rw [nI_l hB, q_gcd hd (by omega), Option.bind_some, q_quot hd (Nat.lt_of_le_of_lt (Nat.gcd_le_right d hB0) (by omega))]
  rfl
