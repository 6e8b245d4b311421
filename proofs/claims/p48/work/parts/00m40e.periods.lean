/-! The periods, on both sides, as orders. -/
theorem c_nI1 {n : Nat} (h : n < 2 ^ 31) : nI n = 1 ↔ n = 1 := nI_eq (b := 1) h (by decide)
theorem c_lN1 {n : Nat} (h : n < 2 ^ 63) : lN n = 1 ↔ n = 1 := pk_lEQ (b := 1) h (by decide)
/-- the loop that waits for 1, on the model's side -/
theorem m_ord_loop {B r k : Nat} (hB : B < 2 ^ 11) (hr : 1 < r) (hr2 : r < 2 ^ 20) (hk : isOrd B r k) : ∀ (t n i : Nat), 0 < i → i + t = k → t < n → k < 2 ^ 31 → f_X11_periodOf_b58 n (nI B) (nI r) (nI i) (nI (B ^ i % r)) = some (nI k) := by
  intro t
  induction t with
  | zero =>
    intro n i hi hit hn hk31
    obtain ⟨n, rfl⟩ : ∃ m, n = m + 1 := ⟨n - 1, by omega⟩
    have : i = k := by omega
    subst this
    have h1 : ¬ nI r ≤ 1 := fun q => by have := (nI_leI (b := 1) (by omega) (by decide)).mp q; omega
    show (if nI r ≤ 1 then _ else (if nI (B ^ i % r) = 1 then _ else _)) = _
    rw [if_neg h1, hk.2.1, if_pos (by decide)]
  | succ t ih =>
    intro n i hi hit hn hk31
    obtain ⟨n, rfl⟩ : ∃ m, n = m + 1 := ⟨n - 1, by omega⟩
    have hm : B ^ i % r < r := Nat.mod_lt _ (by omega)
    have h1 : ¬ nI r ≤ 1 := fun q => by have := (nI_leI (b := 1) (by omega) (by decide)).mp q; omega
    have h2 : ¬ nI (B ^ i % r) = 1 := fun q => hk.2.2 i hi (by omega) ((c_nI1 (by omega)).mp q)
    have h3 : ¬ nI r = 0 := fun q => by have := (nI_eq (b := 0) (by omega) (by decide)).mp q; omega
    have hp : B ^ i % r * B < 2 ^ 31 := by
      have : B ^ i % r * B ≤ 2 ^ 20 * 2 ^ 11 := Nat.mul_le_mul (by omega) (by omega)
      have e : (2 : Nat) ^ 20 * 2 ^ 11 = 2 ^ 31 := by decide
      have : B ^ i % r * B < 2 ^ 20 * 2 ^ 11 := Nat.lt_of_le_of_lt (Nat.mul_le_mul_right B (show B ^ i % r ≤ 2 ^ 20 by omega)) (by omega)
      omega
    show (if nI r ≤ 1 then _ else (if nI (B ^ i % r) = 1 then _ else (if nI r = 0 then none else f_X11_periodOf_b58 n (nI B) (nI r) (nI i + 1) ((nI (B ^ i % r) * nI B) - (nI (B ^ i % r) * nI B) / nI r * nI r)))) = _
    rw [if_neg h1, if_neg h2, if_neg h3, pk_mul, pk_rem hp (by omega) (by omega), nI_1]
    have e : B ^ i % r * B % r = B ^ (i + 1) % r := by rw [Nat.pow_succ, Nat.mul_mod, Nat.mod_mod, ← Nat.mul_mod]
    rw [e]
    exact ih n (i + 1) (by omega) (by omega) (by omega) hk31
/-- the model's period: 0, or the order of the base for what is left of the denominator -/
theorem m_period {B d t : Nat} (hB0 : 1 < B) (hB : B < 2 ^ 11) (hd : 0 < d) (hd2 : d < 2 ^ 20) (ht : d < 2 ^ t) (ht31 : t ≤ 31) : ∃ k, f_X11_periodOf (nI d) (nI B) = some (nI k) ∧ ((hcop B t d = 1 ∧ k = 0) ∨ (1 < hcop B t d ∧ isOrd B (hcop B t d) k)) ∧ k ≤ hcop B t d - 1 := by
  have h31 : (2 : Nat) ^ t ≤ 2 ^ 31 := Nat.pow_le_pow_right (by decide) ht31
  obtain ⟨g1, g2, g3⟩ := hcop_ok (B := B) (by omega) t d hd ht
  have e1 : f_X11_periodOf (nI d) (nI B) = (if nI (hcop B t d) = 1 then f_X11_periodOf_b42 (nI B) (nI (hcop B t d)) 0 else f_X11_periodOf_b42 (nI B) (nI (hcop B t d)) 1) := by
    unfold f_X11_periodOf
    rw [m_facI (by omega) (by omega), Option.bind_some, lN_i]
    exact m_cop_loop (by omega) (by omega) t xfuel d hd ht ht31 (by unfold xfuel; omega)
  rw [e1]
  generalize hr : hcop B t d = r at g1 g2 g3
  by_cases h1 : r = 1
  · subst h1
    refine ⟨0, ?_, Or.inl ⟨rfl, rfl⟩, by omega⟩
    rw [if_pos (by decide)]
    unfold f_X11_periodOf_b42
    rw [if_pos (by decide)]
    unfold f_X11_periodOf_b56
    show f_X11_periodOf_b58 (3999999 + 1) (nI B) (nI 1) 0 1 = _
    show (if nI 1 ≤ 1 then _ else _) = _
    rw [if_pos (by decide)]; rfl
  · obtain ⟨k, hk, hkr⟩ := ord_least (B := B) (r := r) (by omega) (by omega) (by first | exact g1 | (rw [Nat.gcd_comm]; exact g1))
    refine ⟨k, ?_, Or.inr ⟨by omega, hk⟩, hkr⟩
    have hn1 : ¬ nI r = 1 := fun q => h1 ((c_nI1 (by omega)).mp q)
    have hn0 : ¬ nI r = 0 := fun q => by have := (nI_eq (b := 0) (by omega) (by decide)).mp q; omega
    rw [if_neg hn1]
    unfold f_X11_periodOf_b42
    rw [if_neg hn1, if_neg hn0, pk_rem (by omega) (by omega) (by omega)]
    unfold f_X11_periodOf_b56
    have h := m_ord_loop hB (by omega) (by omega) hk (k - 1) xfuel 1 (by omega) (by have := hk.1; omega) (by unfold xfuel; omega) (by omega)
    rw [Nat.pow_one] at h
    exact h
/-- the class's loop that waits for 1 -/
theorem q_ord_loop {B r k lim : Nat} (hB : B < 2 ^ 31) (hr : 1 < r) (hr2 : r < 2 ^ 31) (hk : isOrd B r k) (hl : k ≤ lim) (hl2 : lim < 2 ^ 31) : ∀ (t n i : Nat), 0 < i → i + t = k → t < n → f_X0_timesToOne_b17 n (nI B) (lN r) (nI lim) (lN (B ^ i % r)) (nI i) = some (nI k) := by
  intro t
  induction t with
  | zero =>
    intro n i hi hit hn
    obtain ⟨n, rfl⟩ : ∃ m, n = m + 1 := ⟨n - 1, by omega⟩
    have : i = k := by omega
    subst this
    show (if lN (B ^ i % r) = 1 then _ else _) = _
    rw [hk.2.1, if_pos (by decide)]
  | succ t ih =>
    intro n i hi hit hn
    obtain ⟨n, rfl⟩ : ∃ m, n = m + 1 := ⟨n - 1, by omega⟩
    have hm : B ^ i % r < r := Nat.mod_lt _ (by omega)
    have h2 : ¬ lN (B ^ i % r) = 1 := fun q => hk.2.2 i hi (by omega) ((c_lN1 (by omega)).mp q)
    have h3 : ¬ lN r = 0 := fun q => by have := (pk_lEQ (b := 0) (by omega) (by decide)).mp q; omega
    have h4 : ¬ nI lim ≤ nI i := fun q => by have := (nI_leI (by omega) (by omega)).mp q; omega
    have hp : B ^ i % r * B < 2 ^ 63 := by
      have : B ^ i % r * B ≤ 2 ^ 31 * 2 ^ 31 := Nat.mul_le_mul (by omega) (by omega)
      have e : (2 : Nat) ^ 31 * 2 ^ 31 < 2 ^ 63 := by decide
      omega
    show (if lN (B ^ i % r) = 1 then _ else (if nI lim ≤ nI i then _ else (if lN r = 0 then none else f_X0_timesToOne_b17 n (nI B) (lN r) (nI lim) ((lN (B ^ i % r) * (nI B).toInt64) - (lN (B ^ i % r) * (nI B).toInt64) / lN r * lN r) (nI i + 1)))) = _
    rw [if_neg h2, if_neg h4, if_neg h3, nI_l hB, lN_mul, pk_lRem hp (by omega) (by omega), nI_1]
    have e : B ^ i % r * B % r = B ^ (i + 1) % r := by rw [Nat.pow_succ, Nat.mul_mod, Nat.mod_mod, ← Nat.mul_mod]
    rw [e]
    exact ih n (i + 1) (by omega) (by omega) (by omega)
theorem q_ord {B r k lim : Nat} (hB : B < 2 ^ 31) (hr : 1 < r) (hr2 : r < 2 ^ 31) (hk : isOrd B r k) (hl : k ≤ lim) (hl2 : lim < 4000000) : f_X0_timesToOne (nI B) (lN r) (nI lim) = some (nI k) := by
  unfold f_X0_timesToOne
  have h1 : 1 < lN r := (pk_lLT (a := 1) (by decide) (by omega)).mpr hr
  have h3 : ¬ lN r = 0 := fun q => by have := (pk_lEQ (b := 0) (by omega) (by decide)).mp q; omega
  rw [if_pos h1, if_neg h3, nI_l hB, pk_lRem (by omega) (by omega) (by omega)]
  have h := q_ord_loop hB hr hr2 hk hl (by omega) (k - 1) xfuel 1 (by omega) (by have := hk.1; omega) (by unfold xfuel; omega)
  rw [Nat.pow_one] at h
  exact h
theorem q_ord1 {B lim : Nat} : f_X0_timesToOne (nI B) (lN 1) (nI lim) = some (nI 0) := by
  unfold f_X0_timesToOne
  rw [if_neg (by decide)]; rfl
