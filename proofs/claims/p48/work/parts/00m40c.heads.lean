/-! Heads, and parts without the base's factors, on both sides. -/
theorem hlen_more {B : Nat} (hB : 0 < B) : ∀ (t u d : Nat), 0 < d → d < 2 ^ t → t ≤ u → hlen B u d = hlen B t d := by
  intro t
  induction t with
  | zero => intro u d hd ht hu; omega
  | succ t ih =>
    intro u d hd ht hu
    obtain ⟨u, rfl⟩ : ∃ m, u = m + 1 := ⟨u - 1, by omega⟩
    by_cases h : Nat.gcd d B = 1
    · simp only [hlen, if_pos h]
    · have h1 := hstep_lt hd hB h ht
      simp only [hlen, if_neg h]
      rw [ih u _ h1.1 h1.2.1 (by omega)]
theorem hcop_more {B : Nat} (hB : 0 < B) : ∀ (t u d : Nat), 0 < d → d < 2 ^ t → t ≤ u → hcop B u d = hcop B t d := by
  intro t
  induction t with
  | zero => intro u d hd ht hu; omega
  | succ t ih =>
    intro u d hd ht hu
    obtain ⟨u, rfl⟩ : ∃ m, u = m + 1 := ⟨u - 1, by omega⟩
    by_cases h : Nat.gcd d B = 1
    · simp only [hcop, if_pos h]
    · have h1 := hstep_lt hd hB h ht
      simp only [hcop, if_neg h]
      rw [ih u _ h1.1 h1.2.1 (by omega)]
theorem hlen_le {B : Nat} : ∀ t d, hlen B t d ≤ t := by
  intro t
  induction t with
  | zero => intro d; exact Nat.le_refl _
  | succ t ih =>
    intro d
    by_cases h : Nat.gcd d B = 1
    · simp only [hlen, if_pos h]; omega
    · simp only [hlen, if_neg h]
      have := ih (hstep B d)
      omega
/-- what is left has no factor in common with the base, is positive, and no greater -/
theorem hcop_ok {B : Nat} (hB : 0 < B) : ∀ (t d : Nat), 0 < d → d < 2 ^ t → Nat.gcd (hcop B t d) B = 1 ∧ 0 < hcop B t d ∧ hcop B t d ≤ d := by
  intro t
  induction t with
  | zero => intro d hd ht; omega
  | succ t ih =>
    intro d hd ht
    by_cases h : Nat.gcd d B = 1
    · simp only [hcop, if_pos h]
      exact ⟨h, hd, Nat.le_refl _⟩
    · have h1 := hstep_lt hd hB h ht
      simp only [hcop, if_neg h]
      obtain ⟨a, b, c⟩ := ih _ h1.1 h1.2.1
      exact ⟨a, b, by omega⟩
theorem q_head_loop {B : Nat} (hB0 : 0 < B) (hB : B < 2 ^ 31) : ∀ (t n d k : Nat), 0 < d → d < 2 ^ t → k + t ≤ 32 → t ≤ 32 → t < n → f_X0_head_b13 n (nI B) (nI k) (lN d) (lN (hstep B d)) = some (nI (k + hlen B t d)) := by
  intro t
  induction t with
  | zero => intro n d k hd ht; omega
  | succ t ih =>
    intro n d k hd ht hk ht32 hn
    obtain ⟨n, rfl⟩ : ∃ m, n = m + 1 := ⟨n - 1, by omega⟩
    have h32 : (2 : Nat) ^ (t + 1) ≤ 2 ^ 32 := Nat.pow_le_pow_right (by decide) ht32
    by_cases h : Nat.gcd d B = 1
    · have e : f_X0_head_b13 (n + 1) (nI B) (nI k) (lN d) (lN (hstep B d)) = some (nI k) := by
        show (if lN (hstep B d) = lN d then _ else _) = _
        rw [hstep_self h, if_pos rfl]
      rw [e]
      simp only [hlen, if_pos h, Nat.add_zero]
    · have h1 := hstep_lt hd hB0 h ht
      have hne : ¬ lN (hstep B d) = lN d := fun q => by
        have := (pk_lEQ (by omega) (by omega)).mp q
        omega
      have hk32 : ¬ (32 : Int32) ≤ nI k := fun q => by have := (nI_leI (a := 32) (b := k) (by decide) (by omega)).mp q; omega
      show (if lN (hstep B d) = lN d then _ else (if (32 : Int32) ≤ nI k then _ else (f_X0_digitOn (lN (hstep B d)) (nI B)).bind _)) = _
      rw [if_neg hne, if_neg hk32, q_digitOn (by omega) hB hB0, Option.bind_some, nI_1]
      rw [ih n _ _ h1.1 h1.2.1 (by omega) (by omega) (by omega)]
      simp only [hlen, if_neg h]
      rw [show k + 1 + hlen B t (hstep B d) = k + (hlen B t (hstep B d) + 1) by omega]
theorem q_head {B d t : Nat} (hB0 : 0 < B) (hB : B < 2 ^ 31) (hd : 0 < d) (ht : d < 2 ^ t) (ht32 : t ≤ 32) : f_X0_head (lN d) (nI B) = some (nI (hlen B t d)) := by
  have h32 : (2 : Nat) ^ t ≤ 2 ^ 32 := Nat.pow_le_pow_right (by decide) ht32
  unfold f_X0_head
  rw [q_digitOn (by omega) hB hB0, Option.bind_some]
  have h := q_head_loop hB0 hB t xfuel d 0 hd ht (by omega) ht32 (by unfold xfuel; omega)
  rw [Nat.zero_add] at h
  exact h
theorem q_cop_loop {B : Nat} (hB0 : 0 < B) (hB : B < 2 ^ 31) : ∀ (t n d : Nat), 0 < d → d < 2 ^ t → t ≤ 32 → t < n → f_X0_coprimePart_b9 n (nI B) (lN d) (nI (hlen B t d)) = some (lN (hcop B t d)) := by
  intro t
  induction t with
  | zero => intro n d hd ht; omega
  | succ t ih =>
    intro n d hd ht ht32 hn
    obtain ⟨n, rfl⟩ : ∃ m, n = m + 1 := ⟨n - 1, by omega⟩
    have h32 : (2 : Nat) ^ (t + 1) ≤ 2 ^ 32 := Nat.pow_le_pow_right (by decide) ht32
    by_cases h : Nat.gcd d B = 1
    · simp only [hlen, hcop, if_pos h]
      show (if nI 0 ≤ 0 then _ else _) = _
      rw [if_pos (by decide)]
    · have h1 := hstep_lt hd hB0 h ht
      have hle := hlen_le (B := B) t (hstep B d)
      simp only [hlen, hcop, if_neg h]
      have hk : ¬ nI (hlen B t (hstep B d) + 1) ≤ 0 := fun q => by have := (nI_leI (a := hlen B t (hstep B d) + 1) (b := 0) (by omega) (by decide)).mp q; omega
      show (if nI (hlen B t (hstep B d) + 1) ≤ 0 then _ else (f_X0_digitOn (lN d) (nI B)).bind _) = _
      rw [if_neg hk, q_digitOn (by omega) hB hB0, Option.bind_some, pk_m1]
      exact ih n _ h1.1 h1.2.1 (by omega) (by omega)
theorem q_cop {B d t : Nat} (hB0 : 0 < B) (hB : B < 2 ^ 31) (hd : 0 < d) (ht : d < 2 ^ t) (ht32 : t ≤ 32) : f_X0_coprimePart (lN d) (nI B) = some (lN (hcop B t d)) := by
  unfold f_X0_coprimePart
  rw [q_head hB0 hB hd ht ht32, Option.bind_some]
  exact q_cop_loop hB0 hB t xfuel d hd ht ht32 (by unfold xfuel; omega)
theorem m_facI {d B : Nat} (hd : d < 2 ^ 31) (hB : B < 2 ^ 31) : f_X11_factor (nI d).toInt64 (nI B).toInt64 = some (lN (Nat.gcd d B)) := by
  rw [nI_l hd, nI_l hB, m_fac (by omega) (by omega)]
theorem m_head_loop {B : Nat} (hB0 : 0 < B) (hB : B < 2 ^ 31) : ∀ (t n d k : Nat), 0 < d → d < 2 ^ t → t ≤ 31 → t < n → f_X11_headOf_b14 n (nI B) (nI k) (nI d) (nI (Nat.gcd d B)) = some (nI (k + hlen B t d)) := by
  intro t
  induction t with
  | zero => intro n d k hd ht; omega
  | succ t ih =>
    intro n d k hd ht ht31 hn
    obtain ⟨n, rfl⟩ : ∃ m, n = m + 1 := ⟨n - 1, by omega⟩
    have h31 : (2 : Nat) ^ (t + 1) ≤ 2 ^ 31 := Nat.pow_le_pow_right (by decide) ht31
    have hg0 : 0 < Nat.gcd d B := Nat.gcd_pos_of_pos_left _ hd
    have hgd : Nat.gcd d B ≤ d := Nat.gcd_le_left B hd
    by_cases h : Nat.gcd d B = 1
    · simp only [hlen, if_pos h, Nat.add_zero]
      rw [h]
      show (if nI 1 ≤ 1 then _ else _) = _
      rw [if_pos (by decide)]
    · have h1 := hstep_lt hd hB0 h ht
      have hk : ¬ nI (Nat.gcd d B) ≤ 1 := fun q => by have := (nI_leI (b := 1) (by omega) (by decide)).mp q; omega
      have h0 : ¬ nI (Nat.gcd d B) = 0 := fun q => by have := (nI_eq (b := 0) (by omega) (by decide)).mp q; omega
      simp only [hlen, if_neg h]
      show (if nI (Nat.gcd d B) ≤ 1 then _ else (if nI (Nat.gcd d B) = 0 then none else (f_X11_factor ((nI d / nI (Nat.gcd d B)).toInt64) (nI B).toInt64).bind _)) = _
      rw [if_neg hk, if_neg h0, pk_div (by omega) hg0 (by omega)]
      rw [show d / Nat.gcd d B = hstep B d from rfl, m_facI (by omega) hB, Option.bind_some, lN_i, nI_1]
      rw [ih n _ _ h1.1 h1.2.1 (by omega) (by omega)]
      rw [show k + 1 + hlen B t (hstep B d) = k + (hlen B t (hstep B d) + 1) by omega]
theorem m_head {B d t : Nat} (hB0 : 0 < B) (hB : B < 2 ^ 31) (hd : 0 < d) (ht : d < 2 ^ t) (ht31 : t ≤ 31) : f_X11_headOf (nI d) (nI B) = some (nI (hlen B t d)) := by
  have h31 : (2 : Nat) ^ t ≤ 2 ^ 31 := Nat.pow_le_pow_right (by decide) ht31
  unfold f_X11_headOf
  rw [m_facI (by omega) hB, Option.bind_some, lN_i]
  have h := m_head_loop hB0 hB t xfuel d 0 hd ht ht31 (by unfold xfuel; omega)
  rw [Nat.zero_add] at h
  exact h
theorem m_cop_loop {B : Nat} (hB0 : 0 < B) (hB : B < 2 ^ 31) : ∀ (t n d : Nat), 0 < d → d < 2 ^ t → t ≤ 31 → t < n → f_X11_periodOf_b11 n (nI B) (nI d) (nI (Nat.gcd d B)) = (if nI (hcop B t d) = 1 then f_X11_periodOf_b42 (nI B) (nI (hcop B t d)) 0 else f_X11_periodOf_b42 (nI B) (nI (hcop B t d)) 1) := by
  intro t
  induction t with
  | zero => intro n d hd ht; omega
  | succ t ih =>
    intro n d hd ht ht31 hn
    obtain ⟨n, rfl⟩ : ∃ m, n = m + 1 := ⟨n - 1, by omega⟩
    have h31 : (2 : Nat) ^ (t + 1) ≤ 2 ^ 31 := Nat.pow_le_pow_right (by decide) ht31
    have hg0 : 0 < Nat.gcd d B := Nat.gcd_pos_of_pos_left _ hd
    have hgd : Nat.gcd d B ≤ d := Nat.gcd_le_left B hd
    by_cases h : Nat.gcd d B = 1
    · simp only [hcop, if_pos h]
      rw [h]
      show (if nI 1 ≤ 1 then _ else _) = _
      rw [if_pos (by decide)]
    · have h1 := hstep_lt hd hB0 h ht
      have hk : ¬ nI (Nat.gcd d B) ≤ 1 := fun q => by have := (nI_leI (b := 1) (by omega) (by decide)).mp q; omega
      have h0 : ¬ nI (Nat.gcd d B) = 0 := fun q => by have := (nI_eq (b := 0) (by omega) (by decide)).mp q; omega
      simp only [hcop, if_neg h]
      show (if nI (Nat.gcd d B) ≤ 1 then _ else (if nI (Nat.gcd d B) = 0 then none else (f_X11_factor ((nI d / nI (Nat.gcd d B)).toInt64) (nI B).toInt64).bind fun v => f_X11_periodOf_b11 n (nI B) (nI d / nI (Nat.gcd d B)) v.toInt32)) = _
      rw [if_neg hk, if_neg h0, pk_div (by omega) hg0 (by omega)]
      rw [show d / Nat.gcd d B = hstep B d from rfl, m_facI (by omega) hB, Option.bind_some, lN_i]
      exact ih n _ h1.1 h1.2.1 (by omega) (by omega)
