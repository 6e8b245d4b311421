/-! Digits behind the point, and the period told by dividing. -/
theorem mul_mod_step (x B d i : Nat) : x * B ^ i % d * B % d = x * B ^ (i + 1) % d := by
  rw [Nat.pow_succ, ← Nat.mul_assoc, Nat.mul_mod, Nat.mod_mod, ← Nat.mul_mod]
theorem small_mul {a B d : Nat} (hd : d < 2 ^ 31) (hB : B < 2 ^ 31) (h : a < d) : a * B < 2 ^ 63 := by
  have h1 : a * B ≤ 2 ^ 31 * 2 ^ 31 := Nat.mul_le_mul (by omega) (by omega)
  have e : (2 : Nat) ^ 31 * 2 ^ 31 < 2 ^ 63 := by decide
  omega
theorem q_rest_loop {x B d p : Nat} (hd0 : 0 < d) (hd : d < 2 ^ 31) (hB : B < 2 ^ 31) (hp : p ≤ 2001) : ∀ (t n i : Nat), i + t = p → t < n → f_X0_restAfter_b14 n (lN d) (nI B) (nI p) (lN (x * B ^ i % d)) (nI i) = some (lN (x * B ^ p % d)) := by
  intro t
  induction t with
  | zero =>
    intro n i hit hn
    obtain ⟨n, rfl⟩ : ∃ m, n = m + 1 := ⟨n - 1, by omega⟩
    have : i = p := by omega
    subst this
    show (if nI i ≤ nI i then _ else _) = _
    rw [if_pos ((nI_leI (by omega) (by omega)).mpr (Nat.le_refl _))]
  | succ t ih =>
    intro n i hit hn
    obtain ⟨n, rfl⟩ : ∃ m, n = m + 1 := ⟨n - 1, by omega⟩
    have hm : x * B ^ i % d < d := Nat.mod_lt _ hd0
    have h1 : ¬ nI p ≤ nI i := fun q => by have := (nI_leI (by omega) (by omega)).mp q; omega
    have h2 : ¬ (2000 : Int32) < nI i := fun q => by have := (nI_ltI (a := 2000) (by decide) (by omega)).mp q; omega
    have h3 : ¬ lN d = 0 := fun q => by have := (pk_lEQ (b := 0) (by omega) (by decide)).mp q; omega
    show (if nI p ≤ nI i then _ else (if (2000 : Int32) < nI i then _ else (if lN d = 0 then none else f_X0_restAfter_b14 n (lN d) (nI B) (nI p) ((lN (x * B ^ i % d) * (nI B).toInt64) - (lN (x * B ^ i % d) * (nI B).toInt64) / lN d * lN d) (nI i + 1)))) = _
    rw [if_neg h1, if_neg h2, if_neg h3, nI_l hB, lN_mul, pk_lRem (small_mul hd hB hm) hd0 (by omega), nI_1, mul_mod_step]
    exact ih n (i + 1) (by omega) (by omega)
theorem q_rest {x B d p : Nat} (hx : x < d) (hd : d < 2 ^ 31) (hB : B < 2 ^ 31) (hp : p ≤ 2001) : f_X0_restAfter (lN x) (lN d) (nI B) (nI p) = some (lN (x * B ^ p % d)) := by
  unfold f_X0_restAfter
  have h1 : ¬ lN d < 1 := fun q => by have := (pk_lLT (b := 1) (by omega) (by decide)).mp q; omega
  rw [if_neg h1]
  have h := q_rest_loop (x := x) (by omega) hd hB hp p xfuel 0 (by omega) (by unfold xfuel; omega)
  rw [Nat.pow_zero, Nat.mul_one, Nat.mod_eq_of_lt hx] at h
  exact h
theorem dig_lt {a B d : Nat} (hd : 0 < d) (h : a < d) (hB : 0 < B) : a * B / d < B := by
  rw [Nat.div_lt_iff_lt_mul hd, Nat.mul_comm B d]
  exact Nat.mul_lt_mul_of_pos_right h hB
theorem q_digit {x B d p : Nat} (hx : x < d) (hd : d < 2 ^ 31) (hB0 : 0 < B) (hB : B < 2 ^ 31) (hp : p ≤ 2001) : f_X0_digit (lN x) (lN d) (nI B) (nI p) = some (nI (x * B ^ p % d * B / d)) := by
  have hm : x * B ^ p % d < d := Nat.mod_lt _ (by omega)
  unfold f_X0_digit
  rw [q_rest hx hd hB hp, Option.bind_some, nI_l hB, lN_mul, q_quot (small_mul hd hB hm) (by omega), Option.bind_some, lN_i]
/-- what went out of d divides a power of the base -/
theorem hcop_split {B : Nat} (hB : 0 < B) : ∀ (t d : Nat), 0 < d → d < 2 ^ t → ∃ e, d = e * hcop B t d ∧ e ∣ B ^ hlen B t d := by
  intro t
  induction t with
  | zero => intro d hd ht; omega
  | succ t ih =>
    intro d hd ht
    by_cases h : Nat.gcd d B = 1
    · simp only [hcop, hlen, if_pos h]
      exact ⟨1, by omega, Nat.one_dvd _⟩
    · have h1 := hstep_lt hd hB h ht
      simp only [hcop, hlen, if_neg h]
      obtain ⟨e, he, hd2⟩ := ih _ h1.1 h1.2.1
      refine ⟨Nat.gcd d B * e, ?_, ?_⟩
      · rw [Nat.mul_assoc, ← he]
        unfold hstep
        exact (Nat.mul_div_cancel' (Nat.gcd_dvd_left d B)).symm
      · rw [Nat.pow_succ, Nat.mul_comm]
        exact Nat.mul_dvd_mul hd2 (Nat.gcd_dvd_right d B)
/-- the first rest behind the head: nothing, or a part of d in lowest terms -/
theorem first_rest {B d t x : Nat} (hB : 0 < B) (hd : 0 < d) (ht : d < 2 ^ t) (hx : Nat.gcd x d = 1) : ∃ e y, d = e * hcop B t d ∧ 0 < e ∧ x * B ^ hlen B t d % d = e * y ∧ y < hcop B t d ∧ Nat.gcd y (hcop B t d) = 1 := by
  obtain ⟨e, he, hdv⟩ := hcop_split hB t d hd ht
  obtain ⟨g1, g2, g3⟩ := hcop_ok hB t d hd ht
  generalize hcop B t d = r at *
  have he0 : 0 < e := by
    rcases Nat.eq_zero_or_pos e with q | q
    · rw [q, Nat.zero_mul] at he; omega
    · exact q
  have hed : e ∣ d := ⟨r, he⟩
  have hrd : r ∣ d := ⟨e, by rw [Nat.mul_comm]; exact he⟩
  obtain ⟨y, hy⟩ := (Nat.dvd_mod_iff hed).mpr (Nat.dvd_trans hdv (Nat.dvd_mul_left (B ^ hlen B t d) x))
  refine ⟨e, y, he, he0, hy, ?_, ?_⟩
  · have h1 : x * B ^ hlen B t d % d < d := Nat.mod_lt _ hd
    rw [hy, he] at h1
    exact Nat.lt_of_mul_lt_mul_left h1
  · have hxr : Nat.gcd x r = 1 := Nat.Coprime.coprime_dvd_right hrd hx
    have h2 : Nat.gcd (x * B ^ hlen B t d) r = 1 := Nat.Coprime.mul_left hxr (cop_pow (by first | exact g1 | (rw [Nat.gcd_comm]; exact g1)) _)
    have h3 : Nat.gcd (x * B ^ hlen B t d % d) r = 1 := by
      rw [Nat.gcd_comm, Nat.gcd_rec, Nat.mod_mod_of_dvd _ hrd, ← Nat.gcd_rec, Nat.gcd_comm]
      exact h2
    rw [hy] at h3
    exact Nat.Coprime.coprime_mul_left h3
theorem back_iff {e y r B k : Nat} (hB : 0 < B) (he : 0 < e) (hr : 1 < r) (hy : y < r) (hg : Nat.gcd y r = 1) : e * y * B ^ k % (e * r) = e * y ↔ B ^ k % r = 1 := by
  rw [Nat.mul_assoc, Nat.mul_mod_mul_left]
  constructor
  · intro h
    have h1 : y * B ^ k % r = y := Nat.eq_of_mul_eq_mul_left he h
    exact mod_sub hr (by rw [h1, Nat.mod_eq_of_lt hy]) hg (Nat.pow_pos hB)
  · intro h
    rw [Nat.mul_mod, h, Nat.mul_one, Nat.mod_mod, Nat.mod_eq_of_lt hy]
theorem q_per_loop {B d f k : Nat} (hd0 : 0 < d) (hd : d < 2 ^ 20) (hB : B < 2 ^ 31) (hk : k ≤ d) (h1 : f * B ^ k % d = f) (h2 : ∀ j, 0 < j → j < k → f * B ^ j % d ≠ f) (hf : f < d) : ∀ (t n i : Nat), 0 < i → i + t = k → t < n → f_X0_periodByDividing_b34 n (lN d) (nI B) (lN f) (nI i) (lN (f * B ^ i % d)) = some (nI k) := by
  intro t
  induction t with
  | zero =>
    intro n i hi hit hn
    obtain ⟨n, rfl⟩ : ∃ m, n = m + 1 := ⟨n - 1, by omega⟩
    have : i = k := by omega
    subst this
    show (if lN (f * B ^ i % d) = lN f then _ else _) = _
    rw [h1, if_pos rfl]
  | succ t ih =>
    intro n i hi hit hn
    obtain ⟨n, rfl⟩ : ∃ m, n = m + 1 := ⟨n - 1, by omega⟩
    have hm : f * B ^ i % d < d := Nat.mod_lt _ hd0
    have hne : ¬ lN (f * B ^ i % d) = lN f := fun q => h2 i hi (by omega) ((pk_lEQ (by omega) (by omega)).mp q)
    have hlt : (nI i).toInt64 < lN d := by rw [nI_l (by omega)]; exact (pk_lLT (by omega) (by omega)).mpr (by omega)
    show (if lN (f * B ^ i % d) = lN f then _ else (if (nI i).toInt64 < lN d then (f_X0_restAfter (lN (f * B ^ i % d)) (lN d) (nI B) 1).bind _ else _)) = _
    rw [if_neg hne, if_pos hlt]
    have e := q_rest (p := 1) hm (by omega) hB (by decide)
    rw [show (1 : Int32) = nI 1 from rfl, e, Option.bind_some, Nat.pow_one, mul_mod_step]
    rw [show nI i + nI 1 = nI (i + 1) from nI_add i 1]
    exact ih n (i + 1) (by omega) (by omega) (by omega)
/-- the class's period, told by dividing, for a rest in lowest terms -/
theorem q_period {B d t x : Nat} (hB0 : 1 < B) (hB : B < 2 ^ 11) (hx : x < d) (hd2 : d < 2 ^ 20) (ht : d < 2 ^ t) (ht31 : t ≤ 31) (hg : Nat.gcd x d = 1) : ∃ k, f_X0_periodByDividing (lN x) (lN d) (nI B) (nI (hlen B t d)) = some (nI k) ∧ ((hcop B t d = 1 ∧ k = 0) ∨ (1 < hcop B t d ∧ isOrd B (hcop B t d) k)) := by
  have hd : 0 < d := by omega
  have hh := hlen_le (B := B) t d
  obtain ⟨e, y, he, he0, hf, hy, hyr⟩ := first_rest (B := B) (by omega) hd ht hg
  obtain ⟨g1, g2, g3⟩ := hcop_ok (B := B) (by omega) t d hd ht
  unfold f_X0_periodByDividing
  rw [q_rest hx (by omega) (by omega) (by omega), Option.bind_some, hf]
  generalize hcop B t d = r at *
  have hfd : e * y < d := by rw [← hf]; exact Nat.mod_lt _ hd
  by_cases h1 : r = 1
  · have hy0 : y = 0 := by omega
    refine ⟨0, ?_, Or.inl ⟨h1, rfl⟩⟩
    rw [hy0, Nat.mul_zero, if_pos (by decide)]; rfl
  · obtain ⟨k, hk, hkr⟩ := ord_least (B := B) (r := r) (by omega) (by omega) (by first | exact g1 | (rw [Nat.gcd_comm]; exact g1))
    refine ⟨k, ?_, Or.inr ⟨by omega, hk⟩⟩
    have hy0 : y ≠ 0 := fun q => by rw [q, Nat.gcd_zero_left] at hyr; exact h1 hyr
    have hf0 : ¬ lN (e * y) = 0 := fun q => by
      have h9 := (pk_lEQ (b := 0) (by omega) (by decide)).mp q
      rcases Nat.mul_eq_zero.mp h9 with z | z <;> omega
    rw [if_neg hf0]
    have e1 := q_rest (p := 1) hfd (by omega) (show B < 2 ^ 31 by omega) (by decide)
    rw [show (1 : Int32) = nI 1 from rfl, e1, Option.bind_some]
    refine q_per_loop hd hd2 (by omega) (by omega) ?_ (fun j hj hjk => ?_) hfd (k - 1) xfuel 1 (by omega) (by have := hk.1; omega) (by unfold xfuel; omega)
    · have h9 := (back_iff (k := k) (by omega) he0 (by omega) hy hyr).mpr hk.2.1
      rw [← he] at h9; exact h9
    · intro q
      rw [he] at q
      exact hk.2.2 j hj hjk ((back_iff (by omega) he0 (by omega) hy hyr).mp q)
