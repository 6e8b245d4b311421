/-! Fractions in lowest terms, on both sides; those below 0 too. -/
def rdn (n d : Nat) : Nat := n / Nat.gcd n d
def rdd (n d : Nat) : Nat := d / Nat.gcd n d
theorem red_ok {n d : Nat} (hd : 0 < d) : 0 < rdd n d ∧ rdd n d ≤ d ∧ rdn n d ≤ n ∧ Nat.gcd (rdn n d) (rdd n d) = 1 := by
  have hg : 0 < Nat.gcd n d := Nat.gcd_pos_of_pos_right n hd
  refine ⟨Nat.div_pos (Nat.le_of_dvd hd (Nat.gcd_dvd_right n d)) hg, Nat.div_le_self _ _, Nat.div_le_self _ _, Nat.gcd_div_gcd_div_gcd_of_pos_right hd⟩
theorem q_put {n d : Nat} (r : RC) (hn : n < 2 ^ 63) (hd0 : 0 < d) (hd : d < 2 ^ 63) : f_X6_put r (lN n) (lN d) = some (lN (rdn n d), lN (rdd n d)) := by
  have hg : 0 < Nat.gcd n d := Nat.gcd_pos_of_pos_right n hd0
  have hg2 : Nat.gcd n d ≤ d := Nat.le_of_dvd hd0 (Nat.gcd_dvd_right n d)
  have e : (if 0 < lN n then lN n else -lN n) = lN n := by
    by_cases h : n = 0
    · subst h; decide
    · rw [if_pos ((c_L0lt hn).mpr (by omega))]
  unfold f_X6_put
  rw [e, q_gcd hn hd, Option.bind_some, q_quot hn (by omega), Option.bind_some, q_quot hd (by omega), Option.bind_some]
  rfl
def cod (n d : Nat) : Nat := if 999999999 < rdn n d then 1 else if 999 < rdd n d then 2 else 0
theorem m_makes {n d : Nat} (top bottom : Int64) (hn : n < 2 ^ 63) (hd0 : 0 < d) (hd : d < 2 ^ 63) : f_X11_makes top bottom (lN n) (lN d) = some (nI (cod n d), lN (rdn n d), lN (rdd n d)) := by
  have hg : 0 < Nat.gcd n d := Nat.gcd_pos_of_pos_right n hd0
  have hg2 : Nat.gcd n d ≤ d := Nat.le_of_dvd hd0 (Nat.gcd_dvd_right n d)
  have h1 := Nat.div_le_self n (Nat.gcd n d)
  have h2 := Nat.div_le_self d (Nat.gcd n d)
  have hne : ¬ lN (Nat.gcd n d) = 0 := fun q => by have := (pk_lEQ (b := 0) (by omega) (by decide)).mp q; omega
  unfold f_X11_makes
  rw [m_fac hn hd, Option.bind_some, if_neg hne, if_neg hne, pk_lDiv hn hg (by omega), pk_lDiv hd hg (by omega)]
  show (if lN 999999999 < lN (rdn n d) then _ else (if lN 999 < lN (rdd n d) then _ else _)) = _
  have h3 : rdn n d < 2 ^ 63 := by unfold rdn; omega
  have h4 : rdd n d < 2 ^ 63 := by unfold rdd; omega
  unfold cod
  by_cases a : 999999999 < rdn n d
  · rw [if_pos a, if_pos ((pk_lLT (by omega) h3).mpr a)]; rfl
  · rw [if_neg a, if_neg (fun q => a ((pk_lLT (by omega) h3).mp q))]
    by_cases b : 999 < rdd n d
    · rw [if_pos b, if_pos ((pk_lLT (by omega) h4).mpr b)]; rfl
    · rw [if_neg b, if_neg (fun q => b ((pk_lLT (by omega) h4).mp q))]; rfl
theorem cod_0 {n d : Nat} (h : cod n d = 0) : rdn n d ≤ 999999999 ∧ rdd n d ≤ 999 := by
  unfold cod at h
  by_cases a : 999999999 < rdn n d
  · rw [if_pos a] at h; omega
  · rw [if_neg a] at h
    by_cases b : 999 < rdd n d
    · rw [if_pos b] at h; omega
    · omega
theorem cod_le (n d : Nat) : cod n d ≤ 2 := by unfold cod; split <;> (try split) <;> omega
theorem q_reason {n d : Nat} (hn : n < 2 ^ 63) (hd0 : 0 < d) (hd : d < 2 ^ 63) : f_X6_reasonAgainst (lN (rdn n d), lN (rdd n d)) = some (if cod n d = 0 then 0 else 2) := by
  have h1 := Nat.div_le_self n (Nat.gcd n d)
  have h2 := Nat.div_le_self d (Nat.gcd n d)
  have h3 : rdn n d < 2 ^ 63 := by unfold rdn; omega
  have h4 : rdd n d < 2 ^ 63 := by unfold rdd; omega
  show (if lN (rdn n d) < lN 0 then _ else (if lN 999999999 < lN (rdn n d) then _ else (if lN 999 < lN (rdd n d) then _ else _))) = _
  rw [if_neg (fun q => by have := (pk_lLT h3 (by decide)).mp q; omega)]
  unfold cod
  by_cases a : 999999999 < rdn n d
  · rw [if_pos a, if_pos ((pk_lLT (by omega) h3).mpr a)]; rfl
  · rw [if_neg a, if_neg (fun q => a ((pk_lLT (by omega) h3).mp q))]
    by_cases b : 999 < rdd n d
    · rw [if_pos b, if_pos ((pk_lLT (by omega) h4).mpr b)]; rfl
    · rw [if_neg b, if_neg (fun q => b ((pk_lLT (by omega) h4).mp q))]; rfl
-- below 0
theorem l_bm {z : Int} (h1 : -9223372036854775808 ≤ z) (h2 : z < 9223372036854775808) : z.bmod (2 ^ 64) = z :=
  Int.bmod_eq_of_le (by simpa using h1) (by simpa using h2)
theorem l_div {x y : Int64} (h : x.toInt.natAbs < 2 ^ 63) : (x / y).toInt = x.toInt.tdiv y.toInt := by
  rw [Int64.toInt_div]
  have a := Int.natAbs_tdiv_le_natAbs x.toInt y.toInt
  exact l_bm (by omega) (by omega)
theorem l_rem {x y : Int64} (h : x.toInt.natAbs < 2 ^ 63) : (x - x / y * y).toInt = x.toInt.tmod y.toInt := by
  have a := Int.natAbs_tdiv_le_natAbs x.toInt y.toInt
  have e := Int.tmod_add_mul_tdiv x.toInt y.toInt
  have b : (x.toInt.tmod y.toInt).natAbs ≤ x.toInt.natAbs := by rw [Int.natAbs_tmod]; exact Nat.mod_le _ _
  rw [Int64.toInt_sub, Int64.toInt_mul, l_div h, Int.sub_bmod_bmod]
  have e2 : x.toInt - x.toInt.tdiv y.toInt * y.toInt = x.toInt.tmod y.toInt := by rw [Int.mul_comm]; omega
  rw [e2]
  exact l_bm (by omega) (by omega)
theorem m_fac_any : ∀ (t n : Nat) (x y : Int64) (a b : Nat), x.toInt.natAbs = a → y.toInt.natAbs = b → a < 2 ^ 63 → b < 2 ^ 63 → b < 2 ^ t → 2 * t < n → f_X11_factor_b6 n x y = some (lN (Nat.gcd a b)) := by
  have base : ∀ (n : Nat) (x : Int64) (a : Nat), x.toInt.natAbs = a → a < 2 ^ 63 → 0 < n → f_X11_factor_b6 n x 0 = some (lN (Nat.gcd a 0)) := by
    intro n x a hx ha hn
    obtain ⟨n, rfl⟩ : ∃ m, n = m + 1 := ⟨n - 1, by omega⟩
    rw [Nat.gcd_zero_right]
    show (if (0 : Int64) = 0 then (if x < 0 then some (-x) else some x) else _) = _
    rw [if_pos rfl]
    by_cases h : x < 0
    · rw [if_pos h]
      have h2 := Int64.lt_iff_toInt_lt.mp h
      have h3 : x.toInt < 0 := h2
      congr 1
      refine Int64.toInt_inj.mp ?_
      rw [Int64.toInt_neg, pk_lT ha, l_bm (by omega) (by omega)]
      omega
    · rw [if_neg h]
      have h3 : ¬ x.toInt < 0 := fun q => h (Int64.lt_iff_toInt_lt.mpr q)
      congr 1
      refine Int64.toInt_inj.mp ?_
      rw [pk_lT ha]; omega
  intro t
  induction t with
  | zero =>
    intro n x y a b hx hy ha hb hbt hn
    have hb0 : b = 0 := by rw [Nat.pow_zero] at hbt; omega
    have hy0 : y = 0 := Int64.toInt_inj.mp (by show y.toInt = 0; omega)
    subst hb0 hy0
    exact base n x a hx ha (by omega)
  | succ t ih =>
    intro n x y a b hx hy ha hb hbt hn
    by_cases hb0 : b = 0
    · have hy0 : y = 0 := Int64.toInt_inj.mp (by show y.toInt = 0; omega)
      subst hb0 hy0
      exact base n x a hx ha (by omega)
    · obtain ⟨n, rfl⟩ : ∃ m, n = m + 2 := ⟨n - 2, by omega⟩
      have step : ∀ (n : Nat) (x y : Int64) (a b : Nat), x.toInt.natAbs = a → y.toInt.natAbs = b → a < 2 ^ 63 → b ≠ 0 → f_X11_factor_b6 (n + 1) x y = f_X11_factor_b6 n y (x - x / y * y) ∧ (x - x / y * y).toInt.natAbs = a % b := by
        intro n x y a b hx hy ha hb
        have hy0 : ¬ y = 0 := fun q => by subst q; exact hb hy.symm
        refine ⟨?_, ?_⟩
        · show (if y = 0 then _ else (if y = 0 then none else _)) = _
          rw [if_neg hy0, if_neg hy0]
        · rw [l_rem (by omega), Int.natAbs_tmod, hx, hy]
      obtain ⟨s1, s2⟩ := step (n + 1) x y a b hx hy ha hb0
      rw [s1, e_step a b]
      by_cases h1 : a % b = 0
      · have hz : x - x / y * y = 0 := Int64.toInt_inj.mp (by show _ = (0 : Int); omega)
        rw [hz, h1]
        exact base (n + 1) y b hy hb (by omega)
      · have hlt := Nat.mod_lt a (show 0 < b by omega)
        obtain ⟨s3, s4⟩ := step n y _ b (a % b) hy s2 hb h1
        rw [s3, e_step b (a % b)]
        have hr2 : b % (a % b) < a % b := Nat.mod_lt _ (by omega)
        exact ih n _ _ _ _ s2 s4 (by omega) (by omega) (e_half hbt h1 (by omega)) (by omega)
theorem m_fac_neg {x : Int64} {d : Nat} (hx : x.toInt.natAbs < 2 ^ 63) (hd : d < 2 ^ 63) : f_X11_factor x (lN d) = some (lN (Nat.gcd x.toInt.natAbs d)) :=
  m_fac_any 63 xfuel x (lN d) _ d rfl (by rw [pk_lT hd]; rfl) hx hd hd (by decide)
theorem neg_quot {x : Int64} {g : Nat} (hx : x.toInt < 0) (hx2 : x.toInt.natAbs < 2 ^ 63) (hg : 0 < g) (hgx : g ≤ x.toInt.natAbs) : x / lN g < 0 := by
  rw [Int64.lt_iff_toInt_lt, l_div hx2, pk_lT (by omega)]
  show x.toInt.tdiv (g : Int) < 0
  obtain ⟨m, hm⟩ : ∃ m : Nat, x.toInt = -(m : Int) := ⟨x.toInt.natAbs, by omega⟩
  rw [hm, Int.neg_tdiv, ← Int.ofNat_tdiv]
  have : 0 < m / g := Nat.div_pos (by omega) hg
  omega
theorem neg_put {x : Int64} {d : Nat} (r : RC) (hx : x.toInt < 0) (hx2 : x.toInt.natAbs < 2 ^ 62) (hd0 : 0 < d) (hd : d < 2 ^ 62) : ∃ r', f_X6_put r x (lN d) = some r' ∧ r'.1 < 0 := by
  have hg : 0 < Nat.gcd x.toInt.natAbs d := Nat.gcd_pos_of_pos_right _ hd0
  have hg2 : Nat.gcd x.toInt.natAbs d ≤ x.toInt.natAbs := Nat.le_of_dvd (by omega) (Nat.gcd_dvd_left _ d)
  have hnl : ¬ 0 < x := fun q => by have := Int64.lt_iff_toInt_lt.mp q; have h : (0 : Int64).toInt = 0 := rfl; omega
  have hneg : -x = lN x.toInt.natAbs := Int64.toInt_inj.mp (by rw [Int64.toInt_neg, l_bm (by omega) (by omega), pk_lT (by omega)]; omega)
  have h1 : ¬ lN (Nat.gcd x.toInt.natAbs d) < 1 := fun q => by have := (pk_lLT (b := 1) (by omega) (by decide)).mp q; omega
  have h0 : ¬ lN (Nat.gcd x.toInt.natAbs d) = 0 := fun q => by have := (pk_lEQ (b := 0) (by omega) (by decide)).mp q; omega
  refine ⟨(x / lN (Nat.gcd x.toInt.natAbs d), lN (d / Nat.gcd x.toInt.natAbs d)), ?_, neg_quot hx (by omega) hg hg2⟩
  unfold f_X6_put
  rw [if_neg hnl, hneg, q_gcd (by omega) (by omega), Option.bind_some, q_quot (by omega) (by omega)]
  unfold f_X5_quotient
  rw [if_neg h1, if_neg h0]
  rfl
theorem neg_makes {x : Int64} {d : Nat} (top bottom : Int64) (hx : x.toInt < 0) (hx2 : x.toInt.natAbs < 2 ^ 62) (hd0 : 0 < d) (hd : d < 2 ^ 62) : ∃ k t b, f_X11_makes top bottom x (lN d) = some (nI k, t, b) ∧ t < 0 ∧ k ≤ 2 := by
  have hg : 0 < Nat.gcd x.toInt.natAbs d := Nat.gcd_pos_of_pos_right _ hd0
  have hg2 : Nat.gcd x.toInt.natAbs d ≤ x.toInt.natAbs := Nat.le_of_dvd (by omega) (Nat.gcd_dvd_left _ d)
  have h0 : ¬ lN (Nat.gcd x.toInt.natAbs d) = 0 := fun q => by have := (pk_lEQ (b := 0) (by omega) (by decide)).mp q; omega
  have hn := neg_quot hx (by omega) hg hg2
  unfold f_X11_makes
  rw [m_fac_neg (by omega) (by omega), Option.bind_some, if_neg h0, if_neg h0]
  have h9 : ¬ 999999999 < x / lN (Nat.gcd x.toInt.natAbs d) := fun q => by
    have a := Int64.lt_iff_toInt_lt.mp q
    have b := Int64.lt_iff_toInt_lt.mp hn
    have h : (0 : Int64).toInt = 0 := rfl
    have h' : (999999999 : Int64).toInt = 999999999 := rfl
    omega
  rw [if_neg h9]
  by_cases c : 999 < lN d / lN (Nat.gcd x.toInt.natAbs d)
  · rw [if_pos c]; exact ⟨2, _, _, rfl, hn, by omega⟩
  · rw [if_neg c]; exact ⟨0, _, _, rfl, hn, by omega⟩
theorem sub_neg {a b : Nat} (h : a < b) (hb : b < 2 ^ 62) : (lN a - lN b).toInt < 0 ∧ (lN a - lN b).toInt.natAbs < 2 ^ 62 := by
  rw [Int64.toInt_sub, pk_lT (by omega), pk_lT (by omega), l_bm (by omega) (by omega)]
  omega
