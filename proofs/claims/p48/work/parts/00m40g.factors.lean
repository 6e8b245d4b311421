/-! The order told by the powers of primes. -/
def prm (f : Nat) : Prop := 2 ≤ f ∧ ∀ j, 2 ≤ j → j < f → ¬ j ∣ f
theorem prm_cop {f u : Nat} (hf : prm f) (h : ¬ f ∣ u) : Nat.gcd f u = 1 := by
  have h1 : Nat.gcd f u ∣ f := Nat.gcd_dvd_left f u
  have h2 : Nat.gcd f u ≤ f := Nat.gcd_le_left u (by have := hf.1; omega)
  have h3 : 0 < Nat.gcd f u := Nat.gcd_pos_of_pos_left u (by have := hf.1; omega)
  rcases Nat.lt_or_ge (Nat.gcd f u) 2 with q | q
  · omega
  · rcases Nat.lt_or_ge (Nat.gcd f u) f with z | z
    · exact absurd h1 (hf.2 _ q z)
    · have h4 : Nat.gcd f u = f := by omega
      exact absurd (h4 ▸ Nat.gcd_dvd_right f u) h
theorem strip {f : Nat} (hf : 2 ≤ f) : ∀ (d : Nat), 0 < d → ∃ a u, d = f ^ a * u ∧ ¬ f ∣ u := by
  intro d
  induction d using Nat.strongRecOn with
  | ind d ih =>
    intro hd
    by_cases h : f ∣ d
    · obtain ⟨c, hc⟩ := h
      have hc0 : 0 < c := by
        rcases Nat.eq_zero_or_pos c with q | q
        · rw [q, Nat.mul_zero] at hc; omega
        · exact q
      have hlt : c < d := by
        have := Nat.mul_le_mul_right c hf
        omega
      obtain ⟨a, u, h1, h2⟩ := ih c hlt hc0
      exact ⟨a + 1, u, by rw [hc, h1, Nat.pow_succ, Nat.mul_comm (f ^ a) f, Nat.mul_assoc], h2⟩
    · exact ⟨0, d, by rw [Nat.pow_zero, Nat.one_mul], h⟩
theorem least_prm {R : Nat} (h : 2 ≤ R) : ∃ q, prm q ∧ q ∣ R := by
  obtain ⟨q, ⟨h1, h2⟩, h3⟩ := pk_least (fun q => 2 ≤ q ∧ q ∣ R) ⟨R, h, Nat.dvd_refl R⟩
  exact ⟨q, ⟨h1, fun j hj hq hd => h3 j hq ⟨hj, Nat.dvd_trans hd h2⟩⟩, h2⟩
/-- no power of a prime in c is above 999 -/
def small9 (c : Nat) : Prop := ∀ f a, prm f → f ^ a ∣ c → f ^ a ≤ 999
theorem small9_of {c c' : Nat} (h : small9 c) (hd : c' ∣ c) : small9 c' := fun f a hf hx => h f a hf (Nat.dvd_trans hx hd)
theorem small9_lcm {d e : Nat} (hd : 0 < d) (hd9 : d ≤ 999) (he : 0 < e) (he9 : e ≤ 999) : small9 (Nat.lcm d e) := by
  intro f a hf h
  rcases Nat.lt_or_ge 999 (f ^ a) with q | q
  · exfalso
    have n1 : ¬ f ^ a ∣ d := fun z => by have := Nat.le_of_dvd hd z; omega
    have n2 : ¬ f ^ a ∣ e := fun z => by have := Nat.le_of_dvd he z; omega
    have ha : 0 < a := by
      rcases Nat.eq_zero_or_pos a with z | z
      · rw [z, Nat.pow_zero] at q; omega
      · exact z
    obtain ⟨x, u, hu, hu2⟩ := strip hf.1 d hd
    obtain ⟨y, v, hv, hv2⟩ := strip hf.1 e he
    have hx : x ≤ a - 1 := by
      rcases Nat.lt_or_ge (a - 1) x with z | z
      · exact absurd (hu ▸ Nat.dvd_trans (Nat.pow_dvd_pow f (show a ≤ x by omega)) (Nat.dvd_mul_right _ u)) n1
      · exact z
    have hy : y ≤ a - 1 := by
      rcases Nat.lt_or_ge (a - 1) y with z | z
      · exact absurd (hv ▸ Nat.dvd_trans (Nat.pow_dvd_pow f (show a ≤ y by omega)) (Nat.dvd_mul_right _ v)) n2
      · exact z
    have h1 : Nat.lcm d e ∣ f ^ (a - 1) * (u * v) := by
      refine Nat.lcm_dvd ?_ ?_
      · rw [hu]
        exact Nat.mul_dvd_mul (Nat.pow_dvd_pow f hx) (Nat.dvd_mul_right u v)
      · rw [hv]
        exact Nat.mul_dvd_mul (Nat.pow_dvd_pow f hy) (Nat.dvd_mul_left v u)
    have h2 : f ^ (a - 1) * f ∣ f ^ (a - 1) * (u * v) := by
      have e9 : f ^ (a - 1) * f = f ^ a := by rw [← Nat.pow_succ, Nat.succ_eq_add_one, show a - 1 + 1 = a by omega]
      rw [e9]; exact Nat.dvd_trans h h1
    have hp : 0 < f ^ (a - 1) := Nat.pow_pos (by have := hf.1; omega)
    have h3 : f ∣ u * v := Nat.dvd_of_mul_dvd_mul_left hp h2
    have h4 : f ∣ v := Nat.Coprime.dvd_of_dvd_mul_left (prm_cop hf hu2) h3
    exact hv2 h4
  · exact q
theorem ord_le {B r k : Nat} (hB : 0 < B) (hr : 1 < r) (hg : Nat.gcd B r = 1) (h : isOrd B r k) : k ≤ r - 1 := by
  obtain ⟨k', h1, h2⟩ := ord_least hB hr hg
  rw [isOrd_one h h1]; exact h2
/-- the inner loop takes out a factor as often as it goes -/
theorem q_strip {k18 : Int32 → Int64 → Int64 → Int64 → Option Int32} {B : Int32} {P : Int64} {f u : Nat} (hf : 2 ≤ f) (hf2 : f < 2 ^ 11) (hu : ¬ f ∣ u) : ∀ (a n R pw tm : Nat), R = f ^ a * u → 0 < R → R < 2 ^ 20 → pw * f ^ a < 2 ^ 40 → tm + a ≤ 31 → a < n → f_X0_periodByFactors_b49 k18 n B P (lN R) (lN f) (lN (R / f)) (lN pw) (nI tm) = f_X0_periodByFactors_b93 k18 B P (lN u) (lN f) (lN (pw * f ^ a)) := by
  intro a
  induction a with
  | zero =>
    intro n R pw tm hR hR0 hR2 hpw htm hn
    obtain ⟨n, rfl⟩ : ∃ m, n = m + 1 := ⟨n - 1, by omega⟩
    rw [Nat.pow_zero, Nat.one_mul] at hR
    subst hR
    have h0 : R / f * f ≤ R := Nat.div_mul_le_self R f
    have h1 : ¬ lN (R / f) * lN f = lN R := fun q => by
      rw [lN_mul] at q
      have h9 := (pk_lEQ (by omega) (by omega)).mp q
      exact hu ⟨R / f, by rw [Nat.mul_comm]; exact h9.symm⟩
    show (if lN (R / f) * lN f = lN R then _ else _) = _
    rw [if_neg h1, Nat.pow_zero, Nat.mul_one]
  | succ a ih =>
    intro n R pw tm hR hR0 hR2 hpw htm hn
    obtain ⟨n, rfl⟩ : ∃ m, n = m + 1 := ⟨n - 1, by omega⟩
    have hq : R / f = f ^ a * u := by
      rw [hR, Nat.pow_succ, Nat.mul_comm (f ^ a) f, Nat.mul_assoc, Nat.mul_div_cancel_left _ (by omega)]
    have hm : R / f * f = R := by rw [hq, hR, Nat.pow_succ]; rw [Nat.mul_right_comm]
    have h1 : lN (R / f) * lN f = lN R := by rw [lN_mul, hm]
    have h2 : ¬ (32 : Int32) ≤ nI tm := fun q => by have := (nI_leI (a := 32) (by decide) (by omega)).mp q; omega
    have hlt : R / f < R := Nat.div_lt_self hR0 (by omega)
    have hpos : 0 < R / f := by
      rcases Nat.eq_zero_or_pos (R / f) with z | z
      · rw [z, Nat.zero_mul] at hm; omega
      · exact z
    show (if lN (R / f) * lN f = lN R then (if (32 : Int32) ≤ nI tm then _ else (f_X5_quotient (lN (R / f)) (lN f)).bind fun v => f_X0_periodByFactors_b49 k18 n B P (lN (R / f)) (lN f) v (lN pw * lN f) (nI tm + 1)) else _) = _
    rw [if_pos h1, if_neg h2, q_quot (by omega) (by omega), Option.bind_some, lN_mul, nI_1]
    have e9 : pw * f ^ (a + 1) = pw * f * f ^ a := by rw [Nat.pow_succ, Nat.mul_comm (f ^ a) f, Nat.mul_assoc]
    rw [ih n (R / f) (pw * f) (tm + 1) hq hpos (by omega) (by rw [← e9]; exact hpw) (by omega) (by omega), e9]
/-- the outer loop: what is done has its order, what is left has no small factor -/
theorem q_fac_loop {B c : Nat} (hB0 : 1 < B) (hB : B < 2 ^ 11) (hc : 1 < c) (hc2 : c < 2 ^ 20) (hg : Nat.gcd B c = 1) (hs : small9 c) : ∀ (t n F P D R : Nat), F + t = 1000 → t < n → 2 ≤ F → c = D * R → Nat.gcd D R = 1 → (∀ j, 2 ≤ j → j < F → ¬ j ∣ R) → ((D = 1 ∧ P = 1) ∨ (1 < D ∧ isOrd B D P)) → ∃ k, isOrd B c k ∧ f_X0_periodByFactors_b18 n (nI B) (lN P) (lN R) (lN F) = some (nI k) := by
  intro t
  induction t with
  | zero =>
    intro n F P D R hF hn hF2 hcD hDR hj hP
    obtain ⟨n, rfl⟩ : ∃ m, n = m + 1 := ⟨n - 1, by omega⟩
    have hR1 : R = 1 := by
      rcases Nat.lt_or_ge R 2 with q | q
      · rcases Nat.eq_zero_or_pos R with z | z
        · rw [z, Nat.mul_zero] at hcD; omega
        · omega
      · exfalso
        obtain ⟨p, hp, hpd⟩ := least_prm q
        have h1 := hs p 1 hp (by rw [Nat.pow_one, hcD]; exact Nat.dvd_trans hpd (Nat.dvd_mul_left R D))
        rw [Nat.pow_one] at h1
        exact hj p hp.1 (by omega) hpd
    subst hR1
    have hD : D = c := by omega
    subst hD
    rcases hP with ⟨h1, -⟩ | ⟨-, h1⟩
    · omega
    · refine ⟨P, h1, ?_⟩
      have h2 : (999 : Int64) < lN F := (pk_lLT (a := 999) (by decide) (by omega)).mpr (by omega)
      show (if (999 : Int64) < lN F then _ else _) = _
      rw [if_pos h2, lN_i]
  | succ t ih =>
    intro n F P D R hF hn hF2 hcD hDR hj hP
    obtain ⟨n, rfl⟩ : ∃ m, n = m + 1 := ⟨n - 1, by omega⟩
    have hR0 : 0 < R := by
      rcases Nat.eq_zero_or_pos R with z | z
      · rw [z, Nat.mul_zero] at hcD; omega
      · exact z
    have hD0 : 0 < D := by
      rcases Nat.eq_zero_or_pos D with z | z
      · rw [z, Nat.zero_mul] at hcD; omega
      · exact z
    have hRc : R ≤ c := by rw [hcD]; exact Nat.le_mul_of_pos_left R hD0
    have hDc : D ≤ c := by rw [hcD]; exact Nat.le_mul_of_pos_right D hR0
    have h2 : ¬ (999 : Int64) < lN F := fun q => by have := (pk_lLT (a := 999) (by decide) (by omega)).mp q; omega
    have hgD : Nat.gcd B D = 1 := Nat.Coprime.coprime_mul_right_right (show Nat.Coprime B (D * R) by rw [← hcD]; exact hg)
    have hPb : P < 2 ^ 20 ∧ 0 < P := by
      rcases hP with ⟨-, h1⟩ | ⟨h0, h1⟩
      · omega
      · have := ord_le (by omega) h0 hgD h1
        have := h1.1
        omega
    by_cases hR1 : R = 1
    · subst hR1
      have hD : D = c := by omega
      rcases hP with ⟨h1, -⟩ | ⟨-, h1⟩
      · omega
      · refine ⟨P, hD ▸ h1, ?_⟩
        show (if (999 : Int64) < lN F then _ else (if (1 : Int64) < lN 1 then _ else _)) = _
        rw [if_neg h2, if_neg (by decide), lN_i]
    · have h3 : (1 : Int64) < lN R := (pk_lLT (a := 1) (by decide) (by omega)).mpr (by omega)
      obtain ⟨a, u, hu, hu2⟩ := strip hF2 R hR0
      have hu0 : 0 < u := by
        rcases Nat.eq_zero_or_pos u with z | z
        · rw [z, Nat.mul_zero] at hu; omega
        · exact z
      have hpa : 2 ^ a ≤ F ^ a := Nat.pow_le_pow_left hF2 a
      have hFa : F ^ a ≤ R := by rw [hu]; exact Nat.le_mul_of_pos_right _ hu0
      have ha : a < 20 := by
        rcases Nat.lt_or_ge a 20 with z | z
        · exact z
        · have := Nat.pow_le_pow_right (show 0 < 2 by decide) z
          omega
      have e1 : f_X0_periodByFactors_b18 (n + 1) (nI B) (lN P) (lN R) (lN F) = f_X0_periodByFactors_b93 (f_X0_periodByFactors_b18 n) (nI B) (lN P) (lN u) (lN F) (lN (1 * F ^ a)) := by
        show (if (999 : Int64) < lN F then _ else (if (1 : Int64) < lN R then (f_X5_quotient (lN R) (lN F)).bind fun v => f_X0_periodByFactors_b49 (f_X0_periodByFactors_b18 n) xfuel (nI B) (lN P) (lN R) (lN F) v 1 0 else _)) = _
        rw [if_neg h2, if_pos h3, q_quot (by omega) (by omega), Option.bind_some]
        exact q_strip hF2 (by omega) hu2 a xfuel R 1 0 hu hR0 (by omega) (by rw [Nat.one_mul]; omega) (by omega) (by unfold xfuel; omega)
      rw [e1, Nat.one_mul]
      have hjn : ∀ j, 2 ≤ j → j < F + 1 → ¬ j ∣ u := by
        intro j hj2 hjF hd
        rcases Nat.lt_or_ge j F with z | z
        · exact hj j hj2 z (Nat.dvd_trans hd ⟨F ^ a, by rw [Nat.mul_comm]; exact hu⟩)
        · have : j = F := by omega
          subst this
          exact hu2 hd
      rcases Nat.eq_zero_or_pos a with z | z
      · subst z
        rw [Nat.pow_zero, Nat.one_mul] at hu
        subst hu
        obtain ⟨k, hk, hk2⟩ := ih n (F + 1) P D R (by omega) (by omega) (by omega) hcD hDR hjn hP
        refine ⟨k, hk, ?_⟩
        rw [Nat.pow_zero]
        unfold f_X0_periodByFactors_b93
        rw [if_neg (by decide)]
        unfold f_X0_periodByFactors_b126
        rw [lN_1]
        exact hk2
      · have hFR : F ∣ R := by rw [hu]; exact (Nat.dvd_trans (by have := Nat.pow_dvd_pow F (show 1 ≤ _ from z); rw [Nat.pow_one] at this; exact this) (Nat.dvd_mul_right _ u))
        have hFp : prm F := ⟨hF2, fun j hj2 hjF hd => hj j hj2 hjF (Nat.dvd_trans hd hFR)⟩
        have hFac : F ^ a ∣ c := by rw [hcD, hu]; exact Nat.dvd_trans (Nat.dvd_mul_right _ u) (Nat.dvd_mul_left _ D)
        have h999 := hs F a hFp hFac
        have h1F : 1 < F ^ a := by
          have := Nat.pow_le_pow_right (show 0 < F by omega) z
          rw [Nat.pow_one] at this
          omega
        have hgF : Nat.gcd B (F ^ a) = 1 := Nat.Coprime.coprime_dvd_right hFac hg
        obtain ⟨j, hjo, hjl⟩ := ord_least (B := B) (r := F ^ a) (by omega) h1F hgF
        have e2 : f_X0_periodByFactors_b93 (f_X0_periodByFactors_b18 n) (nI B) (lN P) (lN u) (lN F) (lN (F ^ a)) = f_X0_periodByFactors_b18 n (nI B) (lN (Nat.lcm P j)) (lN u) (lN (F + 1)) := by
          unfold f_X0_periodByFactors_b93
          have hjP : 0 < j := hjo.1
          have hgpos : 0 < Nat.gcd P j := Nat.gcd_pos_of_pos_left j hPb.2
          rw [if_pos (show (1 : Int64) < lN (F ^ _) from (pk_lLT (a := 1) (by decide) (by omega)).mpr h1F)]
          rw [show (999 : Int32) = nI 999 from rfl, q_ord (by omega) h1F (by omega) hjo (by omega) (by decide), Option.bind_some, nI_l (by omega)]
          rw [q_gcd (by omega) (by omega), Option.bind_some]
          rw [q_quot (by omega) (Nat.lt_of_le_of_lt (Nat.gcd_le_left j hPb.2) (by omega)), Option.bind_some]
          unfold f_X0_periodByFactors_b126
          rw [lN_mul, lN_1]
          have e3 : P / Nat.gcd P j * j = Nat.lcm P j := by
            rw [Nat.lcm_eq_mul_div, Nat.mul_comm P j, Nat.mul_div_assoc _ (Nat.gcd_dvd_left P j), Nat.mul_comm]
          rw [e3]
        rw [e2]
        have hcD2 : c = D * F ^ a * u := by rw [hcD, hu, Nat.mul_assoc]
        have hDF : Nat.gcd D (F ^ a) = 1 := Nat.Coprime.coprime_dvd_right ⟨u, hu⟩ hDR
        have hDu : Nat.gcd D u = 1 := Nat.Coprime.coprime_dvd_right ⟨F ^ a, by rw [Nat.mul_comm]; exact hu⟩ hDR
        have hFu : Nat.gcd (F ^ a) u = 1 := Nat.Coprime.pow_left a (prm_cop hFp hu2)
        refine ih n (F + 1) (Nat.lcm P j) (D * F ^ a) u (by omega) (by omega) (by omega) hcD2 (Nat.Coprime.mul_left hDu hFu) hjn (Or.inr ⟨?_, ?_⟩)
        · exact Nat.lt_of_lt_of_le h1F (Nat.le_mul_of_pos_left _ hD0)
        · rcases hP with ⟨h5, h6⟩ | ⟨h5, h6⟩
          · subst h5; subst h6
            rw [Nat.one_mul, Nat.lcm_one_left]; exact hjo
          · exact ord_prod (by omega) h5 h1F hDF h6 hjo
theorem q_factors {B c : Nat} (hB0 : 1 < B) (hB : B < 2 ^ 11) (hc2 : c < 2 ^ 20) (hc0 : 0 < c) (hg : Nat.gcd B c = 1) (hs : small9 c) : ∃ k, f_X0_periodByFactors (lN c) (nI B) = some (nI k) ∧ ((c = 1 ∧ k = 0) ∨ (1 < c ∧ isOrd B c k)) := by
  by_cases h : c = 1
  · subst h
    refine ⟨0, ?_, Or.inl ⟨rfl, rfl⟩⟩
    unfold f_X0_periodByFactors
    rw [if_neg (by decide)]; rfl
  · obtain ⟨k, h1, h2⟩ := q_fac_loop hB0 hB (by omega) hc2 hg hs 998 xfuel 2 1 1 c (by decide) (by decide) (by decide) (by omega) (Nat.gcd_one_left c) (fun j a b => by omega) (Or.inl ⟨rfl, rfl⟩)
    refine ⟨k, ?_, Or.inr ⟨by omega, h1⟩⟩
    unfold f_X0_periodByFactors
    rw [if_pos (show (1 : Int64) < lN c from (pk_lLT (a := 1) (by decide) (by omega)).mpr (by omega))]
    exact h2
