/-! Orders: how often a base must be multiplied with itself to leave 1. -/
theorem php : ∀ (n : Nat) (f : Nat → Nat), (∀ i, i ≤ n → f i < n) → ∃ i j, i < j ∧ j ≤ n ∧ f i = f j := by
  intro n
  induction n with
  | zero => intro f h; exact absurd (h 0 (Nat.le_refl 0)) (Nat.not_lt_zero _)
  | succ n ih =>
    intro f h
    by_cases hx : ∃ i, i ≤ n ∧ f i = f (n + 1)
    · obtain ⟨i, h1, h2⟩ := hx
      exact ⟨i, n + 1, by omega, Nat.le_refl _, h2⟩
    · -- the value f (n + 1) is free among the others: close the gap
      obtain ⟨i, j, h1, h2, h3⟩ := ih (fun i => if f i < f (n + 1) then f i else f i - 1) (by
        intro i hi
        have a := h i (by omega)
        have b := h (n + 1) (Nat.le_refl _)
        have c : f i ≠ f (n + 1) := fun q => hx ⟨i, hi, q⟩
        split <;> omega)
      refine ⟨i, j, h1, by omega, ?_⟩
      have c1 : f i ≠ f (n + 1) := fun q => hx ⟨i, by omega, q⟩
      have c2 : f j ≠ f (n + 1) := fun q => hx ⟨j, by omega, q⟩
      split at h3 <;> split at h3 <;> omega
def isOrd (B r k : Nat) : Prop := 0 < k ∧ B ^ k % r = 1 ∧ ∀ j, 0 < j → j < k → B ^ j % r ≠ 1
theorem isOrd_one {B r k k' : Nat} (h : isOrd B r k) (h' : isOrd B r k') : k = k' := by
  rcases Nat.lt_trichotomy k k' with q | q | q
  · exact absurd h.2.1 (h'.2.2 k h.1 q)
  · exact q
  · exact absurd h'.2.1 (h.2.2 k' h'.1 q)
theorem cop_pow {B r : Nat} (h : Nat.gcd B r = 1) : ∀ i, Nat.gcd (B ^ i) r = 1 := by
  intro i
  induction i with
  | zero => rw [Nat.pow_zero]; exact Nat.gcd_one_left r
  | succ i ih => rw [Nat.pow_succ]; exact Nat.Coprime.mul_left ih h
/-- r goes into x * y, and has nothing in common with x: it goes into y -/
theorem cop_dvd {r x y : Nat} (h : Nat.gcd x r = 1) (hd : r ∣ x * y) : r ∣ y :=
  Nat.Coprime.dvd_of_dvd_mul_left (show Nat.gcd r x = 1 by rw [Nat.gcd_comm]; exact h) hd
theorem mod_sub {r x y : Nat} (hr : 1 < r) (h : x * y % r = x % r) (hx : Nat.gcd x r = 1) (hy : 0 < y) : y % r = 1 := by
  have h1 : r ∣ x * y - x := Nat.dvd_of_mod_eq_zero (Nat.sub_mod_eq_zero_of_mod_eq h)
  have h2 : x * y - x = x * (y - 1) := by rw [Nat.mul_sub_one]
  rw [h2] at h1
  obtain ⟨c, hc⟩ := cop_dvd hx h1
  have h3 : y = 1 + r * c := by omega
  rw [h3, Nat.add_mul_mod_self_left, Nat.mod_eq_of_lt hr]
theorem ord_ex {B r : Nat} (hB : 0 < B) (hr : 1 < r) (h : Nat.gcd B r = 1) : ∃ k, 0 < k ∧ k ≤ r - 1 ∧ B ^ k % r = 1 := by
  have h0 : ∀ i, 0 < B ^ i % r := by
    intro i
    rcases Nat.eq_zero_or_pos (B ^ i % r) with q | q
    · have h1 : r ∣ B ^ i := Nat.dvd_of_mod_eq_zero q
      have h2 : r ∣ Nat.gcd (B ^ i) r := Nat.dvd_gcd h1 (Nat.dvd_refl r)
      rw [cop_pow h i] at h2
      have := Nat.le_of_dvd (by decide) h2
      omega
    · exact q
  obtain ⟨i, j, h1, h2, h3⟩ := php (r - 1) (fun i => B ^ i % r - 1) (by
    intro i _
    have a := h0 i
    have b := Nat.mod_lt (B ^ i) (show 0 < r by omega)
    omega)
  refine ⟨j - i, by omega, by omega, ?_⟩
  have h4 : B ^ i * B ^ (j - i) % r = B ^ i % r := by
    rw [← Nat.pow_add, show i + (j - i) = j by omega]
    have a := h0 i
    have b := h0 j
    omega
  exact mod_sub hr h4 (cop_pow h i) (Nat.pow_pos hB)
theorem ord_least {B r : Nat} (hB : 0 < B) (hr : 1 < r) (h : Nat.gcd B r = 1) : ∃ k, isOrd B r k ∧ k ≤ r - 1 := by
  obtain ⟨k0, a, b, c⟩ := ord_ex hB hr h
  obtain ⟨k, ⟨h1, h2⟩, h3⟩ := pk_least (fun k => 0 < k ∧ B ^ k % r = 1) ⟨k0, a, c⟩
  refine ⟨k, ⟨h1, h2, fun j hj hk q => h3 j hk ⟨hj, q⟩⟩, ?_⟩
  rcases Nat.lt_or_ge k0 k with q | q
  · exact absurd ⟨a, c⟩ (h3 k0 q)
  · omega
theorem pow_mod1 {B r k : Nat} (hr : 1 < r) (h : B ^ k % r = 1) : ∀ q, B ^ (k * q) % r = 1 := by
  intro q
  induction q with
  | zero => rw [Nat.mul_zero, Nat.pow_zero, Nat.mod_eq_of_lt hr]
  | succ q ih => rw [Nat.mul_succ, Nat.pow_add, Nat.mul_mod, ih, h, Nat.mul_one, Nat.mod_eq_of_lt hr]
theorem ord_dvd {B r k : Nat} (hr : 1 < r) (h : isOrd B r k) (n : Nat) : B ^ n % r = 1 ↔ k ∣ n := by
  constructor
  · intro hn
    have h1 : n = k * (n / k) + n % k := (Nat.div_add_mod n k).symm
    rcases Nat.eq_zero_or_pos (n % k) with q | q
    · exact Nat.dvd_of_mod_eq_zero q
    · exfalso
      refine h.2.2 (n % k) q (Nat.mod_lt _ h.1) ?_
      have h2 : B ^ n % r = B ^ (n % k) % r := by
        rw (config := { occs := .pos [1] }) [h1]
        rw [Nat.pow_add, Nat.mul_mod, pow_mod1 hr h.2.1, Nat.one_mul, Nat.mod_mod]
      rw [← h2]; exact hn
  · intro ⟨c, hc⟩
    rw [hc]; exact pow_mod1 hr h.2.1 c
theorem ord_of {B r k : Nat} (hk : 0 < k) (h : ∀ n, B ^ n % r = 1 ↔ k ∣ n) : isOrd B r k := by
  refine ⟨hk, (h k).mpr (Nat.dvd_refl k), fun j hj hjk q => ?_⟩
  have := Nat.le_of_dvd hj ((h j).mp q)
  omega
theorem mod_prod {a b x : Nat} (ha : 1 < a) (hb : 1 < b) (h : Nat.gcd a b = 1) (hx : 0 < x) : x % (a * b) = 1 ↔ x % a = 1 ∧ x % b = 1 := by
  have hab : 1 < a * b := Nat.lt_of_lt_of_le ha (Nat.le_mul_of_pos_right a (by omega))
  have key : ∀ r, 1 < r → (x % r = 1 ↔ r ∣ x - 1) := by
    intro r hr
    constructor
    · intro q
      refine ⟨x / r, ?_⟩
      have := Nat.div_add_mod x r
      omega
    · intro ⟨c, hc⟩
      have : x = 1 + r * c := by omega
      rw [this, Nat.add_mul_mod_self_left, Nat.mod_eq_of_lt hr]
  rw [key _ hab, key a ha, key b hb]
  constructor
  · intro q
    exact ⟨Nat.dvd_trans (Nat.dvd_mul_right a b) q, Nat.dvd_trans (Nat.dvd_mul_left b a) q⟩
  · intro ⟨p, q⟩
    exact Nat.Coprime.mul_dvd_of_dvd_of_dvd h p q
theorem ord_prod {B a b k j : Nat} (hB : 0 < B) (ha : 1 < a) (hb : 1 < b) (h : Nat.gcd a b = 1) (hk : isOrd B a k) (hj : isOrd B b j) : isOrd B (a * b) (Nat.lcm k j) := by
  refine ord_of (Nat.lcm_pos hk.1 hj.1) (fun n => ?_)
  rw [mod_prod ha hb h (Nat.pow_pos hB), ord_dvd ha hk, ord_dvd hb hj, Nat.lcm_dvd_iff]
