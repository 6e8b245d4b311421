/-! The whole digits, on both sides. -/
theorem m_up {ss : Nat → Int32} {a : Nat} (h : a < 6) : f_X11_up ss (nI a) = some (ss (3 + a)) := by
  unfold f_X11_up
  rw [show (3 : Int32) + nI a = nI (3 + a) from nI_add 3 a, if_neg (nI_in (by omega) (by decide)), nI_clamp (by omega)]
theorem m_down {ss : Nat → Int32} {a : Nat} (h : a < 6) : f_X11_down ss (nI a) = some (ss (9 + a)) := by
  unfold f_X11_down
  rw [show (9 : Int32) + nI a = nI (9 + a) from nI_add 9 a, if_neg (nI_in (by omega) (by decide)), nI_clamp (by omega)]
theorem c_lt {a b : Nat} (ha : a < 2 ^ 31) (hb : b < 2 ^ 31) : nI a < nI b ↔ a < b := nI_ltI ha hb
theorem c_0lt {b : Nat} (hb : b < 2 ^ 31) : (0 : Int32) < nI b ↔ 0 < b := nI_ltI (a := 0) (by decide) hb
theorem c_ne0 {b : Nat} (hb : b < 2 ^ 31) (h : 0 < b) : ¬ nI b = 0 := nI_ne0 h hb
theorem c_L0lt {b : Nat} (hb : b < 2 ^ 63) : (0 : Int64) < lN b ↔ 0 < b := pk_lLT (a := 0) (by decide) hb
theorem m_whole {ss : Nat → Int32} {a n d : Nat} (h : a < 6) (hn : ss (3 + a) = nI n) (hd : ss (9 + a) = nI d) (hn2 : n < 2 ^ 31) (hd0 : 0 < d) (hd2 : d < 2 ^ 31) : f_X11_wholeOf ss (nI a) = some (nI (n / d)) := by
  unfold f_X11_wholeOf
  rw [m_up h, Option.bind_some, m_down h, Option.bind_some, hn, hd, if_neg (c_ne0 hd2 hd0), pk_div hn2 hd0 hd2]
/-- how often a number is divided by the base until it is 0 -/
def dct (B : Nat) : Nat → Nat → Nat
  | 0, _ => 0
  | t + 1, w => if w = 0 then 0 else dct B t (w / B) + 1
def dcn (B w : Nat) : Nat := 1 + dct B 29 (w / B)
theorem dct_0 (B t : Nat) : dct B t 0 = 0 := by cases t <;> simp [dct]
theorem dct_s {B t w : Nat} (h : 0 < w) : dct B (t + 1) w = dct B t (w / B) + 1 := if_neg (by omega)
theorem half_lt {B w t : Nat} (hB : 1 < B) (h : w < 2 ^ (t + 1)) : w / B < 2 ^ t := by
  rw [Nat.div_lt_iff_lt_mul (by omega)]
  have : 2 ^ t * 2 ≤ 2 ^ t * B := Nat.mul_le_mul_left _ hB
  rw [Nat.pow_succ] at h
  omega
theorem dct_le {B : Nat} : ∀ t w, dct B t w ≤ t := by
  intro t
  induction t with
  | zero => intro w; exact Nat.le_refl _
  | succ t ih =>
    intro w
    by_cases h : w = 0
    · rw [h, dct_0]; omega
    · rw [dct_s (by omega)]; have := ih (w / B); omega
theorem dct_high {B : Nat} (hB : 1 < B) : ∀ t w, w < 2 ^ t → w < B ^ dct B t w := by
  intro t
  induction t with
  | zero => intro w h; simp [dct]; omega
  | succ t ih =>
    intro w h
    by_cases h0 : w = 0
    · rw [h0, dct_0, Nat.pow_zero]; decide
    · rw [dct_s (by omega), Nat.pow_succ]
      exact (Nat.div_lt_iff_lt_mul (by omega)).mp (ih _ (half_lt hB h))
theorem dct_low {B : Nat} (hB : 1 < B) : ∀ t w, 0 < w → w < 2 ^ t → B ^ dct B t w ≤ B * w := by
  intro t
  induction t with
  | zero => intro w h0 h; simp at h; omega
  | succ t ih =>
    intro w h0 h
    rw [dct_s h0, Nat.pow_succ, Nat.mul_comm]
    refine Nat.mul_le_mul_left B ?_
    by_cases h1 : w / B = 0
    · rw [h1, dct_0]; exact h0
    · exact Nat.le_trans (ih _ (Nat.pos_of_ne_zero h1) (half_lt hB h)) (Nat.mul_div_le w B)
theorem dcn_le (B w : Nat) : dcn B w ≤ 30 := by unfold dcn; have := dct_le (B := B) 29 (w / B); omega
theorem dcn_pos (B w : Nat) : 0 < dcn B w := by unfold dcn; omega
theorem dcn_high {B w : Nat} (hB : 1 < B) (h : w < 2 ^ 30) : w < B ^ dcn B w := by
  unfold dcn
  rw [Nat.pow_add, Nat.pow_one, Nat.mul_comm]
  exact (Nat.div_lt_iff_lt_mul (by omega)).mp (dct_high hB _ _ (half_lt hB h))
theorem dcn_low {B w : Nat} (hB : 1 < B) (h : w < 2 ^ 30) : B ^ (dcn B w - 1) < 2 ^ 30 := by
  unfold dcn
  rw [Nat.add_sub_cancel_left]
  by_cases h0 : w / B = 0
  · rw [h0, dct_0, Nat.pow_zero]; decide
  · have := dct_low hB 29 (w / B) (Nat.pos_of_ne_zero h0) (half_lt hB h)
    have := Nat.mul_div_le w B
    omega
theorem dcn_small {B w : Nat} (h : w < B) : dcn B w = 1 := by unfold dcn; rw [Nat.div_eq_of_lt h, dct_0]
theorem pow_div {B w k : Nat} : w / B ^ k / B = w / B ^ (k + 1) := by rw [Nat.div_div_eq_div_mul, Nat.pow_succ]
theorem q_count_loop {B : Nat} (hB : 1 < B) (hB2 : B < 17) : ∀ (t n k w : Nat), w < 2 ^ t → k + t ≤ 30 → t < n → f_X9_count_b10 n (nI B) (nI k) (lN w) = some (nI (k + dct B t w)) := by
  intro t
  induction t with
  | zero =>
    intro n k w h hk hn
    obtain ⟨n, rfl⟩ : ∃ m, n = m + 1 := ⟨n - 1, by omega⟩
    have h0 : w = 0 := by simp at h; omega
    subst h0
    rfl
  | succ t ih =>
    intro n k w h hk hn
    obtain ⟨n, rfl⟩ : ∃ m, n = m + 1 := ⟨n - 1, by omega⟩
    by_cases h0 : w = 0
    · subst h0; rw [dct_0]; rfl
    · have hw : w < 2 ^ 63 := Nat.lt_of_lt_of_le h (Nat.pow_le_pow_right (by decide) (by omega))
      rw [dct_s (by omega)]
      show (if 0 < lN w then (if (30 : Int32) ≤ nI k then _ else ((f_X5_quotient (lN w) (nI B).toInt64).bind fun v25 => f_X9_count_b10 n (nI B) (nI k + 1) v25)) else _) = _
      rw [if_pos ((c_L0lt hw).mpr (by omega)), if_neg (fun q => by have := (nI_leI (a := 30) (by decide) (by omega)).mp q; omega), nI_l (by omega), q_quot hw (by omega), Option.bind_some, nI_1, ih n (k + 1) _ (half_lt hB h) (by omega) (by omega), Nat.add_assoc, Nat.add_comm 1]
theorem q_count {B w : Nat} (hB : 1 < B) (hB2 : B < 17) (hw : w < 2 ^ 30) : f_X9_count (nI w) (nI B) = some (nI (dcn B w)) := by
  unfold f_X9_count
  rw [nI_l (by omega), nI_l (by omega), q_quot (by omega) (by omega), Option.bind_some]
  exact q_count_loop hB hB2 29 xfuel 1 (w / B) (half_lt hB hw) (by omega) (by decide)
theorem q_byDiv_loop {B w k : Nat} (hB : 1 < B) (hB2 : B < 17) (hw : w < 2 ^ 30) (hk : k ≤ 30) : ∀ (t n i : Nat), i + t = k → t < n → f_X9_byDividing_b6 n (nI B) (nI k) (lN (w / B ^ i)) (nI i) = some (nI (w / B ^ k % B)) := by
  intro t
  induction t with
  | zero =>
    intro n i h hn
    obtain ⟨n, rfl⟩ : ∃ m, n = m + 1 := ⟨n - 1, by omega⟩
    have hi : i = k := by omega
    subst hi
    have hd := Nat.div_le_self w (B ^ i)
    show (if nI i ≤ nI i then f_X9_byDividing_b32 (nI B) (lN (w / B ^ i)) else _) = _
    rw [if_pos ((nI_leI (by omega) (by omega)).mpr (Nat.le_refl _))]
    unfold f_X9_byDividing_b32
    rw [nI_l (by omega), q_left (by omega) (by omega) (by omega), Option.bind_some, lN_i]
  | succ t ih =>
    intro n i h hn
    obtain ⟨n, rfl⟩ : ∃ m, n = m + 1 := ⟨n - 1, by omega⟩
    have hd := Nat.div_le_self w (B ^ i)
    show (if nI k ≤ nI i then _ else (if (30 : Int32) ≤ nI i then _ else ((f_X5_quotient (lN (w / B ^ i)) (nI B).toInt64).bind fun v22 => f_X9_byDividing_b6 n (nI B) (nI k) v22 (nI i + 1)))) = _
    rw [if_neg (fun q => by have := (nI_leI (by omega) (by omega)).mp q; omega), if_neg (fun q => by have := (nI_leI (a := 30) (by decide) (by omega)).mp q; omega), nI_l (by omega), q_quot (by omega) (by omega), Option.bind_some, nI_1, pow_div]
    exact ih n (i + 1) (by omega) (by omega)
theorem q_byDiv {B w k : Nat} (hB : 1 < B) (hB2 : B < 17) (hw : w < 2 ^ 30) (hk : k ≤ 30) : f_X9_byDividing (nI w) (nI B) (nI k) = some (nI (w / B ^ k % B)) := by
  unfold f_X9_byDividing
  rw [nI_l (by omega)]
  have h := q_byDiv_loop hB hB2 hw hk k xfuel 0 (by omega) (by unfold xfuel; omega)
  rw [Nat.pow_zero, Nat.div_one] at h
  exact h
theorem q_power_loop {B e : Nat} (he : e ≤ 99) : ∀ (t n i : Nat), i + t = e → t < n → f_X5_power_b5 n (lN B) (nI e) (lN (B ^ i)) (nI i) = some (lN (B ^ e)) := by
  intro t
  induction t with
  | zero =>
    intro n i h hn
    obtain ⟨n, rfl⟩ : ∃ m, n = m + 1 := ⟨n - 1, by omega⟩
    have hi : i = e := by omega
    subst hi
    show (if nI i ≤ nI i then _ else _) = _
    rw [if_pos ((nI_leI (by omega) (by omega)).mpr (Nat.le_refl _))]
  | succ t ih =>
    intro n i h hn
    obtain ⟨n, rfl⟩ : ∃ m, n = m + 1 := ⟨n - 1, by omega⟩
    show (if nI e ≤ nI i then _ else (if (100 : Int32) ≤ nI i then _ else f_X5_power_b5 n (lN B) (nI e) (lN (B ^ i) * lN B) (nI i + 1))) = _
    rw [if_neg (fun q => by have := (nI_leI (by omega) (by omega)).mp q; omega), if_neg (fun q => by have := (nI_leI (a := 100) (by decide) (by omega)).mp q; omega), lN_mul, nI_1, ← Nat.pow_succ]
    exact ih n (i + 1) (by omega) (by omega)
theorem q_power {B e : Nat} (he : e ≤ 99) : f_X5_power (lN B) (nI e) = some (lN (B ^ e)) := by
  unfold f_X5_power
  exact q_power_loop he e xfuel 0 (by omega) (by unfold xfuel; omega)
/-- one digit, told by taking its power away -/
theorem q_pow_in {k26 : Int32 → Int32 → Int64 → Int64 → Int32 → Int32 → Option Int32} {c : Int32} {B e p r : Nat} (hB2 : B < 17) (hp : p < 2 ^ 30) (hp0 : 0 < p) (hr : r < p * B) : ∀ (t n i : Nat), i + t = r / p → t < n → f_X9_byPowers_b40 k26 n (nI B) c (lN p) (lN (r - i * p)) (nI i) (nI e) = f_X9_byPowers_b67 k26 (nI B) c (lN p) (lN (r % p)) (nI (r / p)) (nI e) := by
  have hpB : p * B < 2 ^ 30 * 17 := Nat.lt_of_le_of_lt (Nat.mul_le_mul_left p (show B ≤ 17 by omega)) (by omega)
  have hq : r / p < B := by rw [Nat.div_lt_iff_lt_mul hp0, Nat.mul_comm]; exact hr
  have hdm := Nat.div_add_mod r p
  have hml := Nat.mod_lt r hp0
  intro t
  induction t with
  | zero =>
    intro n i h hn
    obtain ⟨n, rfl⟩ : ∃ m, n = m + 1 := ⟨n - 1, by omega⟩
    have hi : i = r / p := by omega
    have he : r - i * p = r % p := by rw [hi, Nat.mul_comm]; omega
    rw [he, hi]
    show (if nI B ≤ nI (r / p) then _ else (if lN (r % p) < lN p then _ else _)) = _
    rw [if_neg (fun q => by have := (nI_leI (by omega) (by omega)).mp q; omega), if_pos ((pk_lLT (by omega) (by omega)).mpr hml)]
  | succ t ih =>
    intro n i h hn
    obtain ⟨n, rfl⟩ : ∃ m, n = m + 1 := ⟨n - 1, by omega⟩
    have hle : (i + 1) * p ≤ r := Nat.le_trans (Nat.mul_le_mul_right p (show i + 1 ≤ r / p by omega)) (Nat.div_mul_le_self r p)
    have hs : (i + 1) * p = i * p + p := Nat.succ_mul i p
    show (if nI B ≤ nI i then _ else (if lN (r - i * p) < lN p then _ else f_X9_byPowers_b40 k26 n (nI B) c (lN p) (lN (r - i * p) - lN p) (nI i + 1) (nI e))) = _
    rw [if_neg (fun q => by have := (nI_leI (by omega) (by omega)).mp q; omega), if_neg (fun q => by have := (pk_lLT (by omega) (by omega)).mp q; omega), lN_sub (by omega), nI_1, show r - i * p - p = r - (i + 1) * p by omega]
    exact ih n (i + 1) (by omega) (by omega)
theorem q_pow_out {B w k : Nat} (hB : 1 < B) (hB2 : B < 17) : ∀ (t n e : Nat), e = k + t → t + 1 < n → B ^ e < 2 ^ 30 → e < 30 → ∀ x8, f_X9_byPowers_b26 n (nI B) (nI k) (lN (B ^ e)) (lN (w % B ^ (e + 1))) x8 (nI e) = some (nI (w / B ^ k % B)) := by
  intro t
  induction t with
  | zero =>
    intro n e he hn hp he30 x8
    obtain ⟨n, rfl⟩ : ∃ m, n = m + 2 := ⟨n - 2, by omega⟩
    have hk : e = k := by omega
    subst hk
    have hp0 : 0 < B ^ e := Nat.pow_pos (by omega)
    have hr : w % B ^ (e + 1) < B ^ e * B := by rw [← Nat.pow_succ]; exact Nat.mod_lt _ (Nat.pow_pos (by omega))
    show (if nI e < nI e then _ else (if nI e < 0 then _ else f_X9_byPowers_b40 (f_X9_byPowers_b26 (n + 1)) xfuel (nI B) (nI e) (lN (B ^ e)) (lN (w % B ^ (e + 1))) (nI 0) (nI e))) = _
    have h := q_pow_in (k26 := f_X9_byPowers_b26 (n + 1)) (c := nI e) (e := e) hB2 hp hp0 hr (w % B ^ (e + 1) / B ^ e) xfuel 0 (by omega) (by
      have : w % B ^ (e + 1) / B ^ e < B := by rw [Nat.div_lt_iff_lt_mul hp0, Nat.mul_comm]; exact hr
      unfold xfuel; omega)
    rw [Nat.zero_mul, Nat.sub_zero] at h
    rw [if_neg (fun q => by have := (c_lt (by omega) (by omega)).mp q; omega), if_neg (nI_pos (by omega)), h]
    unfold f_X9_byPowers_b67
    have hdl := Nat.div_le_self (B ^ e) B
    rw [nI_l (by omega), q_quot (by omega) (by omega), Option.bind_some, Nat.pow_succ, Nat.mod_mul_right_div_self]
    have hend : ∀ x9 : Int32, x9 < nI e → f_X9_byPowers_b26 (n + 1) (nI B) (nI e) (lN (B ^ e / B)) (lN (w % (B ^ e * B) % B ^ e)) (nI (w / B ^ e % B)) x9 = some (nI (w / B ^ e % B)) := by
      intro x9 hx
      show (if x9 < nI e then _ else _) = _
      rw [if_pos hx]
    refine hend _ ?_
    rcases Nat.eq_zero_or_pos e with h0 | h0
    · subst h0; decide
    · obtain ⟨e', rfl⟩ : ∃ m, e = m + 1 := ⟨e - 1, by omega⟩
      rw [pk_m1]; exact (c_lt (by omega) (by omega)).mpr (by omega)
  | succ t ih =>
    intro n e he hn hp he30 x8
    obtain ⟨n, rfl⟩ : ∃ m, n = m + 1 := ⟨n - 1, by omega⟩
    obtain ⟨e, rfl⟩ : ∃ m, e = m + 1 := ⟨e - 1, by omega⟩
    have hp0 : 0 < B ^ (e + 1) := Nat.pow_pos (by omega)
    have hr : w % B ^ (e + 1 + 1) < B ^ (e + 1) * B := by rw [← Nat.pow_succ]; exact Nat.mod_lt _ (Nat.pow_pos (by omega))
    show (if nI (e + 1) < nI k then _ else (if nI (e + 1) < 0 then _ else f_X9_byPowers_b40 (f_X9_byPowers_b26 n) xfuel (nI B) (nI k) (lN (B ^ (e + 1))) (lN (w % B ^ (e + 1 + 1))) (nI 0) (nI (e + 1)))) = _
    have h := q_pow_in (k26 := f_X9_byPowers_b26 n) (c := nI k) (e := e + 1) hB2 hp hp0 hr (w % B ^ (e + 1 + 1) / B ^ (e + 1)) xfuel 0 (by omega) (by
      have : w % B ^ (e + 1 + 1) / B ^ (e + 1) < B := by rw [Nat.div_lt_iff_lt_mul hp0, Nat.mul_comm]; exact hr
      unfold xfuel; omega)
    rw [Nat.zero_mul, Nat.sub_zero] at h
    rw [if_neg (fun q => by have := (c_lt (by omega) (by omega)).mp q; omega), if_neg (nI_pos (by omega)), h]
    unfold f_X9_byPowers_b67
    have hle : B ^ e ≤ B ^ (e + 1) := Nat.pow_le_pow_right (by omega) (by omega)
    rw [nI_l (by omega), q_quot (by omega) (by omega), Option.bind_some, pk_m1, Nat.pow_succ B e, Nat.mul_div_cancel _ (by omega), Nat.mod_mod_of_dvd _ (by rw [← Nat.pow_succ]; exact Nat.pow_dvd_pow B (by omega)), ← Nat.pow_succ]
    exact ih n e (by omega) (by omega) (by omega) (by omega) _
theorem q_byPow {B w k : Nat} (hB : 1 < B) (hB2 : B < 17) (hw : w < 2 ^ 30) (hk : k < dcn B w) : f_X9_byPowers (nI w) (nI B) (nI k) = some (nI (w / B ^ k % B)) := by
  have h1 := dcn_le B w
  have h3 := dcn_high hB hw
  have h4 := dcn_low hB hw
  unfold f_X9_byPowers
  rw [q_count hB hB2 hw, Option.bind_some, show nI (dcn B w) - 1 = nI (dcn B w - 1) from pk_sub (b := 1) (dcn_pos B w), nI_l (by omega), q_power (by omega), Option.bind_some, nI_l (by omega)]
  have h := q_pow_out (w := w) (k := k) hB hB2 (dcn B w - 1 - k) xfuel (dcn B w - 1) (by omega) (by unfold xfuel; omega) h4 (by omega) 0
  rw [Nat.sub_add_cancel (dcn_pos B w), Nat.mod_eq_of_lt h3] at h
  exact h
/-- sums of the first values of a function -/
def sm (f : Nat → Nat) : Nat → Nat
  | 0 => 0
  | n + 1 => sm f n + f n
def dgt (B w k : Nat) : Nat := w / B ^ k % B
theorem dgt_lt {B w k : Nat} (hB : 1 < B) : dgt B w k < B := Nat.mod_lt _ (by omega)
theorem sm_le {f : Nat → Nat} {M : Nat} (h : ∀ k, f k ≤ M) : ∀ n, sm f n ≤ n * M := by
  intro n
  induction n with
  | zero => exact Nat.zero_le _
  | succ n ih => rw [Nat.succ_mul]; exact Nat.add_le_add ih (h n)
theorem sm_dgt_le {B w n : Nat} (hB : 1 < B) (hB2 : B < 17) : sm (dgt B w) n ≤ n * 16 := sm_le (fun k => by have := dgt_lt (w := w) (k := k) hB; omega) n
theorem q_sum_loop {B w : Nat} (hB : 1 < B) (hB2 : B < 17) (hw : w < 2 ^ 30) : ∀ (t n i : Nat), w / B ^ i < 2 ^ t → i + t ≤ 30 → t < n → f_X9_sum_b9 n (nI B) (lN (w / B ^ i)) (lN (sm (dgt B w) i)) (nI i) = some (nI (sm (dgt B w) (i + dct B t (w / B ^ i)))) := by
  intro t
  induction t with
  | zero =>
    intro n i h hi hn
    obtain ⟨n, rfl⟩ : ∃ m, n = m + 1 := ⟨n - 1, by omega⟩
    have h0 : w / B ^ i = 0 := by
      rw [Nat.pow_zero] at h
      exact Nat.lt_one_iff.mp h
    rw [h0, dct_0]
    show (if 0 < lN 0 then _ else some (lN (sm (dgt B w) i)).toInt32) = _
    rw [if_neg (by decide), lN_i, Nat.add_zero]
  | succ t ih =>
    intro n i h hi hn
    obtain ⟨n, rfl⟩ : ∃ m, n = m + 1 := ⟨n - 1, by omega⟩
    have hd := Nat.div_le_self w (B ^ i)
    by_cases h0 : w / B ^ i = 0
    · rw [h0, dct_0]
      show (if 0 < lN 0 then _ else some (lN (sm (dgt B w) i)).toInt32) = _
      rw [if_neg (by decide), lN_i, Nat.add_zero]
    · have hp := Nat.pos_of_ne_zero h0
      show (if 0 < lN (w / B ^ i) then (if (30 : Int32) ≤ nI i then _ else ((f_X5_left (lN (w / B ^ i)) (nI B).toInt64).bind fun v27 => ((f_X5_quotient (lN (w / B ^ i)) (nI B).toInt64).bind fun v36 => f_X9_sum_b9 n (nI B) v36 (lN (sm (dgt B w) i) + v27) (nI i + 1)))) else _) = _
      rw [if_pos ((c_L0lt (by omega)).mpr hp), if_neg (fun q => by have := (nI_leI (a := 30) (by decide) (by omega)).mp q; omega), nI_l (by omega), q_left (by omega) (by omega) (by omega), Option.bind_some, q_quot (by omega) (by omega), Option.bind_some, lN_add, nI_1, pow_div]
      have e := ih n (i + 1) (by rw [← pow_div]; exact half_lt hB h) (by omega) (by omega)
      rw [dct_s hp, pow_div, show i + (dct B t (w / B ^ (i + 1)) + 1) = i + 1 + dct B t (w / B ^ (i + 1)) by omega]
      exact e
theorem q_sum {B w : Nat} (hB : 1 < B) (hB2 : B < 17) (hw : w < 2 ^ 30) : f_X9_sum (nI w) (nI B) = some (nI (sm (dgt B w) (dcn B w))) := by
  unfold f_X9_sum
  rw [nI_l (by omega)]
  have h := q_sum_loop hB hB2 hw 30 xfuel 0 (by rw [Nat.pow_zero, Nat.div_one]; exact hw) (by omega) (by decide)
  rw [Nat.pow_zero, Nat.div_one, Nat.zero_add] at h
  refine Eq.trans h ?_
  congr 2
  by_cases h0 : w = 0
  · subst h0
    rw [dct_0, dcn_small (by omega)]
    show 0 = 0 + dgt B 0 0
    unfold dgt; rw [Nat.zero_div, Nat.zero_mod]
  · rw [dct_s (by omega)]; unfold dcn; rw [Nat.add_comm]
theorem sm_mod {B w : Nat} (hB : 1 < B) : ∀ i, (sm (dgt B w) i + w / B ^ i) % (B - 1) = w % (B - 1) := by
  intro i
  induction i with
  | zero => rw [Nat.pow_zero, Nat.div_one]; show (0 + w) % _ = _; rw [Nat.zero_add]
  | succ i ih =>
    rw [← ih, ← pow_div]
    show (sm (dgt B w) i + w / B ^ i % B + w / B ^ i / B) % (B - 1) = _
    generalize w / B ^ i = z
    have h := Nat.div_add_mod z B
    have e : sm (dgt B w) i + z = sm (dgt B w) i + z % B + z / B + (B - 1) * (z / B) := by
      have : B * (z / B) = z / B + (B - 1) * (z / B) := by
        obtain ⟨b, rfl⟩ : ∃ b, B = b + 1 := ⟨B - 1, by omega⟩
        rw [Nat.add_sub_cancel, Nat.succ_mul, Nat.add_comm]
      omega
    rw [e, Nat.add_mul_mod_self_left]
theorem sm_left {B w : Nat} (hB : 1 < B) (hw : w < 2 ^ 30) : sm (dgt B w) (dcn B w) % (B - 1) = w % (B - 1) := by
  have h := sm_mod (w := w) hB (dcn B w)
  rw [Nat.div_eq_of_lt (dcn_high hB hw), Nat.add_zero] at h
  exact h
/-- the model's row of digits -/
def dfn (B w : Nat) (d0 : Nat → Int32) (k : Nat) : Nat → Int32 := fun j => if j < k then nI (dgt B w j) else d0 j
theorem dfn_at {B w k j : Nat} {d0 : Nat → Int32} (h : j < k) : dfn B w d0 k j = nI (dgt B w j) := if_pos h
theorem dfn_up {B w k : Nat} {d0 : Nat → Int32} : upd (dfn B w d0 k) k (nI (dgt B w k)) = dfn B w d0 (k + 1) := by
  funext j
  by_cases h : j = k
  · subst h; rw [pk_us]; exact (if_pos (by omega)).symm
  · rw [pk_un h]
    by_cases h2 : j < k
    · exact (if_pos h2).trans (if_pos (by omega)).symm
    · exact (if_neg h2).trans (if_neg (by omega)).symm
theorem dfn_0 {B w : Nat} {d0 : Nat → Int32} : dfn B w d0 0 = d0 := by funext j; exact if_neg (by omega)
theorem m_tell_b22 {B w k : Nat} {ss d0 : Nat → Int32} {k11 : (Nat → Int32) → (Nat → Int32) → Int32 → Int32 → Option ((Nat → Int32) × Int32)} (hB : 1 < B) (hB2 : B < 17) (hb : ss 0 = nI B) (hw : w < 2 ^ 30) (hk : k < 40) : f_X11_tellsDigits_b22 k11 ss (dfn B w d0 k) (nI k) (nI (w / B ^ k)) = k11 ss (dfn B w d0 (k + 1)) (nI (k + 1)) (nI (w / B ^ (k + 1))) := by
  have hd := Nat.div_le_self w (B ^ k)
  unfold f_X11_tellsDigits_b22
  rw [show (0 : Int32).toNatClampNeg = 0 from rfl, hb, if_neg (c_ne0 (by omega) (by omega)), if_neg (nI_in (by omega) (by omega)), if_neg (c_ne0 (by omega) (by omega)), nI_clamp (by omega), pk_rem (by omega) (by omega) (by omega), pk_div (by omega) (by omega) (by omega), nI_1, pow_div]
  show k11 ss (upd (dfn B w d0 k) k (nI (dgt B w k))) _ _ = _
  rw [dfn_up]
theorem m_tell_loop {B w : Nat} {ss d0 : Nat → Int32} (hB : 1 < B) (hB2 : B < 17) (hb : ss 0 = nI B) (hw : w < 2 ^ 30) : ∀ (t n k : Nat), 0 < k → w / B ^ k < 2 ^ t → k + t ≤ 30 → t < n → f_X11_tellsDigits_b11 n ss (dfn B w d0 k) (nI k) (nI (w / B ^ k)) = some (dfn B w d0 (k + dct B t (w / B ^ k)), nI (k + dct B t (w / B ^ k))) := by
  intro t
  induction t with
  | zero =>
    intro n k h1 h hi hn
    obtain ⟨n, rfl⟩ : ∃ m, n = m + 1 := ⟨n - 1, by omega⟩
    have h0 : w / B ^ k = 0 := by
      rw [Nat.pow_zero] at h
      exact Nat.lt_one_iff.mp h
    rw [h0, dct_0]
    show (if 0 < nI 0 then _ else (if nI k = 0 then _ else some (dfn B w d0 k, nI k))) = _
    rw [if_neg (by decide), if_neg (c_ne0 (by omega) h1), Nat.add_zero]
  | succ t ih =>
    intro n k h1 h hi hn
    obtain ⟨n, rfl⟩ : ∃ m, n = m + 1 := ⟨n - 1, by omega⟩
    have hd := Nat.div_le_self w (B ^ k)
    by_cases h0 : w / B ^ k = 0
    · rw [h0, dct_0]
      show (if 0 < nI 0 then _ else (if nI k = 0 then _ else some (dfn B w d0 k, nI k))) = _
      rw [if_neg (by decide), if_neg (c_ne0 (by omega) h1), Nat.add_zero]
    · have hp := Nat.pos_of_ne_zero h0
      show (if 0 < nI (w / B ^ k) then f_X11_tellsDigits_b22 (f_X11_tellsDigits_b11 n) ss (dfn B w d0 k) (nI k) (nI (w / B ^ k)) else _) = _
      rw [if_pos ((c_0lt (by omega)).mpr hp), m_tell_b22 hB hB2 hb hw (by omega)]
      have e := ih n (k + 1) (by omega) (by rw [← pow_div]; exact half_lt hB h) (by omega) (by omega)
      rw [dct_s hp, pow_div, show k + (dct B t (w / B ^ (k + 1)) + 1) = k + 1 + dct B t (w / B ^ (k + 1)) by omega]
      exact e
theorem m_tell0 {B w : Nat} {ss d0 : Nat → Int32} (hB : 1 < B) (hB2 : B < 17) (hb : ss 0 = nI B) (hw : w < 2 ^ 30) : f_X11_tellsDigits_b11 xfuel ss d0 0 (nI w) = some (dfn B w d0 (dcn B w), nI (dcn B w)) := by
  have h1 : f_X11_tellsDigits_b11 xfuel ss d0 0 (nI w) = f_X11_tellsDigits_b22 (f_X11_tellsDigits_b11 3999999) ss d0 0 (nI w) := by
    show (if 0 < nI w then _ else (if (0 : Int32) = 0 then f_X11_tellsDigits_b22 (f_X11_tellsDigits_b11 3999999) ss d0 0 (nI w) else _)) = _
    split
    · rfl
    · rw [if_pos rfl]
  have h2 := m_tell_b22 (k := 0) (d0 := d0) (k11 := f_X11_tellsDigits_b11 3999999) hB hB2 hb hw (by omega)
  rw [dfn_0, Nat.pow_zero, Nat.div_one] at h2
  rw [h1, show (0 : Int32) = nI 0 from rfl, h2]
  have h3 := m_tell_loop (d0 := d0) hB hB2 hb hw 29 3999999 1 (by omega) (by rw [Nat.pow_one]; exact half_lt hB hw) (by omega) (by omega)
  rw [Nat.pow_one] at h3
  rw [Nat.zero_add, Nat.pow_one]
  exact h3
theorem m_sum_loop {B w N : Nat} {ss d0 : Nat → Int32} (hN : N ≤ 30) : ∀ (t n i : Nat), i + t = N → t < n → f_X11_sumOf_b9 n ss (dfn B w d0 N) (nI N) (nI (sm (dgt B w) i)) (nI i) = some (nI (sm (dgt B w) N), dfn B w d0 N, nI N) := by
  intro t
  induction t with
  | zero =>
    intro n i h hn
    obtain ⟨n, rfl⟩ : ∃ m, n = m + 1 := ⟨n - 1, by omega⟩
    have hi : i = N := by omega
    subst hi
    show (if nI i ≤ nI i then _ else _) = _
    rw [if_pos ((nI_leI (by omega) (by omega)).mpr (Nat.le_refl _))]
  | succ t ih =>
    intro n i h hn
    obtain ⟨n, rfl⟩ : ∃ m, n = m + 1 := ⟨n - 1, by omega⟩
    show (if nI N ≤ nI i then _ else (if nI i < 0 ∨ 40 ≤ (nI i).toNatClampNeg then none else f_X11_sumOf_b9 n ss (dfn B w d0 N) (nI N) (nI (sm (dgt B w) i) + dfn B w d0 N (nI i).toNatClampNeg) (nI i + 1))) = _
    rw [if_neg (fun q => by have := (nI_leI (by omega) (by omega)).mp q; omega), if_neg (nI_in (by omega) (by omega)), nI_clamp (by omega), dfn_at (by omega), nI_add, nI_1]
    exact ih n (i + 1) (by omega) (by omega)
