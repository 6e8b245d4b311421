/-! Shares, and their bits. -/
theorem d_nz {x : UInt64} {K : Nat} (h : x.toNat < K * 2 ^ 52) (hK : K ≤ 2047) : FP.Core.val64 x ≠ .nan ∧ x.toNat < 2 ^ 63 ∧ ∃ c q, FP.Core.val64 x = .fin false c q := by
  have h1 : x.toNat % 2 ^ 63 < K * 2 ^ 52 := Nat.lt_of_le_of_lt (Nat.mod_le _ _) h
  have h2 : K * 2 ^ 52 ≤ 2047 * 2 ^ 52 := Nat.mul_le_mul_right _ hK
  obtain ⟨s, c, q, e⟩ := FP.Core.fin_of_lt h1 hK
  have h3 : FP.Core.val64 x ≠ .nan := by rw [e]; exact FP.Core.Datum.noConfusion
  refine ⟨h3, by omega, c, q, ?_⟩
  have h4 := FP.Core.sgn_bits h3
  rw [e] at h4
  have h5 : s = false := by
    have : ¬ 2 ^ 63 ≤ x.toNat := by omega
    rw [show FP.Core.sgn (.fin s c q) = s from rfl] at h4
    rw [h4]; exact decide_eq_false this
  rw [e, h5]
theorem d_ok {x : UInt64} (h : FP.Core.val64 x ≠ .nan) : x &&& 0x7fffffffffffffff ≤ 0x7ff0000000000000 := by
  rw [UInt64.le_iff_toNat_le, FP.Core.mask_toNat]
  exact (FP.Core.ne_nan x).mp h
theorem d_pos_of {x : UInt64} {A B : Nat} {e : Int} (h : FP.Core.val64 x = FP.Core.roundRatio FP.Core.b64 false A B e) : x.toNat < 2 ^ 63 := by
  have h1 : FP.Core.val64 x ≠ .nan := by rw [h]; exact FP.Core.roundRatio_ne_nan _ _ _ _ _
  have h2 := FP.Core.sgn_bits h1
  rw [h, FP.Core.sgn_roundRatio] at h2
  have h3 := of_decide_eq_false h2.symm
  omega
theorem i2d_lt {n : Nat} (h : n < 2 ^ 31) : (FP.i2d (nI n)).toNat < 1056 * 2 ^ 52 := by
  have h1 := FP.Core.i2d_mag (nI n)
  have h2 : (FP.Core.i2d (nI n)).toNat < 2 ^ 63 := by
    refine d_pos_of (A := n) (B := 1) (e := 0) ?_
    rw [FP.Core.val64_i2d, nI_toInt h]
    show FP.Core.roundRatio _ (decide ((n : Int) < 0)) (n : Int).natAbs 1 0 = _
    rw [decide_eq_false (by omega), Int.natAbs_natCast]
  have h3 : (FP.Core.i2d (nI n)).toNat % 2 ^ 63 = (FP.Core.i2d (nI n)).toNat := Nat.mod_eq_of_lt h2
  show (FP.Core.i2d (nI n)).toNat < _
  omega
theorem i2d_ge {n : Nat} (h : n < 2 ^ 31) (h0 : 0 < n) : 1023 * 2 ^ 52 ≤ (FP.i2d (nI n)).toNat := by
  have h1 := FP.Core.fromInt_ge (FP.Core.toNat_i2d (nI n)) (by rw [nI_toInt h]; omega)
  have h2 : (FP.Core.i2d (nI n)).toNat % 2 ^ 63 ≤ (FP.Core.i2d (nI n)).toNat := Nat.mod_le _ _
  show _ ≤ (FP.Core.i2d (nI n)).toNat
  omega
theorem i2d_0 : (FP.i2d (nI 0)).toNat = 0 := by decide +kernel
/-- a quotient's two numbers, as a rounded ratio -/
theorem div_val {a b : UInt64} {K L : Nat} (ha : a.toNat < K * 2 ^ 52) (hK : K ≤ 2047) (hb : b.toNat < L * 2 ^ 52) (hL : L ≤ 2047) (hb0 : 0 < b.toNat) : ∃ c q d r, 0 < d ∧ -1074 ≤ q ∧ -1074 ≤ r ∧ q ≤ 971 ∧ r ≤ 971 ∧ c * 2 ^ (q + 1074).toNat = FP.Core.unitsOf FP.Core.b64 a.toNat ∧ d * 2 ^ (r + 1074).toNat = FP.Core.unitsOf FP.Core.b64 b.toNat ∧ FP.Core.val64 (FP.ddiv a b) = FP.Core.roundRatio FP.Core.b64 false c d (q - r) := by
  obtain ⟨a1, a2, c, q, a3⟩ := d_nz ha hK
  obtain ⟨b1, b2, d, r, b3⟩ := d_nz hb hL
  have za := FP.Core.zmag_bits a1
  have zb := FP.Core.zmag_bits b1
  rw [Nat.mod_eq_of_lt a2, a3] at za
  rw [Nat.mod_eq_of_lt b2, b3] at zb
  have fa := FP.Core.val64_fits a
  have fb := FP.Core.val64_fits b
  rw [a3] at fa
  rw [b3] at fb
  obtain ⟨_, fa2, fa3, _⟩ := fa
  obtain ⟨_, fb2, fb3, _⟩ := fb
  rw [FP.Core.qmin_b64] at fa2 fb2
  have qx : FP.Core.b64.qmax = 971 := by decide
  rw [qx] at fa3 fb3
  have hm : (-FP.Core.b64.qmin) = 1074 := by rw [FP.Core.qmin_b64]; rfl
  have za2 : c * 2 ^ (q + 1074).toNat = FP.Core.unitsOf FP.Core.b64 a.toNat := by
    rw [← za]
    show _ = c * 2 ^ (q - FP.Core.b64.qmin).toNat
    rw [FP.Core.qmin_b64]; rfl
  have zb2 : d * 2 ^ (r + 1074).toNat = FP.Core.unitsOf FP.Core.b64 b.toNat := by
    rw [← zb]
    show _ = d * 2 ^ (r - FP.Core.b64.qmin).toNat
    rw [FP.Core.qmin_b64]; rfl
  have hd : 0 < d := by
    rcases Nat.eq_zero_or_pos d with z | z
    · rw [z, Nat.zero_mul] at zb2
      have := FP.Core.unitsOf_eq_zero.mp zb2.symm
      omega
    · exact z
  refine ⟨c, q, d, r, hd, fa2, fb2, fa3, fb3, za2, zb2, ?_⟩
  rw [FP.Core.val64_ddiv, a3, b3]
  show (if d = 0 then _ else FP.Core.roundRatio FP.Core.b64 (false != false) c d (q - r)) = _
  rw [if_neg (by omega)]
  rfl
theorem div_cmp {c d X Y : Nat} {q r : Int} {N : Nat} (hN : 3000 ≤ N) (hq : -1074 ≤ q) (hr : -1074 ≤ r) (hq2 : q ≤ 971) (hr2 : r ≤ 971) : (X * 2 ^ N * (d * 2 ^ (r + 1074).toNat) ≤ (c * 2 ^ (q + 1074).toNat) * 2 ^ N * Y ↔ X * 2 ^ N * d ≤ c * 2 ^ (q - r + N).toNat * Y) := by
  have e : 2 ^ (q - r + N).toNat * 2 ^ (r + 1074).toNat = 2 ^ (q + 1074).toNat * 2 ^ N := by
    rw [← Nat.pow_add, ← Nat.pow_add]
    congr 1
    omega
  have e1 : X * 2 ^ N * (d * 2 ^ (r + 1074).toNat) = (X * 2 ^ N * d) * 2 ^ (r + 1074).toNat := by rw [← Nat.mul_assoc]
  have e2 : (c * 2 ^ (q + 1074).toNat) * 2 ^ N * Y = (c * 2 ^ (q - r + N).toNat * Y) * 2 ^ (r + 1074).toNat := by
    rw [Nat.mul_assoc c, ← e]
    generalize 2 ^ (q - r + N).toNat = u
    generalize 2 ^ (r + 1074).toNat = v
    rw [← Nat.mul_assoc, Nat.mul_right_comm]
  rw [e1, e2]
  exact Nat.mul_le_mul_right_iff (Nat.two_pow_pos _)
/-- a quotient is at most 1 where its number isn't above its divisor -/
theorem div_le1 {a b : UInt64} {L : Nat} (hb : b.toNat < L * 2 ^ 52) (hL : L ≤ 2047) (hb0 : 0 < b.toNat) (hab : a.toNat ≤ b.toNat) : (FP.ddiv a b).toNat ≤ 1023 * 2 ^ 52 := by
  obtain ⟨c, q, d, r, hd, q1, r1, q2, r2, za, zb, hv⟩ := div_val (Nat.lt_of_le_of_lt hab hb) hL hb hL hb0
  have hu : FP.Core.unitsOf FP.Core.b64 a.toNat ≤ FP.Core.unitsOf FP.Core.b64 b.toNat := FP.Core.unitsOf_le_iff.mpr hab
  have hp := d_pos_of hv
  obtain ⟨N, hN⟩ : ∃ N : Nat, N = 4000 := ⟨_, rfl⟩
  have h := FP.Core.mag_le FP.Core.good_b64 (n := (FP.ddiv a b).toNat) (m := 1023 * 2 ^ 52) (e0 := -(N : Int)) hv hd (by rw [FP.Core.qmin_b64]; omega) (by omega) (by
    have ht := FP.Core.unitsOf_start (f := FP.Core.b64) (K := 1023) (by omega)
    rw [FP.Core.tails_b64] at ht
    rw [ht, FP.Core.qmin_b64]
    show c * 2 ^ (q - r - -(N : Int)).toNat ≤ _
    rw [show (q - r - -(N : Int)) = q - r + N by omega]
    have e9 : 2 ^ 52 * 2 ^ (1023 - 1) * 2 ^ (-1074 - -(N : Int)).toNat = 2 ^ N := by
      rw [← Nat.pow_add, ← Nat.pow_add]
      exact congrArg (fun k => 2 ^ k) (by omega)
    rw [e9]
    have key : (c * 2 ^ (q + 1074).toNat) * 2 ^ N * 1 ≤ 1 * 2 ^ N * (d * 2 ^ (r + 1074).toNat) := by
      rw [za, zb, Nat.mul_one, Nat.one_mul, Nat.mul_comm]
      exact Nat.mul_le_mul_left _ hu
    have e : 2 ^ (q - r + N).toNat * 2 ^ (r + 1074).toNat = 2 ^ (q + 1074).toNat * 2 ^ N := by
      rw [← Nat.pow_add, ← Nat.pow_add]
      exact congrArg (fun k => 2 ^ k) (by omega)
    refine Nat.le_of_mul_le_mul_right ?_ (Nat.two_pow_pos (r + 1074).toNat)
    rw [Nat.mul_one, Nat.one_mul] at key
    rw [Nat.mul_assoc c, e, ← Nat.mul_assoc, Nat.mul_assoc (2 ^ N)]
    exact key)
  rw [FP.Core.mag_toNat64, Nat.mod_eq_of_lt hp] at h
  exact h
theorem div_ge {a b : UInt64} {K J L M : Nat} (ha : K * 2 ^ 52 ≤ a.toNat) (hK : 1 ≤ K) (ha2 : a.toNat < J * 2 ^ 52) (hJ : J ≤ 2047) (hb : b.toNat < L * 2 ^ 52) (hL : L ≤ 2047) (hb0 : 0 < b.toNat) (hM : M + L = K + 1022) (hM1 : 1 ≤ M) (hM2 : M ≤ 2047) : M * 2 ^ 52 ≤ (FP.ddiv a b).toNat := by
  obtain ⟨c, q, d, r, hd, q1, r1, q2, r2, za, zb, hv⟩ := div_val ha2 hJ hb hL hb0
  have hL1 : 1 ≤ L := by
    rcases Nat.eq_zero_or_pos L with z | z
    · rw [z, Nat.zero_mul] at hb; omega
    · exact z
  have hua : 2 ^ 52 * 2 ^ (K - 1) ≤ FP.Core.unitsOf FP.Core.b64 a.toNat := by
    have := FP.Core.unitsOf_start (f := FP.Core.b64) (K := K) hK
    rw [FP.Core.tails_b64] at this
    rw [← this]
    exact FP.Core.unitsOf_le_iff.mpr ha
  have hub : FP.Core.unitsOf FP.Core.b64 b.toNat ≤ 2 ^ 52 * 2 ^ (L - 1) := by
    have := FP.Core.unitsOf_start (f := FP.Core.b64) (K := L) hL1
    rw [FP.Core.tails_b64] at this
    rw [← this]
    exact FP.Core.unitsOf_le_iff.mpr (Nat.le_of_lt hb)
  have hp := d_pos_of hv
  obtain ⟨N, hN⟩ : ∃ N : Nat, N = 4000 := ⟨_, rfl⟩
  have hMi : M * 2 ^ 52 ≤ FP.Core.infBits FP.Core.b64 := by
    rw [FP.Core.infBits_b64]
    exact Nat.mul_le_mul_right _ hM2
  have h := FP.Core.mag_ge FP.Core.good_b64 (n := (FP.ddiv a b).toNat) (m := M * 2 ^ 52) (e0 := -(N : Int)) hv hd (by rw [FP.Core.qmin_b64]; omega) (by omega) hMi (by
    have ht := FP.Core.unitsOf_start (f := FP.Core.b64) (K := M) hM1
    rw [FP.Core.tails_b64] at ht
    rw [ht, FP.Core.qmin_b64]
    show _ ≤ c * 2 ^ (q - r - -(N : Int)).toNat
    rw [show (q - r - -(N : Int)) = q - r + N by omega]
    have e : 2 ^ (q - r + N).toNat * 2 ^ (r + 1074).toNat = 2 ^ (q + 1074).toNat * 2 ^ N := by
      rw [← Nat.pow_add, ← Nat.pow_add]
      congr 1
      omega
    refine Nat.le_of_mul_le_mul_right ?_ (Nat.two_pow_pos (r + 1074).toNat)
    rw [Nat.mul_assoc c, e, ← Nat.mul_assoc c, za, Nat.mul_assoc _ d, zb]
    refine Nat.le_trans (Nat.mul_le_mul_left _ hub) (Nat.le_trans ?_ (Nat.mul_le_mul_right _ hua))
    rw [← Nat.pow_add, ← Nat.pow_add, ← Nat.pow_add, ← Nat.pow_add, ← Nat.pow_add, ← Nat.pow_add]
    exact Nat.pow_le_pow_right (by decide) (by omega))
  rw [FP.Core.mag_toNat64, Nat.mod_eq_of_lt hp] at h
  exact h
theorem div_pos' {a b : UInt64} {K L : Nat} (ha : a.toNat < K * 2 ^ 52) (hK : K ≤ 2047) (hb : b.toNat < L * 2 ^ 52) (hL : L ≤ 2047) (hb0 : 0 < b.toNat) : (FP.ddiv a b).toNat < 2 ^ 63 ∧ FP.Core.val64 (FP.ddiv a b) ≠ .nan := by
  obtain ⟨c, q, d, r, hd, q1, r1, q2, r2, za, zb, hv⟩ := div_val ha hK hb hL hb0
  exact ⟨d_pos_of hv, by rw [hv]; exact FP.Core.roundRatio_ne_nan _ _ _ _ _⟩
/-- sums of two numbers that aren't below 0 -/
theorem add_val {a b : UInt64} {K : Nat} (ha : a.toNat < K * 2 ^ 52) (hb : b.toNat < K * 2 ^ 52) (hK : K ≤ 2047) : (FP.dadd a b).toNat < (K + 2) * 2 ^ 52 ∧ a.toNat ≤ (FP.dadd a b).toNat ∧ b.toNat ≤ (FP.dadd a b).toNat := by
  obtain ⟨a1, a2, c, q, a3⟩ := d_nz ha hK
  obtain ⟨b1, b2, d, r, b3⟩ := d_nz hb hK
  have fa := FP.Core.val64_fits a
  have fb := FP.Core.val64_fits b
  have za := FP.Core.zval_nonneg a1 a2
  have zb := FP.Core.zval_nonneg b1 b2
  rw [a3] at fa
  rw [b3] at fb
  obtain ⟨sg, n, e, h1, h2, h3⟩ := FP.Core.sum_units fa fb
  have hv : FP.Core.val64 (FP.dadd a b) = FP.Core.round FP.Core.b64 (.fin sg n e) := by rw [FP.Core.val64_dadd, a3, b3, h1]
  rw [← a3, ← b3] at h3
  have hsg : FP.Core.val64 (FP.dadd a b) = FP.Core.roundRatio FP.Core.b64 false n 1 e := by
    rw [hv]
    show FP.Core.roundRatio _ sg n 1 e = _
    have h4 : FP.Core.exactSum (.fin false c q) (.fin false d r) = .fin (FP.Core.sumSign false false (FP.Core.sumUnits false c q false d r (min q r))) (FP.Core.sumUnits false c q false d r (min q r)).natAbs (min q r) := rfl
    rw [h4] at h1
    have h5 : sg = FP.Core.sumSign false false (FP.Core.sumUnits false c q false d r (min q r)) := by injection h1 with x _ _; exact x.symm
    have h6 : (0 : Int) ≤ FP.Core.sumUnits false c q false d r (min q r) := by
      show (0 : Int) ≤ (FP.Core.inUnits c q (min q r) : Int) + (FP.Core.inUnits d r (min q r) : Int)
      omega
    have h7 : sg = false := by
      rw [h5]
      unfold FP.Core.sumSign
      split
      · rfl
      · exact decide_eq_false (by omega)
    rw [h7]
  have hp := d_pos_of hsg
  have hnn : FP.Core.val64 (FP.dadd a b) ≠ .nan := by rw [hsg]; exact FP.Core.roundRatio_ne_nan _ _ _ _ _
  have hm := FP.Core.dadd_mag (a := a) (b := b) (K := K) (Nat.lt_of_le_of_lt (Nat.mod_le _ _) ha) (Nat.lt_of_le_of_lt (Nat.mod_le _ _) hb) hK
  have hmm : (FP.Core.dadd a b).toNat % 2 ^ 63 = (FP.Core.dadd a b).toNat := Nat.mod_eq_of_lt hp
  rw [hmm] at hm
  have up : ∀ {x : UInt64}, FP.Core.val64 x ≠ .nan → x.toNat < 2 ^ 63 → FP.Core.zval FP.Core.b64 (FP.Core.val64 x) ≤ FP.Core.zval FP.Core.b64 (FP.Core.val64 a) + FP.Core.zval FP.Core.b64 (FP.Core.val64 b) → x.toNat ≤ (FP.dadd a b).toNat := by
    intro x hx hx2 hle
    have h8 := FP.Core.zval_round_ge FP.Core.good_b64 (s := sg) (c := n) (q := e) (e0 := FP.Core.b64.qmin) (FP.Core.val64_fits x) hx (Int.le_refl _) h2 (by
      rw [h3, Int.sub_self]
      show _ * ((1 : Nat) : Int) ≤ _
      rw [Int.natCast_one, Int.mul_one]; exact hle)
    rw [← hv] at h8
    obtain ⟨m1, m2, m3⟩ := FP.Core.mono_bits hnn hx hp hx2
    have h9 := FP.Core.dcmp_zval hnn hx
    refine Nat.le_of_not_lt fun hlt => ?_
    have h10 := m1.mpr hlt
    rw [h9] at h10
    have h11 := (FP.Core.compare_lt_iff _ _).mp (Option.some.inj h10)
    omega
  exact ⟨hm, up a1 a2 (by omega), up b1 b2 (by omega)⟩
/-- the double of an account -/
def dvl (n d : Nat) : UInt64 := FP.ddiv (FP.i2d (nI n)) (FP.i2d (nI d))
theorem dvl_ok {n d : Nat} (hn : n < 2 ^ 31) (hd : d < 2 ^ 31) (hd0 : 0 < d) : (dvl n d).toNat < 1057 * 2 ^ 52 ∧ FP.Core.val64 (dvl n d) ≠ .nan ∧ (0 < n → 989 * 2 ^ 52 ≤ (dvl n d).toNat) ∧ (n = 0 → (dvl n d).toNat = 0) := by
  have h1 := i2d_lt hn
  have h2 := i2d_lt hd
  have h3 := i2d_ge hd hd0
  obtain ⟨p1, p2⟩ := div_pos' h1 (by omega) h2 (by omega) (by omega)
  have hm := FP.Core.ddiv_mag (a := FP.i2d (nI n)) (b := FP.i2d (nI d)) (K := 1056) (L := 1023) (Nat.lt_of_le_of_lt (Nat.mod_le _ _) h1) (by rw [Nat.mod_eq_of_lt (by omega)]; exact h3) (by rw [Nat.mod_eq_of_lt (by omega)]; omega) (by omega) (by omega)
  have hmm : (FP.Core.ddiv (FP.i2d (nI n)) (FP.i2d (nI d))).toNat % 2 ^ 63 = (FP.Core.ddiv (FP.i2d (nI n)) (FP.i2d (nI d))).toNat := Nat.mod_eq_of_lt p1
  rw [hmm] at hm
  refine ⟨hm, p2, fun h0 => ?_, fun h0 => ?_⟩
  · exact div_ge (i2d_ge hn h0) (by omega) h1 (by omega) h2 (by omega) (by omega) (by omega) (by omega) (by omega)
  · subst h0
    obtain ⟨c, q, d', r, hd', q1, r1, q2, r2, za, zb, hv⟩ := div_val h1 (by omega) h2 (by omega) (by omega)
    rw [i2d_0, FP.Core.unitsOf_zero] at za
    have hc : c = 0 := by
      rcases Nat.mul_eq_zero.mp za with z | z
      · exact z
      · have := Nat.two_pow_pos (q + 1074).toNat; omega
    rw [hc] at hv
    have hz : FP.Core.DZero (dvl 0 d) := by
      refine ⟨false, FP.Core.b64.qmin, ?_⟩
      show FP.Core.val64 (FP.ddiv _ _) = _
      rw [hv]
      unfold FP.Core.roundRatio
      rw [if_pos rfl]
    have := (FP.Core.zero_bits2 _).mp hz
    have p1' : (dvl 0 d).toNat < 2 ^ 63 := p1
    rw [Nat.mod_eq_of_lt p1'] at this
    exact this
def shs (nu de : Nat → Nat) : Nat → UInt64
  | 0 => FP.dconst0
  | i + 1 => FP.dadd (shs nu de i) (dvl (nu i) (de i))
theorem shs_ok {B : Nat} {nu de : Nat → Nat} (R : Rok B nu de) : ∀ i, i ≤ 6 → (shs nu de i).toNat < (1057 + 2 * i) * 2 ^ 52 ∧ ∀ a, a < i → (dvl (nu a) (de a)).toNat ≤ (shs nu de i).toNat := by
  intro i
  induction i with
  | zero => intro _; exact ⟨by show (0 : Nat) < _; omega, fun a ha => absurd ha (by omega)⟩
  | succ i ih =>
    intro hi
    obtain ⟨h1, h2⟩ := ih (by omega)
    obtain ⟨r1, r2, r3, r4⟩ := R.2.2 i (by omega)
    obtain ⟨v1, v2, v3, v4⟩ := dvl_ok (n := nu i) (d := de i) (by omega) (by omega) r2
    obtain ⟨s1, s2, s3⟩ := add_val (K := 1057 + 2 * i) h1 (Nat.lt_of_lt_of_le v1 (Nat.mul_le_mul_right _ (by omega))) (by omega)
    refine ⟨by rw [show 1057 + 2 * (i + 1) = 1057 + 2 * i + 2 by omega]; exact s1, fun a ha => ?_⟩
    by_cases e : a = i
    · subst e; exact s3
    · exact Nat.le_trans (h2 a (by omega)) s2
theorem shs_dadd_ok {B : Nat} {nu de : Nat → Nat} (R : Rok B nu de) {i : Nat} (hi : i < 6) : FP.dadd (shs nu de i) (dvl (nu i) (de i)) &&& 0x7fffffffffffffff ≤ 0x7ff0000000000000 := by
  obtain ⟨h1, -⟩ := shs_ok R (i + 1) (by omega)
  exact d_ok (d_nz (x := shs nu de (i + 1)) h1 (by omega)).1
theorem q_asDouble {c : SC} {B : Nat} {nu de : Nat → Nat} (R : Rok B nu de) (C : Cok c B nu de) {a : Nat} (h : a < 6) : f_X7_asDouble c (nI a) = some (dvl (nu a) (de a)) := by
  obtain ⟨r1, r2, r3, r4⟩ := R.2.2 a h
  obtain ⟨v1, v2, v3, v4⟩ := dvl_ok (n := nu a) (d := de a) (by omega) (by omega) r2
  have hin : ¬ (nI a < 0 ∨ 6 ≤ (nI a).toNatClampNeg) := nI_in (by omega) (by omega)
  have hin2 : ¬ (nI a < 0 ∨ 6 ≤ a) := by rw [nI_clamp (by omega)] at hin; exact hin
  have hok : FP.ddiv (FP.i2d (nI (nu a))) (FP.i2d (nI (de a))) &&& 0x7fffffffffffffff ≤ 0x7ff0000000000000 := d_ok v2
  unfold f_X7_asDouble
  rw [q_isAcc h, Option.bind_some, if_neg (by decide), if_neg hin, nI_clamp (by omega), (C.2 a h).1, (C.2 a h).2, if_neg (nI_nle r2 (by omega)), if_neg hin2, if_neg hin2, if_neg (not_not_intro hok)]
  rfl
theorem m_value {ss : Nat → Int32} {B : Nat} {nu de : Nat → Nat} (R : Rok B nu de) (M : Mok ss B nu de) {a : Nat} (h : a < 6) : f_X11_value ss (nI a) = some (dvl (nu a) (de a)) := by
  obtain ⟨r1, r2, r3, r4⟩ := R.2.2 a h
  obtain ⟨v1, v2, v3, v4⟩ := dvl_ok (n := nu a) (d := de a) (by omega) (by omega) r2
  have hok : FP.ddiv (FP.i2d (nI (nu a))) (FP.i2d (nI (de a))) &&& 0x7fffffffffffffff ≤ 0x7ff0000000000000 := d_ok v2
  unfold f_X11_value
  rw [m_up h, Option.bind_some, m_down h, Option.bind_some, (M.2 a h).1, (M.2 a h).2, if_neg (not_not_intro hok)]
  rfl
def shr (nu de : Nat → Nat) (a : Nat) : UInt64 := if (shs nu de 6).toNat = 0 then FP.dconst0 else FP.ddiv (dvl (nu a) (de a)) (shs nu de 6)
theorem cmp0 {x : UInt64} {K : Nat} (h : x.toNat < K * 2 ^ 52) (hK : K ≤ 2047) : (x.toNat = 0 → FP.dcmp x FP.dconst0 = some .eq) ∧ (0 < x.toNat → FP.dcmp x FP.dconst0 = some .gt) := by
  obtain ⟨a1, a2, -⟩ := d_nz h hK
  have z1 : FP.Core.val64 FP.dconst0 ≠ .nan := by rw [show FP.dconst0 = FP.Core.dconst0 from rfl, FP.Core.val64_dconst0]; exact FP.Core.Datum.noConfusion
  obtain ⟨m1, m2, m3⟩ := FP.Core.mono_bits a1 z1 a2 (by show (0 : Nat) < _; omega)
  exact ⟨fun q => m2.mpr (by rw [q]; rfl), fun q => m3.mpr (by show (0 : Nat) < _; exact q)⟩
theorem share_div_ok {B : Nat} {nu de : Nat → Nat} (R : Rok B nu de) {a : Nat} (h : a < 6) (h0 : 0 < (shs nu de 6).toNat) : FP.ddiv (dvl (nu a) (de a)) (shs nu de 6) &&& 0x7fffffffffffffff ≤ 0x7ff0000000000000 := by
  obtain ⟨r1, r2, r3, r4⟩ := R.2.2 a h
  obtain ⟨v1, v2, v3, v4⟩ := dvl_ok (n := nu a) (d := de a) (by omega) (by omega) r2
  obtain ⟨s1, s2⟩ := shs_ok R 6 (by omega)
  exact d_ok (div_pos' v1 (by omega) s1 (by omega) h0).2
theorem v_share_loop {c : SC} {B : Nat} {nu de : Nat → Nat} (R : Rok B nu de) (C : Cok c B nu de) {a : Nat} (ha : a < 6) : ∀ (t n i : Nat), i + t = 6 → t < n → f_X10_shareOf_b9 n c (nI a) (shs nu de i) (nI i) = some (Sum.inr (shr nu de a)) := by
  intro t
  induction t with
  | zero =>
    intro n i h hn
    obtain ⟨n, rfl⟩ : ∃ m, n = m + 1 := ⟨n - 1, by omega⟩
    have hi : i = 6 := by omega
    subst hi
    obtain ⟨s1, s2⟩ := shs_ok R 6 (by omega)
    obtain ⟨c1, c2⟩ := cmp0 s1 (by omega)
    show (if (6 : Int32) ≤ nI 6 then (if (Op.cmpValue (FP.dcmp (shs nu de 6) FP.dconst0) CmpOp.l) ≤ 0 then _ else ((f_X7_asDouble c (nI a)).bind _)) else _) = _
    rw [if_pos (by decide)]
    unfold shr
    by_cases z : (shs nu de 6).toNat = 0
    · rw [c1 z, if_pos z, if_pos (by decide)]
    · have hz : 0 < (shs nu de 6).toNat := by omega
      rw [c2 hz, if_neg z, if_neg (by decide), q_asDouble R C ha, Option.bind_some, if_neg (not_not_intro (share_div_ok R ha hz))]
  | succ t ih =>
    intro n i h hn
    obtain ⟨n, rfl⟩ : ∃ m, n = m + 1 := ⟨n - 1, by omega⟩
    show (if (6 : Int32) ≤ nI i then _ else ((f_X7_asDouble c (nI i)).bind fun v23 => (if ¬ ((FP.dadd (shs nu de i) v23) &&& 0x7fffffffffffffff ≤ 0x7ff0000000000000) then none else f_X10_shareOf_b9 n c (nI a) (FP.dadd (shs nu de i) v23) (nI i + 1)))) = _
    rw [if_neg (fun q => by have := (nI_leI (a := 6) (by decide) (by omega)).mp q; omega), q_asDouble R C (by omega), Option.bind_some, if_neg (not_not_intro (shs_dadd_ok R (by omega))), nI_1]
    exact ih n (i + 1) (by omega) (by omega)
theorem v_shareOf {c : SC} {B : Nat} {nu de : Nat → Nat} (R : Rok B nu de) (C : Cok c B nu de) {a : Nat} (ha : a < 6) : f_X10_shareOf c (nI a) = some (Sum.inr (shr nu de a)) := by
  unfold f_X10_shareOf
  rw [q_req ha, Option.bind_some, Sum.elim_inr]
  exact v_share_loop R C ha 6 xfuel 0 (by omega) (by decide)
theorem m_share_loop {ss : Nat → Int32} {B : Nat} {nu de : Nat → Nat} (R : Rok B nu de) (M : Mok ss B nu de) {a : Nat} (ha : a < 6) : ∀ (t n i : Nat), i + t = 6 → t < n → f_X11_share_b5 n ss (nI a) (shs nu de i) (nI i) = some (shr nu de a) := by
  intro t
  induction t with
  | zero =>
    intro n i h hn
    obtain ⟨n, rfl⟩ : ∃ m, n = m + 1 := ⟨n - 1, by omega⟩
    have hi : i = 6 := by omega
    subst hi
    obtain ⟨s1, s2⟩ := shs_ok R 6 (by omega)
    obtain ⟨c1, c2⟩ := cmp0 s1 (by omega)
    show (if (6 : Int32) ≤ nI 6 then (if (Op.cmpValue (FP.dcmp (shs nu de 6) FP.dconst0) CmpOp.l) = 0 then _ else ((f_X11_value ss (nI a)).bind _)) else _) = _
    rw [if_pos (by decide)]
    unfold shr
    by_cases z : (shs nu de 6).toNat = 0
    · rw [c1 z, if_pos z, if_pos (by decide)]
    · have hz : 0 < (shs nu de 6).toNat := by omega
      rw [c2 hz, if_neg z, if_neg (by decide), m_value R M ha, Option.bind_some, if_neg (not_not_intro (share_div_ok R ha hz))]
  | succ t ih =>
    intro n i h hn
    obtain ⟨n, rfl⟩ : ∃ m, n = m + 1 := ⟨n - 1, by omega⟩
    show (if (6 : Int32) ≤ nI i then _ else ((f_X11_value ss (nI i)).bind fun v16 => (if ¬ ((FP.dadd (shs nu de i) v16) &&& 0x7fffffffffffffff ≤ 0x7ff0000000000000) then none else f_X11_share_b5 n ss (nI a) (FP.dadd (shs nu de i) v16) (nI i + 1)))) = _
    rw [if_neg (fun q => by have := (nI_leI (a := 6) (by decide) (by omega)).mp q; omega), m_value R M (by omega), Option.bind_some, if_neg (not_not_intro (shs_dadd_ok R (by omega))), nI_1]
    exact ih n (i + 1) (by omega) (by omega)
theorem m_share {ss : Nat → Int32} {B : Nat} {nu de : Nat → Nat} (R : Rok B nu de) (M : Mok ss B nu de) {a : Nat} (ha : a < 6) : f_X11_share ss (nI a) = some (shr nu de a) := by
  unfold f_X11_share
  exact m_share_loop R M ha 6 xfuel 0 (by omega) (by decide)
theorem shr_nn {B : Nat} {nu de : Nat → Nat} (R : Rok B nu de) {a : Nat} (ha : a < 6) : (shr nu de a).toNat ≤ 1023 * 2 ^ 52 ∧ ((shr nu de a).toNat = 0 ∨ 942 * 2 ^ 52 ≤ (shr nu de a).toNat) := by
  obtain ⟨r1, r2, r3, r4⟩ := R.2.2 a ha
  obtain ⟨v1, v2, v3, v4⟩ := dvl_ok (n := nu a) (d := de a) (by omega) (by omega) r2
  obtain ⟨s1, s2⟩ := shs_ok R 6 (by omega)
  unfold shr
  by_cases z : (shs nu de 6).toNat = 0
  · rw [if_pos z]; exact ⟨by show (0 : Nat) ≤ _; omega, Or.inl rfl⟩
  · rw [if_neg z]
    have hz : 0 < (shs nu de 6).toNat := by omega
    refine ⟨div_le1 s1 (by omega) hz (s2 a ha), ?_⟩
    by_cases n0 : nu a = 0
    · left
      have h0 := v4 n0
      obtain ⟨c, q, d', r, hd', q1, r1, q2, r2, za, zb, hv⟩ := div_val v1 (by omega) s1 (by omega) hz
      rw [h0, FP.Core.unitsOf_zero] at za
      have hc : c = 0 := by
        rcases Nat.mul_eq_zero.mp za with z | z
        · exact z
        · have := Nat.two_pow_pos (q + 1074).toNat; omega
      rw [hc] at hv
      have hdz : FP.Core.DZero (FP.ddiv (dvl (nu a) (de a)) (shs nu de 6)) := by
        refine ⟨false, FP.Core.b64.qmin, ?_⟩
        rw [hv]
        unfold FP.Core.roundRatio
        rw [if_pos rfl]
      have h9 := (FP.Core.zero_bits2 _).mp hdz
      rw [Nat.mod_eq_of_lt (d_pos_of hv)] at h9
      exact h9
    · right
      exact div_ge (v3 (by omega)) (by omega) v1 (by omega) s1 (by omega) hz (by omega) (by omega) (by omega)
theorem shr_val {B : Nat} {nu de : Nat → Nat} (R : Rok B nu de) {a : Nat} (ha : a < 6) : FP.Core.val64 (shr nu de a) ≠ .nan := (d_nz (K := 1024) (by have := (shr_nn R ha).1; omega) (by omega)).1
theorem op_shareOf {now : SC} {ss : Nat → Int32} (S : Sh now ss) (ard : Nat → UInt64) (th x : Int32) : ∃ P Q, f_L_shareOf now ard x = some P ∧ f_X11_shareOf th ss x = some Q ∧ Q.2 = P.1 ∧ (P.1 = 0 → Op.cmpValue (FP.dcmp (P.2 0) Q.1) CmpOp.l = 0) := by
  obtain ⟨B, nu, de, R, C, M, T⟩ := S
  rcases acc_cases x with ⟨a, ha, rfl, h1, h2⟩ | ⟨h1, h2⟩
  · have e1 : f_L_shareOf now ard (nI a) = some (0, vf_upd ard 0 (shr nu de a)) := by
      unfold f_L_shareOf
      rw [v_shareOf R C ha]
      rfl
    have e2 : f_X11_shareOf th ss (nI a) = some (shr nu de a, 0) := by
      unfold f_X11_shareOf
      rw [h2, Option.bind_some, if_neg n1, m_share R M ha]
      rfl
    refine ⟨_, _, e1, e2, rfl, fun _ => ?_⟩
    show Op.cmpValue (FP.dcmp (vf_upd ard 0 (shr nu de a) 0) (shr nu de a)) CmpOp.l = 0
    have e3 : vf_upd ard 0 (shr nu de a) 0 = shr nu de a := if_pos rfl
    have e4 : FP.dcmp (shr nu de a) (shr nu de a) = some .eq := FP.Core.dcmp_self (shr_val R ha)
    rw [e3, e4]
    decide
  · have e1 : f_L_shareOf now ard x = some (1, ard) := by
      unfold f_L_shareOf f_X10_shareOf
      rw [h1]
      rfl
    have e2 : ∃ w, f_X11_shareOf th ss x = some (w, 1) := by
      unfold f_X11_shareOf
      rw [h2]
      exact ⟨_, rfl⟩
    obtain ⟨w, e2⟩ := e2
    exact ⟨_, _, e1, e2, rfl, fun q => absurd q n1⟩
