/-! The bits of a share, built by arithmetic. -/
def bt (E t : Nat) : UInt64 := UInt64.ofNat (E * 2 ^ 52 + t)
theorem bt_nat {E t : Nat} (hE : E ≤ 2046) (ht : t < 2 ^ 52) : (bt E t).toNat = E * 2 ^ 52 + t :=
  UInt64.toNat_ofNat_of_lt' (by show E * 2 ^ 52 + t < 2 ^ 64; omega)
theorem bt_val {E t : Nat} (hE0 : 1 ≤ E) (hE : E ≤ 2046) (ht : t < 2 ^ 52) : FP.Core.val64 (bt E t) = .fin false (2 ^ 52 + t) ((E : Int) - 1075) := by
  have h := FP.Core.decode_assemble FP.Core.b64 false E t (by show E < 2 ^ 11; omega) (by rw [FP.Core.tails_b64]; exact ht)
  have e : FP.Core.assemble FP.Core.b64 false E t = (bt E t).toNat := by
    rw [bt_nat hE ht]
    show (0 * 2 ^ 11 + E) * 2 ^ 52 + t = _
    rw [Nat.zero_mul, Nat.zero_add]
  rw [e] at h
  show FP.Core.decode FP.Core.b64 (bt E t).toNat = _
  rw [h, FP.Core.exps_b64, if_neg (by omega), if_neg (by omega), FP.Core.qmin_b64, FP.Core.tails_b64]
  congr 1
  omega
theorem bt_nn {E t : Nat} (hE0 : 1 ≤ E) (hE : E ≤ 2046) (ht : t < 2 ^ 52) : FP.Core.val64 (bt E t) ≠ .nan := by
  rw [bt_val hE0 hE ht]; exact FP.Core.Datum.noConfusion
theorem val_two : FP.Core.val64 4611686018427387904 = .fin false (2 ^ 52) (-51) := by decide +kernel
theorem val_52 : FP.Core.val64 4841369599423283200 = .fin false (2 ^ 52) 0 := by decide +kernel
theorem bt_dbl {E t : Nat} (hE0 : 1 ≤ E) (hE : E ≤ 2045) (ht : t < 2 ^ 52) : FP.dmul (bt E t) 4611686018427387904 = bt (E + 1) t := by
  have hv : FP.Core.val64 (FP.Core.dmul (bt E t) 4611686018427387904) = .fin false (2 ^ 52 + t) (((E + 1 : Nat) : Int) - 1075) := by
    rw [FP.Core.val64_dmul, bt_val hE0 (by omega) ht, val_two]
    show FP.Core.roundRatio FP.Core.b64 false ((2 ^ 52 + t) * 2 ^ 52) 1 ((E : Int) - 1075 + -51) = _
    refine FP.Core.roundRatio_exact FP.Core.good_b64 (by decide) ⟨by show 2 ^ 52 + t < 2 ^ 53; omega, by rw [FP.Core.qmin_b64]; omega, by rw [show FP.Core.b64.qmax = 971 by decide]; omega, Or.inr (by rw [FP.Core.tails_b64]; omega)⟩ ?_
    rw [show ((E : Int) - 1075 + -51 - (((E + 1 : Nat) : Int) - 1075)).toNat = 0 by omega, show ((((E + 1 : Nat) : Int) - 1075) - ((E : Int) - 1075 + -51)).toNat = 52 by omega, Nat.pow_zero, Nat.mul_one, Nat.mul_one]
  refine FP.Core.val64_inj ?_ ?_
  · show FP.Core.val64 (FP.Core.dmul (bt E t) 4611686018427387904) ≠ _
    rw [hv]; exact FP.Core.Datum.noConfusion
  · show FP.Core.val64 (FP.Core.dmul (bt E t) 4611686018427387904) = _
    rw [hv, bt_val (by omega) (by omega) ht]
theorem bt_one : FP.dconst1 = bt 1023 0 := by decide +kernel
theorem bt_cmp {E t : Nat} (hE0 : 1 ≤ E) (hE : E ≤ 1023) (ht : t < 2 ^ 52) : (E < 1023 → ¬ 0 ≤ Op.cmpValue (FP.dcmp (bt E t) FP.dconst1) CmpOp.g) ∧ (E = 1023 → 0 ≤ Op.cmpValue (FP.dcmp (bt E t) FP.dconst1) CmpOp.g) := by
  have h1 := bt_nat (E := E) (t := t) (by omega) ht
  have h2 := bt_nat (E := 1023) (t := 0) (by omega) (by omega)
  obtain ⟨m1, m2, m3⟩ := FP.Core.mono_bits (bt_nn hE0 (by omega) ht) (bt_nn (E := 1023) (t := 0) (by omega) (by omega) (by omega)) (by omega) (by omega)
  rw [bt_one]
  refine ⟨fun q => ?_, fun q => ?_⟩
  · have e : FP.dcmp (bt E t) (bt 1023 0) = some .lt := m1.mpr (by omega)
    rw [e]; decide
  · by_cases z : t = 0
    · have e : FP.dcmp (bt E t) (bt 1023 0) = some .eq := m2.mpr (by rw [h1, h2, q, z])
      rw [e]; decide
    · have e : FP.dcmp (bt E t) (bt 1023 0) = some .gt := m3.mpr (by omega)
      rw [e]; decide
theorem bits_loop {E t : Nat} (hE0 : 1 ≤ E) (hE : E ≤ 1023) (ht : t < 2 ^ 52) : ∀ (m n k : Nat), E + k + m = 1023 → m < n → f_X10_bitsOf_b18 n (bt (E + k) t) (lN (1023 - k)) (nI k) = f_X10_bitsOf_b50 (bt 1023 t) (lN E) := by
  intro m
  induction m with
  | zero =>
    intro n k h hn
    obtain ⟨n, rfl⟩ : ∃ m, n = m + 1 := ⟨n - 1, by omega⟩
    have hk : E + k = 1023 := by omega
    show (if 0 ≤ (Op.cmpValue (FP.dcmp (bt (E + k) t) FP.dconst1) CmpOp.g) then f_X10_bitsOf_b50 (bt (E + k) t) (lN (1023 - k)) else _) = _
    rw [hk, if_pos ((bt_cmp (by omega) (by omega) ht).2 rfl), show 1023 - k = E by omega]
  | succ m ih =>
    intro n k h hn
    obtain ⟨n, rfl⟩ : ∃ m, n = m + 1 := ⟨n - 1, by omega⟩
    show (if 0 ≤ (Op.cmpValue (FP.dcmp (bt (E + k) t) FP.dconst1) CmpOp.g) then _ else (if (1022 : Int32) ≤ nI k then _ else (if ¬ ((FP.dmul (bt (E + k) t) 4611686018427387904) &&& 0x7fffffffffffffff ≤ 0x7ff0000000000000) then none else f_X10_bitsOf_b18 n (FP.dmul (bt (E + k) t) 4611686018427387904) (lN (1023 - k) - 1) (nI k + 1)))) = _
    rw [if_neg ((bt_cmp (by omega) (by omega) ht).1 (by omega)), if_neg (fun q => by have := (nI_leI (a := 1022) (by decide) (by omega)).mp q; omega), bt_dbl (by omega) (by omega) ht, if_neg (not_not_intro (d_ok (bt_nn (by omega) (by omega) ht))), nI_1, show lN (1023 - k) - 1 = lN (1023 - k - 1) from lN_sub (b := 1) (by omega), show 1023 - k - 1 = 1023 - (k + 1) by omega]
    exact ih n (k + 1) (by omega) (by omega)
theorem shl52 {E : Nat} (h : E ≤ 1023) : lN E <<< ((52 : Int32).toInt64 &&& 63) = lN (E * 2 ^ 52) := by
  have k : ∀ e : Fin 1024, lN e.val <<< ((52 : Int32).toInt64 &&& 63) = lN (e.val * 2 ^ 52) := by decide +kernel
  exact k ⟨E, by omega⟩
/-- a number of less than 53 digits, with its digits behind the point, is a double -/
theorem frac_fit {t : Nat} (ht : t < 2 ^ 52) (ht0 : 0 < t) : ∃ c q, FP.Core.fits FP.Core.b64 (.fin false c q) ∧ q < -52 ∧ t * 2 ^ (-52 - q).toNat = c := by
  obtain ⟨c, q, h1, h2⟩ := FP.Core.natFit FP.Core.good_b64 FP.Core.wide_b64 false (n := t) (by show t ≤ 2 ^ 53; omega)
  obtain ⟨f1, f2, f3, f4⟩ := h1
  rw [FP.Core.qmin_b64] at f2 f4
  rw [FP.Core.tails_b64] at f4
  have f1 : c < 2 ^ 53 := f1
  rw [Nat.mul_one] at h2
  have hq : q < 0 := by
    refine Int.lt_of_not_ge fun hge => ?_
    rw [show (0 - q).toNat = 0 by omega, Nat.pow_zero, Nat.mul_one] at h2
    have : c ≤ t := by rw [h2]; exact Nat.le_mul_of_pos_right _ (Nat.two_pow_pos _)
    rcases f4 with z | z
    · omega
    · omega
  rw [show (q - 0).toNat = 0 by omega, Nat.pow_zero, Nat.mul_one] at h2
  have hq2 : -53 < q := by
    refine Int.lt_of_not_ge fun hge => ?_
    have : 2 ^ 53 ≤ 2 ^ (0 - q).toNat := Nat.pow_le_pow_right (by decide) (by omega)
    have := Nat.le_trans this (Nat.le_mul_of_pos_left (2 ^ (0 - q).toNat) ht0)
    omega
  refine ⟨c, q - 52, ⟨f1, by rw [FP.Core.qmin_b64]; omega, by rw [show FP.Core.b64.qmax = 971 by decide]; omega, Or.inr ?_⟩, by omega, ?_⟩
  · rw [FP.Core.tails_b64]
    rcases f4 with z | z
    · omega
    · exact z
  · rw [show (-52 - (q - 52)) = 0 - q by omega]; exact h2
theorem bits_end {E t : Nat} (hE : E ≤ 1023) (ht : t < 2 ^ 52) : f_X10_bitsOf_b50 (bt 1023 t) (lN E) = some (lN (E * 2 ^ 52 + t)) := by
  have hd : FP.Core.val64 (FP.Core.dsub (bt 1023 t) FP.dconst1) = FP.Core.roundRatio FP.Core.b64 false t 1 (-52) := by
    rw [FP.Core.val64_dsub, bt_val (by omega) (by omega) ht, show FP.dconst1 = FP.Core.dconst1 from rfl, FP.Core.val64_dconst1]
    show FP.Core.round FP.Core.b64 (FP.Core.exactSum (.fin false (2 ^ 52 + t) (-52)) (.fin true (2 ^ 52) (-52))) = _
    have hu : FP.Core.sumUnits false (2 ^ 52 + t) (-52) true (2 ^ 52) (-52) (min (-52) (-52)) = (t : Int) := by
      show ((2 ^ 52 + t) * 2 ^ ((-52 : Int) - min (-52) (-52)).toNat : Nat) + -((2 ^ 52 * 2 ^ ((-52 : Int) - min (-52) (-52)).toNat : Nat) : Int) = (t : Int)
      rw [show ((-52 : Int) - min (-52) (-52)).toNat = 0 by decide, Nat.pow_zero, Nat.mul_one, Nat.mul_one]
      omega
    show FP.Core.round FP.Core.b64 (.fin (FP.Core.sumSign false true (FP.Core.sumUnits false (2 ^ 52 + t) (-52) true (2 ^ 52) (-52) (min (-52) (-52)))) (FP.Core.sumUnits false (2 ^ 52 + t) (-52) true (2 ^ 52) (-52) (min (-52) (-52))).natAbs (min (-52) (-52))) = _
    rw [hu]
    have hs : FP.Core.sumSign false true (t : Int) = false := by
      unfold FP.Core.sumSign
      split
      · rfl
      · exact decide_eq_false (by omega)
    rw [hs, Int.natAbs_natCast]
    rfl
  have hw : FP.Core.val64 (FP.Core.dsub (bt 1023 t) FP.dconst1) ≠ .nan := by rw [hd]; exact FP.Core.roundRatio_ne_nan _ _ _ _ _
  have hp : FP.Core.Whole (t : Int) (FP.Core.val64 (FP.Core.dmul (FP.Core.dsub (bt 1023 t) FP.dconst1) 4841369599423283200)) := by
    rw [FP.Core.val64_dmul, val_52, hd]
    refine FP.Core.whole_round FP.Core.good_b64 FP.Core.wide_b64 (by show (t : Int).natAbs ≤ 2 ^ 53; omega) ?_
    by_cases z : t = 0
    · subst z
      unfold FP.Core.roundRatio
      rw [if_pos rfl]
      show FP.Core.signed false (0 * 2 ^ 52 * 2 ^ (FP.Core.b64.qmin + 0).toNat) = (0 : Int) * _
      rw [Nat.zero_mul, Int.zero_mul]
      rfl
    · obtain ⟨c, q, f1, f2, f3⟩ := frac_fit ht (by omega)
      rw [FP.Core.roundRatio_exact FP.Core.good_b64 (c := c) (q := q) (by decide) f1 (by
        rw [show (q - -52).toNat = 0 by omega, Nat.pow_zero, Nat.mul_one, Nat.mul_one]
        exact f3)]
      show ((c * 2 ^ 52 * 2 ^ (q + 0).toNat : Nat) : Int) = (t : Int) * ((2 ^ (-(q + 0)).toNat : Nat) : Int)
      rw [Int.add_zero, show q.toNat = 0 by omega, Nat.pow_zero, Nat.mul_one, ← f3, ← Int.natCast_mul, Nat.mul_assoc, ← Nat.pow_add]
      congr 3
      omega
  have hp2 : FP.Core.val64 (FP.Core.dmul (FP.Core.dsub (bt 1023 t) FP.dconst1) 4841369599423283200) ≠ .nan := FP.Core.DInt_ne_nan hp
  have hl : FP.d2l (FP.dmul (FP.dsub (bt 1023 t) FP.dconst1) 4841369599423283200) = lN t := by
    refine FP.Core.d2l_int (a := lN t) ?_
    rw [pk_lT (by omega)]
    exact hp
  unfold f_X10_bitsOf_b50
  rw [if_neg (not_not_intro (d_ok hw)), if_neg (not_not_intro (d_ok hp2)), hl, shl52 hE, lN_add]
theorem bits_ok {x : UInt64} (h : x.toNat = 0 ∨ (2 ^ 52 ≤ x.toNat ∧ x.toNat < 1024 * 2 ^ 52)) : f_X10_bitsOf x = some x.toInt64 ∧ f_Jxe99ae_doubleToLongBits_ccdee x = some x.toInt64 := by
  have hlt : x.toNat < 1024 * 2 ^ 52 := by omega
  obtain ⟨a1, a2, -⟩ := d_nz hlt (by omega)
  obtain ⟨c1, c2⟩ := cmp0 hlt (by omega)
  refine ⟨?_, ?_⟩
  · unfold f_X10_bitsOf
    rcases h with h | ⟨h1, h2⟩
    · rw [c1 h, if_neg (by decide)]
      have hx : x = 0 := UInt64.toNat.inj h
      rw [hx]; rfl
    · rw [c2 (by omega), if_pos (by decide)]
      have hE : x.toNat / 2 ^ 52 < 1024 := (Nat.div_lt_iff_lt_mul (by decide)).mpr h2
      have hE0 : 1 ≤ x.toNat / 2 ^ 52 := (Nat.le_div_iff_mul_le (by decide)).mpr (by omega)
      have ht : x.toNat % 2 ^ 52 < 2 ^ 52 := Nat.mod_lt _ (by decide)
      have hdm := Nat.div_add_mod x.toNat (2 ^ 52)
      generalize x.toNat / 2 ^ 52 = E at *
      generalize x.toNat % 2 ^ 52 = t at *
      have hx : x = bt E t := UInt64.toNat.inj (by rw [bt_nat (by omega) ht]; omega)
      have hl := bits_loop hE0 (by omega) ht (1023 - E) xfuel 0 (by omega) (by unfold xfuel; omega)
      rw [hx]
      refine Eq.trans hl ?_
      rw [bits_end (by omega) ht]
      rfl
  · unfold f_Jxe99ae_doubleToLongBits_ccdee f_Jxe99ae_isNaN_b9ae7
    have e : FP.dcmp x x = some .eq := FP.Core.dcmp_self a1
    rw [e, if_pos (by decide), Option.bind_some, if_pos rfl]
theorem bits_share {B : Nat} {nu de : Nat → Nat} (R : Rok B nu de) {a : Nat} (ha : a < 6) : f_X10_bitsOf (shr nu de a) = some (shr nu de a).toInt64 ∧ f_Jxe99ae_doubleToLongBits_ccdee (shr nu de a) = some (shr nu de a).toInt64 := by
  obtain ⟨h1, h2⟩ := shr_nn R ha
  refine bits_ok ?_
  rcases h2 with h2 | h2
  · exact Or.inl h2
  · exact Or.inr ⟨by omega, by omega⟩
