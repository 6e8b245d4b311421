/-! What p48's law asks of digits, periods, carries, orders. Drafts: they stand over 00a.defs and the mathematics of whole (40b..40u). -/
theorem prd_lt {B d : Nat} (hB : 1 < B) (hB2 : B < 17) (hd : 0 < d) (hd2 : d ≤ 999) : prd B d < d := by
  obtain ⟨g1, g2, g3⟩ := hcop_ok (B := B) (by omega) 10 d hd (by omega)
  rcases (prd_ok hB hB2 hd hd2).2.1 with ⟨h1, h2⟩ | ⟨h1, h2⟩
  · omega
  · obtain ⟨k, k1, k2⟩ := ord_least (B := B) (r := hcop B 10 d) (by omega) h1 (by rw [Nat.gcd_comm]; exact g1)
    have := isOrd_one h2 k1
    omega
/-- the rests behind the head come again -/
theorem rest_per {B x d : Nat} (hB : 1 < B) (hB2 : B < 17) (hd : 0 < d) (hd2 : d ≤ 999) (hx : Nat.gcd x d = 1) (j : Nat) : x * B ^ (hlen B 10 d + j + prd B d) % d = x * B ^ (hlen B 10 d + j) % d := by
  have base : x * B ^ (hlen B 10 d + prd B d) % d = x * B ^ hlen B 10 d % d := by
    rcases (prd_ok hB hB2 hd hd2).2.1 with ⟨h1, h2⟩ | ⟨h1, h2⟩
    · rw [h2, Nat.add_zero]
    · obtain ⟨e, y, e1, e2, e3, e4, e5⟩ := first_rest (B := B) (d := d) (t := 10) (x := x) (by omega) hd (by omega) hx
      have hb := (back_iff (B := B) (k := prd B d) (by omega) e2 h1 e4 e5).mpr h2.2.1
      rw [Nat.pow_add, ← Nat.mul_assoc, Nat.mul_mod, e3]
      rw [← e1] at hb
      have hlt : e * y < d := by
        rw [e1]; exact Nat.mul_lt_mul_of_pos_left e4 e2
      rw [Nat.mul_mod_mod]
      exact hb
  have step : ∀ y z : Nat, y % d = z % d → y * B ^ j % d = z * B ^ j % d := fun y z h => by rw [Nat.mul_mod y, h, ← Nat.mul_mod]
  have h1 := step _ _ base
  rw [Nat.mul_assoc, ← Nat.pow_add, Nat.mul_assoc, ← Nat.pow_add] at h1
  rw [show hlen B 10 d + j + prd B d = hlen B 10 d + prd B d + j by omega]
  exact h1
theorem bdg_per {B x d : Nat} (hB : 1 < B) (hB2 : B < 17) (hd : 0 < d) (hd2 : d ≤ 999) (hx : Nat.gcd x d = 1) (j : Nat) : bdg B x d (hlen B 10 d + j) = bdg B x d (hlen B 10 d + j + prd B d) := by
  unfold bdg
  rw [rest_per hB hB2 hd hd2 hx j]
theorem chain_ok {B u v : Nat} : ∀ i, chn B u v i ≤ cct B u v i ∧ cmx B u v i ≤ cct B u v i ∧ (cct B u v i = 0 ∨ 0 < cmx B u v i) := by
  intro i
  induction i with
  | zero => exact ⟨Nat.le_refl _, Nat.le_refl _, Or.inl rfl⟩
  | succ i ih =>
    obtain ⟨h1, h2, h3⟩ := ih
    have e1 : cct B u v (i + 1) = cct B u v i + cy B u v (i + 1) := rfl
    have e4 : cmx B u v (i + 1) = (if cmx B u v i < chn B u v (i + 1) then chn B u v (i + 1) else cmx B u v i) := rfl
    by_cases c : dgt B u i + dgt B v i + cy B u v i < B
    · have e2 : cy B u v (i + 1) = 0 := if_pos c
      have e3 : chn B u v (i + 1) = 0 := if_pos c
      rw [e3, if_neg (Nat.not_lt_zero _)] at e4
      rw [e1, e2, e3, e4, Nat.add_zero]
      exact ⟨Nat.zero_le _, h2, h3⟩
    · have e2 : cy B u v (i + 1) = 1 := if_neg c
      have e3 : chn B u v (i + 1) = chn B u v i + 1 := if_neg c
      rw [e1, e2, e3]
      rw [e3] at e4
      by_cases q : cmx B u v i < chn B u v i + 1
      · rw [if_pos q] at e4
        rw [e4]
        exact ⟨by omega, by omega, Or.inr (by omega)⟩
      · rw [if_neg q] at e4
        rw [e4]
        exact ⟨by omega, by omega, Or.inr (by omega)⟩
theorem odr_anti (nu de : Nat → Nat) (a b : Nat) : odr nu de a b = -odr nu de b a := by
  unfold odr
  by_cases h1 : nu a * de b < nu b * de a
  · rw [if_pos h1, if_neg (by omega), if_pos h1]
  · rw [if_neg h1]
    by_cases h2 : nu b * de a < nu a * de b
    · rw [if_pos h2, if_pos h2]; decide
    · rw [if_neg h2, if_neg h2, if_neg h1]; decide
theorem odr_ge (nu de : Nat → Nat) (a b : Nat) : 0 ≤ odr nu de a b ↔ nu b * de a ≤ nu a * de b := by
  unfold odr
  by_cases h1 : nu a * de b < nu b * de a
  · rw [if_pos h1]
    exact ⟨fun h => absurd h (by decide), fun h => absurd h (by omega)⟩
  · rw [if_neg h1]
    by_cases h2 : nu b * de a < nu a * de b
    · rw [if_pos h2]; exact ⟨fun _ => by omega, fun _ => by decide⟩
    · rw [if_neg h2]; exact ⟨fun _ => by omega, fun _ => by decide⟩
theorem odr_le (nu de : Nat → Nat) (a b : Nat) : odr nu de a b ≤ 0 ↔ nu a * de b ≤ nu b * de a := by
  unfold odr
  by_cases h1 : nu a * de b < nu b * de a
  · rw [if_pos h1]; exact ⟨fun _ => by omega, fun _ => by decide⟩
  · rw [if_neg h1]
    by_cases h2 : nu b * de a < nu a * de b
    · rw [if_pos h2]
      exact ⟨fun h => absurd h (by decide), fun h => absurd h (by omega)⟩
    · rw [if_neg h2]; exact ⟨fun _ => by omega, fun _ => by decide⟩
theorem ge_trans' {na da nb db nc dc : Nat} (hb : 0 < db) (h1 : nb * da ≤ na * db) (h2 : nc * db ≤ nb * dc) : nc * da ≤ na * dc := by
  refine Nat.le_of_mul_le_mul_right ?_ hb
  calc nc * da * db = nc * db * da := Nat.mul_right_comm _ _ _
    _ ≤ nb * dc * da := Nat.mul_le_mul_right _ h2
    _ = nb * da * dc := Nat.mul_right_comm _ _ _
    _ ≤ na * db * dc := Nat.mul_le_mul_right _ h1
    _ = na * dc * db := Nat.mul_right_comm _ _ _
theorem rch_max {B : Nat} {nu de : Nat → Nat} (R : Rok B nu de) : ∀ i, i ≤ 5 → ∀ a, a ≤ i → nu a * de (rch nu de i) ≤ nu (rch nu de i) * de a := by
  intro i
  induction i with
  | zero => intro _ a ha; rw [show a = 0 by omega]; exact Nat.le_refl _
  | succ i ih =>
    intro hi a ha
    have hle := rch_le (nu := nu) (de := de) i
    have hr := R.2.2 (rch nu de i) (by omega)
    have e : rch nu de (i + 1) = (if odr nu de (i + 1) (rch nu de i) ≤ 0 then rch nu de i else i + 1) := rfl
    by_cases g : odr nu de (i + 1) (rch nu de i) ≤ 0
    · rw [if_pos g] at e
      rw [e]
      by_cases q : a = i + 1
      · rw [q]; exact (odr_le _ _ _ _).mp g
      · exact ih (by omega) a (by omega)
    · rw [if_neg g] at e
      rw [e]
      by_cases q : a = i + 1
      · rw [q]; exact Nat.le_refl _
      · have h1 := ih (by omega) a (by omega)
        have h2 : nu (rch nu de i) * de (i + 1) ≤ nu (i + 1) * de (rch nu de i) := by
          rcases Nat.lt_or_ge (nu (i + 1) * de (rch nu de i)) (nu (rch nu de i) * de (i + 1)) with w | w
          · exact absurd ((odr_le _ _ _ _).mpr (Nat.le_of_lt w)) g
          · exact w
        exact ge_trans' hr.2.1 h2 h1
/-- the digits of a number, read again in their own base -/
theorem read_own_loop {c : SC} {B w : Nat} (hc : c.1 = nI B) (hB : 1 < B) (hB2 : B < 17) (hw : w < 2 ^ 30) : ∀ (k n : Nat), k ≤ 30 → k < n → f_X10_readIn_b35 n c (nI B) (nI w) (lN (w / B ^ k)) (nI k + (-1)) = some (Sum.inr (lN w)) := by
  intro k
  induction k with
  | zero =>
    intro n hk hn
    obtain ⟨n, rfl⟩ : ∃ q, n = q + 1 := ⟨n - 1, by omega⟩
    unfold f_X10_readIn_b35
    rw [if_pos (show nI 0 + (-1) < 0 by decide), Nat.pow_zero, Nat.div_one]
  | succ k ih =>
    intro n hk hn
    obtain ⟨n, rfl⟩ : ∃ q, n = q + 1 := ⟨n - 1, by omega⟩
    have hd := dgt_lt (w := w) (k := k) hB
    have hq : f_X9_byDividing (nI w) (nI B) (nI k) = some (nI (dgt B w k)) := q_byDiv (w := w) (k := k) hB hB2 hw (by omega)
    have hle : w / B ^ k ≤ w := Nat.div_le_self _ _
    have hs : w / B ^ (k + 1) * B + dgt B w k = w / B ^ k := by
      rw [← pow_div, Nat.mul_comm]
      exact Nat.div_add_mod _ _
    rw [pk_m1]
    unfold f_X10_readIn_b35
    rw [if_neg (nI_pos (by omega)), hc, hq, Option.bind_some, if_neg (fun q => by have := (nI_leI (by omega) (by omega)).mp q; omega), nI_l (by omega), nI_l (by omega), lN_mul, lN_add, hs, if_neg (show ¬ (999999999999999 : Int64) < lN (w / B ^ k) from fun q => by have := (pk_lLT (a := 999999999999999) (by omega) (by omega)).mp q; omega)]
    exact ih n (by omega) (by omega)
theorem v_readOwn {c : SC} {B : Nat} {nu de : Nat → Nat} (R : Rok B nu de) (C : Cok c B nu de) {a : Nat} (h : a < 6) : f_X10_readIn c (nI a) (nI B) = some (Sum.inr (lN (whl nu de a))) := by
  have hB := R.1
  have hB2 := R.2.1
  have hw := (R.wh h).1
  have hN := dcn_le B (whl nu de a)
  have b1 : ¬ nI B < 2 := fun q => by have := (c_lt (b := 2) (by omega) (by decide)).mp q; omega
  have b2 : nI B ≤ 16 := (nI_leI (b := 16) (by omega) (by decide)).mpr (by omega)
  have hb : f_X10_requireBase (nI B) = some (Sum.inr ()) := by simp only [f_X10_requireBase, b1, b2, if_true, if_false]
  have es : nI (dcn B (whl nu de a)) - 1 = nI (dcn B (whl nu de a)) + (-1) := Int32.sub_eq_add_neg _ _
  have e := read_own_loop C.1 hB hB2 hw (dcn B (whl nu de a)) xfuel hN (by unfold xfuel; omega)
  rw [Nat.div_eq_of_lt (dcn_high hB hw)] at e
  unfold f_X10_readIn
  rw [q_req h, Option.bind_some, Sum.elim_inr, hb, Option.bind_some, Sum.elim_inr, q_wh R C h, Option.bind_some, C.1, q_count hB hB2 hw, Option.bind_some, es]
  exact e
theorem cmp1 {x : UInt64} (h : x.toNat ≤ 1023 * 2 ^ 52) : FP.dcmp x FP.dconst1 = some .eq ∨ FP.dcmp x FP.dconst1 = some .lt := by
  obtain ⟨a1, a2, -⟩ := d_nz (x := x) (K := 1024) (by omega) (by omega)
  have z1 : FP.Core.val64 FP.dconst1 ≠ .nan := by rw [show FP.dconst1 = FP.Core.dconst1 from rfl, FP.Core.val64_dconst1]; exact FP.Core.Datum.noConfusion
  have z2 : FP.dconst1.toNat = 1023 * 2 ^ 52 := by decide +kernel
  obtain ⟨m1, m2, m3⟩ := FP.Core.mono_bits a1 z1 a2 (by omega)
  rcases Nat.lt_or_ge x.toNat (1023 * 2 ^ 52) with q | q
  · exact Or.inr (m1.mpr (by omega))
  · exact Or.inl (m2.mpr (by omega))
theorem share_01 {B : Nat} {nu de : Nat → Nat} (R : Rok B nu de) {a : Nat} (ha : a < 6) : ¬ Op.cmpValue (FP.dcmp (shr nu de a) FP.dconst0) CmpOp.l < 0 ∧ ¬ 0 < Op.cmpValue (FP.dcmp (shr nu de a) FP.dconst1) CmpOp.g := by
  obtain ⟨h1, h2⟩ := shr_nn R ha
  obtain ⟨c1, c2⟩ := cmp0 (x := shr nu de a) (K := 1024) (by omega) (by omega)
  constructor
  · rcases Nat.eq_zero_or_pos (shr nu de a).toNat with q | q
    · rw [c1 q]; decide
    · rw [c2 q]; decide
  · rcases cmp1 h1 with q | q
    · rw [q]; decide
    · rw [q]; decide
