/-! The law's holds: every comparison of it is true of every state, any two accounts, any place. -/
theorem v_cmp {c : SC} {B : Nat} {nu de : Nat → Nat} (R : Rok B nu de) (C : Cok c B nu de) {a b : Nat} (ha : a < 6) (hb : b < 6) : f_X10_compare c (nI a) (nI b) = some (Sum.inr (odr nu de a b)) := by
  unfold f_X10_compare
  rw [q_req2 ha hb, Option.bind_some, Sum.elim_inr, v_order R C ha hb, Option.bind_some]
theorem v_carries {c : SC} {B : Nat} {nu de : Nat → Nat} (R : Rok B nu de) (C : Cok c B nu de) {a b : Nat} (ha : a < 6) (hb : b < 6) (col : CC) : ∃ col', f_X10_carries c col (nI a) (nI b) = some (Sum.inr (nI (cct B (whl nu de a) (whl nu de b) (cln B (whl nu de a) (whl nu de b))), col')) := by
  obtain ⟨f, h1, h2⟩ := v_formColumns R C ha hb col
  refine ⟨(nI (clen B (whl nu de a) (whl nu de b)), nI (cct B (whl nu de a) (whl nu de b) (cln B (whl nu de a) (whl nu de b))), nI (cmx B (whl nu de a) (whl nu de b) (cln B (whl nu de a) (whl nu de b))), f), ?_⟩
  unfold f_X10_carries
  rw [q_req2 ha hb, Option.bind_some, Sum.elim_inr, h1, Option.bind_some]
theorem v_longest {c : SC} {B : Nat} {nu de : Nat → Nat} (R : Rok B nu de) (C : Cok c B nu de) {a b : Nat} (ha : a < 6) (hb : b < 6) (col : CC) : ∃ col', f_X10_longestChain c col (nI a) (nI b) = some (Sum.inr (nI (cmx B (whl nu de a) (whl nu de b) (cln B (whl nu de a) (whl nu de b))), col')) := by
  obtain ⟨f, h1, h2⟩ := v_formColumns R C ha hb col
  refine ⟨(nI (clen B (whl nu de a) (whl nu de b)), nI (cct B (whl nu de a) (whl nu de b) (cln B (whl nu de a) (whl nu de b))), nI (cmx B (whl nu de a) (whl nu de b) (cln B (whl nu de a) (whl nu de b))), f), ?_⟩
  unfold f_X10_longestChain
  rw [q_req2 ha hb, Option.bind_some, Sum.elim_inr, h1, Option.bind_some]
theorem v_byColumns {c : SC} {B : Nat} {nu de : Nat → Nat} (R : Rok B nu de) (C : Cok c B nu de) {a b : Nat} (ha : a < 6) (hb : b < 6) (col : CC) : ∃ col', f_X10_sumByColumns c col (nI a) (nI b) = some (Sum.inr (lN (whl nu de a + whl nu de b), col')) := by
  obtain ⟨f, h1, h2⟩ := v_formColumns R C ha hb col
  refine ⟨(nI (clen B (whl nu de a) (whl nu de b)), nI (cct B (whl nu de a) (whl nu de b) (cln B (whl nu de a) (whl nu de b))), nI (cmx B (whl nu de a) (whl nu de b) (cln B (whl nu de a) (whl nu de b))), f), ?_⟩
  unfold f_X10_sumByColumns
  rw [q_req2 ha hb, Option.bind_some, Sum.elim_inr, h1, Option.bind_some, v_total R C ha hb h2, Option.bind_some]
theorem bst_ge {d : Nat} : ∀ i, 2 ≤ (bst d i).1 := by
  intro i
  induction i with
  | zero => exact Nat.le_refl _
  | succ i ih =>
    show 2 ≤ (if bln d (i + 3) < (bst d i).2 then (i + 3, bln d (i + 3)) else bst d i).1
    split
    · show 2 ≤ i + 3; omega
    · exact ih
section
variable {c : SC} {B : Nat} {nu de : Nat → Nat} {a b : Nat}
theorem h_414 (R : Rok B nu de) (C : Cok c B nu de) (ha : a < 6) (col : CC) : f_L_holds_b414 c col (nI a) 1 = some (1, col) := by
  obtain ⟨r1, r2, r3, r4⟩ := R.2.2 a ha
  obtain ⟨s1, s2⟩ := share_01 R ha
  have z1 : ¬ (999999999 : Int32) < nI (nu a) := fun q => by have := (nI_ltI (a := 999999999) (by omega) (by omega)).mp q; omega
  have z2 : ¬ nI (de a) < 1 := fun q => by have := (c_lt (b := 1) (by omega) (by decide)).mp q; omega
  have z3 : ¬ (999 : Int32) < nI (de a) := fun q => by have := (nI_ltI (a := 999) (by omega) (by omega)).mp q; omega
  unfold f_L_holds_b414
  rw [if_neg n1, v_shareOf R C ha, Option.bind_some, Sum.elim_inr, if_neg s1, Option.bind_some, Sum.elim_inr, if_neg s2, v_num C ha, Option.bind_some, Sum.elim_inr, if_neg (nI_pos (show nu a < 2 ^ 31 by omega)), Option.bind_some, Sum.elim_inr, if_neg z1, v_den C ha, Option.bind_some, Sum.elim_inr, if_neg z2, Option.bind_some, Sum.elim_inr, if_neg z3]
theorem h_378 (R : Rok B nu de) (C : Cok c B nu de) (ha : a < 6) (hb : b < 6) (col : CC) (t : Int32) : f_L_holds_b378 c col (nI a) (nI b) t t = some (1, col) := by
  have hr := rch_le (nu := nu) (de := de) 5
  have hm : ¬ odr nu de (rch nu de 5) a < 0 := Int32.not_lt.mpr ((odr_ge nu de (rch nu de 5) a).mpr (rch_max R 5 (Nat.le_refl _) a (by omega)))
  unfold f_L_holds_b378
  rw [if_pos rfl, v_cmp R C ha hb, Option.bind_some, Sum.elim_inr, v_cmp R C hb ha, Option.bind_some, Sum.elim_inr, if_pos (odr_anti nu de a b), v_richest R C, Option.bind_some, v_cmp R C (show rch nu de 5 < 6 by omega) ha, Option.bind_some, Sum.elim_inr, if_neg hm]
  exact h_414 R C ha col
theorem h_305 (R : Rok B nu de) (C : Cok c B nu de) (ha : a < 6) (hb : b < 6) (col : CC) : ∃ col', f_L_holds_b305 c col (nI a) (nI b) 1 = some (1, col') := by
  have hwa := (R.wh ha).1
  have hwb := (R.wh hb).1
  obtain ⟨c1, e1⟩ := v_carries R C ha hb col
  obtain ⟨c2, e2⟩ := v_byColumns R C ha hb c1
  obtain ⟨c3, e3⟩ := v_longest R C ha hb c2
  obtain ⟨c4, e4⟩ := v_longest R C ha hb c3
  have hn := cln_le B (whl nu de a) (whl nu de b)
  have hc := cct_le (B := B) (u := whl nu de a) (v := whl nu de b) (cln B (whl nu de a) (whl nu de b))
  have hx := cmx_le (B := B) (u := whl nu de a) (v := whl nu de b) (cln B (whl nu de a) (whl nu de b))
  obtain ⟨g1, g2, g3⟩ := chain_ok (B := B) (u := whl nu de a) (v := whl nu de b) (cln B (whl nu de a) (whl nu de b))
  generalize cct B (whl nu de a) (whl nu de b) (cln B (whl nu de a) (whl nu de b)) = p at *
  generalize cmx B (whl nu de a) (whl nu de b) (cln B (whl nu de a) (whl nu de b)) = q at *
  have hs : lN (whl nu de a + whl nu de b) = (nI (whl nu de a)).toInt64 + (nI (whl nu de b)).toInt64 := by
    rw [nI_l (by omega), nI_l (by omega), lN_add]
  have hl : ¬ nI p < nI q := fun w => by have := (nI_ltI (by omega) (by omega)).mp w; omega
  refine ⟨c4, ?_⟩
  unfold f_L_holds_b305
  rw [e1, Option.bind_some, Sum.elim_inr, if_neg n1]
  show ((f_X10_sumByColumns c c1 (nI a) (nI b)).bind _) = _
  rw [e2, Option.bind_some, Sum.elim_inr, v_wh R C ha, Option.bind_some, Sum.elim_inr, v_wh R C hb, Option.bind_some, Sum.elim_inr, if_pos hs]
  show ((f_X10_longestChain c c2 (nI a) (nI b)).bind _) = _
  rw [e3, Option.bind_some, Sum.elim_inr, if_neg hl]
  show ((f_X10_longestChain c c3 (nI a) (nI b)).bind _) = _
  rw [e4, Option.bind_some, Sum.elim_inr]
  show (if nI q = 0 then f_L_holds_b368 c c4 (nI a) (nI b) (nI p) 1 else f_L_holds_b368 c c4 (nI a) (nI b) (nI p) 0) = _
  unfold f_L_holds_b368
  by_cases hq : q = 0
  · have hp : p = 0 := by omega
    rw [if_pos (show nI q = 0 by rw [hq]; rfl), if_pos (show nI p = 0 by rw [hp]; rfl)]
    exact h_378 R C ha hb c4 1
  · have hp : ¬ p = 0 := by omega
    rw [if_neg (c_ne0 (by omega) (by omega)), if_neg (c_ne0 (by omega) (by omega))]
    exact h_378 R C ha hb c4 0
theorem h_254 (R : Rok B nu de) (C : Cok c B nu de) (ha : a < 6) (hb : b < 6) (col : CC) {pl : Nat} (hp : pl < 30) (t : Int32) : ∃ col', f_L_holds_b254 c col (nI a) (nI b) (nI pl) (nI (hlen B 10 (de a))) (nI (prd B (de a))) t t = some (1, col') := by
  obtain ⟨r1, r2, r3, r4⟩ := R.2.2 a ha
  have hB := R.1
  have hB2 := R.2.1
  have h1 := (prd_ok hB hB2 r2 r3).2.2
  have h2 := hlen_le (B := B) 10 (de a)
  have hg : Nat.gcd (rst nu de a) (de a) = 1 := by
    unfold rst
    rw [← Nat.gcd_rec, Nat.gcd_comm]
    exact r4
  have hd := bdg_per hB hB2 r2 r3 hg pl
  obtain ⟨b1, b2⟩ := bst_le r2 r3 14 (Nat.le_refl _)
  have b3 := bst_ge (d := de a) 14
  obtain ⟨col', e⟩ := h_305 R C ha hb col
  refine ⟨col', ?_⟩
  have z1 : ¬ nI (bst (de a) 14).1 < 2 := fun q => by have := (c_lt (b := 2) (by omega) (by decide)).mp q; omega
  have z2 : ¬ (16 : Int32) < nI (bst (de a) 14).1 := fun q => by have := (nI_ltI (a := 16) (by omega) (by omega)).mp q; omega
  unfold f_L_holds_b254
  rw [if_pos rfl, nI_add, nI_add, v_digitBehind R C ha (show hlen B 10 (de a) + pl ≤ 2000 by omega), Option.bind_some, Sum.elim_inr, v_digitBehind R C ha (show hlen B 10 (de a) + pl + prd B (de a) ≤ 2000 by omega), Option.bind_some, Sum.elim_inr, hd, if_pos rfl, v_shortestBase R C ha, Option.bind_some, Sum.elim_inr, if_neg z1, Option.bind_some, Sum.elim_inr, if_neg z2]
  exact e
theorem h_207 (R : Rok B nu de) (C : Cok c B nu de) (ha : a < 6) (hb : b < 6) (col : CC) {pl : Nat} (hp : pl < 30) : ∃ col', f_L_holds_b207 c col (nI a) (nI b) (nI pl) (nI (dcn B (whl nu de a))) (nI (hlen B 10 (de a))) (nI (prd B (de a))) 1 = some (1, col') := by
  obtain ⟨r1, r2, r3, r4⟩ := R.2.2 a ha
  have hB := R.1
  have hB2 := R.2.1
  have h1 := (prd_ok hB hB2 r2 r3).2.2
  have h2 := hlen_le (B := B) 10 (de a)
  have h3 := dcn_le B (whl nu de a)
  unfold f_L_holds_b207
  rw [if_neg n1, v_writtenLength R C ha, Option.bind_some, Sum.elim_inr, v_den C ha, Option.bind_some, Sum.elim_inr]
  unfold wln
  by_cases d1 : de a = 1
  · rw [if_pos (show nI (de a) = 1 by rw [d1]; rfl), if_pos d1, Nat.add_zero]
    exact h_254 R C ha hb col hp _
  · rw [if_neg (show ¬ nI (de a) = 1 from fun q => d1 ((nI_eq (b := 1) (by omega) (by decide)).mp q)), if_neg d1]
    unfold f_L_holds_b253
    by_cases p0 : prd B (de a) = 0
    · rw [if_pos ((c_le0 (by omega)).mpr p0), if_pos p0, show (0 : Int32) = nI 0 from rfl, show (1 : Int32) = nI 1 from rfl, nI_add, nI_add, nI_add, nI_add, show dcn B (whl nu de a) + 1 + hlen B 10 (de a) + prd B (de a) + 0 = dcn B (whl nu de a) + (1 + hlen B 10 (de a) + prd B (de a) + 0) by omega]
      exact h_254 R C ha hb col hp _
    · rw [if_neg (fun q => p0 ((c_le0 (by omega)).mp q)), if_neg p0, show (2 : Int32) = nI 2 from rfl, show (1 : Int32) = nI 1 from rfl, nI_add, nI_add, nI_add, nI_add, show dcn B (whl nu de a) + 1 + hlen B 10 (de a) + prd B (de a) + 2 = dcn B (whl nu de a) + (1 + hlen B 10 (de a) + prd B (de a) + 2) by omega]
      exact h_254 R C ha hb col hp _
theorem h_185 (R : Rok B nu de) (C : Cok c B nu de) (ha : a < 6) (hb : b < 6) (col : CC) {pl : Nat} (hp : pl < 30) : ∃ col', (if nI (hlen B 10 (de a)) + nI (prd B (de a)) = 0 then f_L_holds_b185 c col (nI a) (nI b) (nI pl) (nI (dcn B (whl nu de a))) (nI (hlen B 10 (de a))) (nI (prd B (de a))) 1 else f_L_holds_b185 c col (nI a) (nI b) (nI pl) (nI (dcn B (whl nu de a))) (nI (hlen B 10 (de a))) (nI (prd B (de a))) 0) = some (1, col') := by
  obtain ⟨r1, r2, r3, r4⟩ := R.2.2 a ha
  have hB := R.1
  have hB2 := R.2.1
  have h1 := (prd_ok hB hB2 r2 r3).2.2
  have h2 := hlen_le (B := B) 10 (de a)
  have hz := hp0 hB hB2 r2 r3
  obtain ⟨col', e⟩ := h_207 R C ha hb col hp
  refine ⟨col', ?_⟩
  rw [nI_add]
  unfold f_L_holds_b185 f_L_holds_b199
  by_cases d1 : de a = 1
  · have z := hz.mpr d1
    rw [if_pos (show nI (hlen B 10 (de a) + prd B (de a)) = 0 by rw [z]; rfl), v_den C ha, Option.bind_some, Sum.elim_inr, if_pos (show nI (de a) = 1 by rw [d1]; rfl), if_pos (show (1 : Int32) = 1 from rfl)]
    exact e
  · have z : ¬ hlen B 10 (de a) + prd B (de a) = 0 := fun q => d1 (hz.mp q)
    rw [if_neg (c_ne0 (show hlen B 10 (de a) + prd B (de a) < 2 ^ 31 by omega) (by omega)), v_den C ha, Option.bind_some, Sum.elim_inr, if_neg (show ¬ nI (de a) = 1 from fun q => d1 ((nI_eq (b := 1) (by omega) (by decide)).mp q)), if_pos (show (0 : Int32) = 0 from rfl)]
    exact e
theorem h_25 (R : Rok B nu de) (C : Cok c B nu de) (ha : a < 6) (hb : b < 6) (col : CC) {pl : Nat} (hp : pl < 30) : ∀ (k n t : Nat), k ≤ dcn B (whl nu de a) → t + sm (dgt B (whl nu de a)) k = dsm B (whl nu de a) → k < n → ∃ col', f_L_holds_b25 n c col (nI a) (nI b) (nI pl) (nI B) (nI (dcn B (whl nu de a))) (lN (whl nu de a / B ^ k)) (nI t) (nI k + (-1)) = some (1, col') := by
  have hB := R.1
  have hB2 := R.2.1
  have hw := (R.wh ha).1
  obtain ⟨r1, r2, r3, r4⟩ := R.2.2 a ha
  intro k
  induction k with
  | zero =>
    intro n t hk ht hn
    obtain ⟨n, rfl⟩ : ∃ q, n = q + 1 := ⟨n - 1, by omega⟩
    obtain rfl : t = dsm B (whl nu de a) := by
      have : sm (dgt B (whl nu de a)) 0 = 0 := rfl
      omega
    have h1 := prd_lt hB hB2 r2 r3
    have hl : ¬ nI (de a) ≤ nI (prd B (de a)) := fun q => by have := (nI_leI (by omega) (by omega)).mp q; omega
    obtain ⟨col', e⟩ := h_185 R C ha hb col hp
    refine ⟨col', ?_⟩
    unfold f_L_holds_b25
    rw [if_pos (show nI 0 + (-1) < 0 by decide), v_headLength R C ha, Option.bind_some, Sum.elim_inr, v_periodLength R C ha, Option.bind_some, Sum.elim_inr, v_wh R C ha, Option.bind_some, Sum.elim_inr, Nat.pow_zero, Nat.div_one, if_pos (nI_l (show whl nu de a < 2 ^ 31 by omega)).symm, v_readOwn R C ha, Option.bind_some, Sum.elim_inr, if_pos rfl, v_digitSum R C ha, Option.bind_some, Sum.elim_inr, if_pos rfl, v_leftByDigits R C ha, Option.bind_some, Sum.elim_inr, v_leftByDividing R C ha, Option.bind_some, Sum.elim_inr, if_pos rfl, v_periodByOrder R C ha, Option.bind_some, Sum.elim_inr, if_pos rfl, v_den C ha, Option.bind_some, Sum.elim_inr, if_neg hl]
    exact e
  | succ k ih =>
    intro n t hk ht hn
    obtain ⟨n, rfl⟩ : ∃ q, n = q + 1 := ⟨n - 1, by omega⟩
    have h3 := dcn_le B (whl nu de a)
    have hd := dgt_lt (w := whl nu de a) (k := k) hB
    have hdl : ¬ nI B ≤ nI (dgt B (whl nu de a) k) := fun q => by have := (nI_leI (by omega) (by omega)).mp q; omega
    have hs : whl nu de a / B ^ (k + 1) * B + dgt B (whl nu de a) k = whl nu de a / B ^ k := by
      rw [← pow_div, Nat.mul_comm]
      exact Nat.div_add_mod _ _
    have hsm : sm (dgt B (whl nu de a)) (k + 1) = sm (dgt B (whl nu de a)) k + dgt B (whl nu de a) k := rfl
    obtain ⟨col', e⟩ := ih n (t + dgt B (whl nu de a) k) (by omega) (by omega) (by omega)
    refine ⟨col', ?_⟩
    rw [pk_m1]
    unfold f_L_holds_b25
    rw [if_neg (nI_pos (show k < 2 ^ 31 by omega)), v_wholeDigit R C ha (by omega), Option.bind_some, Sum.elim_inr, if_neg (nI_pos (show dgt B (whl nu de a) k < 2 ^ 31 by omega)), if_neg hdl, v_wholeDigitByPowers R C ha (by omega), Option.bind_some, Sum.elim_inr, if_pos rfl, nI_l (show B < 2 ^ 31 by omega), nI_l (show dgt B (whl nu de a) k < 2 ^ 31 by omega), lN_mul, lN_add, hs, nI_add]
    exact e
theorem holds_ok (R : Rok B nu de) (C : Cok c B nu de) (ha : a < 6) (hb : b < 6) (col : CC) {pl : Nat} (hp : pl < 30) : ∃ col', f_L_holds c col (nI a) (nI b) (nI pl) = some (1, col') := by
  have hw := (R.wh ha).1
  have h3 := dcn_le B (whl nu de a)
  obtain ⟨col', e⟩ := h_25 R C ha hb col hp (dcn B (whl nu de a)) xfuel 0 (Nat.le_refl _) (Nat.zero_add _) (by unfold xfuel; omega)
  rw [Nat.div_eq_of_lt (dcn_high R.1 hw)] at e
  refine ⟨col', ?_⟩
  unfold f_L_holds f_X10_base
  rw [Option.bind_some, C.1, v_wholeDigits R C ha, Option.bind_some, Sum.elim_inr, show nI (dcn B (whl nu de a)) - 1 = nI (dcn B (whl nu de a)) + (-1) from Int32.sub_eq_add_neg _ _]
  exact e
end
