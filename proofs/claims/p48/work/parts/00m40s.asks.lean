/-! The calls that look at accounts: alike on both sides. -/
theorem sgl_bad {x : Int32} (h1 : f_X10_requireAccount x = some (Sum.inl 1)) : True := trivial
theorem ops1 {arr : Nat → Int64} {b : Int32} : Op 0 b 0 (vp_updL arr 0 b.toInt64 0) := ⟨rfl, fun _ => pk_uLs⟩
theorem b_sub1 {n : Nat} (h : 0 < n) : nI n - 1 = nI (n - 1) := pk_sub (b := 1) h
theorem m_in {k n : Nat} (hk : k < n) (hn : n < 2 ^ 31) : f_X11_in (nI k) 0 (nI n - 1) = some 1 := by
  unfold f_X11_in
  rw [b_sub1 (by omega), if_neg (nI_pos (by omega)), if_neg (fun q => by have := (c_lt (by omega) (by omega)).mp q; omega)]
theorem m_out {x : Int32} {n : Nat} (h0 : 0 < n) (hn : n < 2 ^ 31) (h : x < 0 ∨ nI n ≤ x) : f_X11_in x 0 (nI n - 1) = some 0 := by
  unfold f_X11_in
  by_cases q : x < 0
  · rw [if_pos q]
  · have h2 : nI n ≤ x := h.elim (fun w => absurd w q) id
    rw [if_neg q, if_pos]
    rw [b_sub1 h0, Int32.lt_iff_toInt_lt, nI_toInt (by omega)]
    have := Int32.le_iff_toInt_le.mp h2
    rw [nI_toInt hn] at this
    omega
theorem c_out {x : Int32} {n : Nat} (h : nI n ≤ x) : ¬ x < nI n := Int32.not_lt.mpr h
theorem op_numerator {now : SC} {ss : Nat → Int32} (S : Sh now ss) (arr : Nat → Int64) (th x : Int32) : ∃ P Q, f_L_numerator now arr x = some P ∧ f_X11_numerator th ss x = some Q ∧ Op P.1 Q.1 Q.2 (P.2 0) := by
  obtain ⟨B, nu, de, R, C, M, T⟩ := S
  rcases acc_cases x with ⟨a, ha, rfl, h1, h2⟩ | ⟨h1, h2⟩
  · obtain ⟨r1, r2, r3, r4⟩ := R.2.2 a ha
    have e1 : f_L_numerator now arr (nI a) = some (0, vp_updL arr 0 (nI (nu a)).toInt64) := by
      simp only [f_L_numerator, f_X10_numerator, h1, q_num C ha, Option.bind_some, Sum.elim_inr, z0]
    have e2 : f_X11_numerator th ss (nI a) = some (nI (nu a), 0) := by
      simp only [f_X11_numerator, h2, m_up ha, (M.2 a ha).1, Option.bind_some, n1, if_false]
    exact ⟨_, _, e1, e2, (ops1 : Op 0 (nI (nu a)) 0 (vp_updL arr 0 (nI (nu a)).toInt64 0))⟩
  · have e1 : f_L_numerator now arr x = some (1, arr) := by
      unfold f_L_numerator f_X10_numerator
      rw [h1]
      rfl
    have e2 : f_X11_numerator th ss x = some (0, 1) := by
      simp only [f_X11_numerator, h2, Option.bind_some, if_true, f_X11_fails]
    exact ⟨_, _, e1, e2, rfl, fun q => absurd q n1⟩
theorem op_denominator {now : SC} {ss : Nat → Int32} (S : Sh now ss) (arr : Nat → Int64) (th x : Int32) : ∃ P Q, f_L_denominator now arr x = some P ∧ f_X11_denominator th ss x = some Q ∧ Op P.1 Q.1 Q.2 (P.2 0) := by
  obtain ⟨B, nu, de, R, C, M, T⟩ := S
  rcases acc_cases x with ⟨a, ha, rfl, h1, h2⟩ | ⟨h1, h2⟩
  · obtain ⟨r1, r2, r3, r4⟩ := R.2.2 a ha
    have e1 : f_L_denominator now arr (nI a) = some (0, vp_updL arr 0 (nI (de a)).toInt64) := by
      simp only [f_L_denominator, f_X10_denominator, h1, q_den C ha, Option.bind_some, Sum.elim_inr, z0]
    have e2 : f_X11_denominator th ss (nI a) = some (nI (de a), 0) := by
      simp only [f_X11_denominator, h2, m_down ha, (M.2 a ha).2, Option.bind_some, n1, if_false]
    exact ⟨_, _, e1, e2, (ops1 : Op 0 (nI (de a)) 0 (vp_updL arr 0 (nI (de a)).toInt64 0))⟩
  · have e1 : f_L_denominator now arr x = some (1, arr) := by
      unfold f_L_denominator f_X10_denominator
      rw [h1]
      rfl
    have e2 : f_X11_denominator th ss x = some (0, 1) := by
      simp only [f_X11_denominator, h2, Option.bind_some, if_true, f_X11_fails]
    exact ⟨_, _, e1, e2, rfl, fun q => absurd q n1⟩
theorem op_whole {now : SC} {ss : Nat → Int32} (S : Sh now ss) (arr : Nat → Int64) (th x : Int32) : ∃ P Q, f_L_whole now arr x = some P ∧ f_X11_whole th ss x = some Q ∧ Op P.1 Q.1 Q.2 (P.2 0) := by
  obtain ⟨B, nu, de, R, C, M, T⟩ := S
  rcases acc_cases x with ⟨a, ha, rfl, h1, h2⟩ | ⟨h1, h2⟩
  · obtain ⟨r1, r2, r3, r4⟩ := R.2.2 a ha
    have e1 : f_L_whole now arr (nI a) = some (0, vp_updL arr 0 (nI (whl nu de a)).toInt64) := by
      simp only [f_L_whole, f_X10_whole, h1, q_wh R C ha, Option.bind_some, Sum.elim_inr, z0]
    have e2 : f_X11_whole th ss (nI a) = some (nI (whl nu de a), 0) := by
      simp only [f_X11_whole, h2, m_wholeOf R M ha, Option.bind_some, n1, if_false]
    exact ⟨_, _, e1, e2, (ops1 : Op 0 (nI (whl nu de a)) 0 (vp_updL arr 0 (nI (whl nu de a)).toInt64 0))⟩
  · have e1 : f_L_whole now arr x = some (1, arr) := by
      unfold f_L_whole f_X10_whole
      rw [h1]
      rfl
    have e2 : f_X11_whole th ss x = some (0, 1) := by
      simp only [f_X11_whole, h2, Option.bind_some, if_true, f_X11_fails]
    exact ⟨_, _, e1, e2, rfl, fun q => absurd q n1⟩
theorem op_leftByDigits {now : SC} {ss : Nat → Int32} (S : Sh now ss) (arr : Nat → Int64) (th x : Int32) : ∃ P Q, f_L_leftByDigits now arr x = some P ∧ f_X11_leftByDigits th ss x = some Q ∧ Op P.1 Q.1 Q.2 (P.2 0) := by
  obtain ⟨B, nu, de, R, C, M, T⟩ := S
  rcases acc_cases x with ⟨a, ha, rfl, h1, h2⟩ | ⟨h1, h2⟩
  · obtain ⟨r1, r2, r3, r4⟩ := R.2.2 a ha
    have e1 : f_L_leftByDigits now arr (nI a) = some (0, vp_updL arr 0 (nI (whl nu de a % (B - 1))).toInt64) := by
      simp only [f_L_leftByDigits, v_leftByDigits R C ha, Option.bind_some, Sum.elim_inr, z0]
    have e2 : f_X11_leftByDigits th ss (nI a) = some (nI (whl nu de a % (B - 1)), 0) := by
      simp only [f_X11_leftByDigits, h2, m_left R M ha, Option.bind_some, n1, if_false]
    exact ⟨_, _, e1, e2, (ops1 : Op 0 (nI (whl nu de a % (B - 1))) 0 (vp_updL arr 0 (nI (whl nu de a % (B - 1))).toInt64 0))⟩
  · have e1 : f_L_leftByDigits now arr x = some (1, arr) := by
      unfold f_L_leftByDigits f_X10_leftByDigits
      rw [h1]
      rfl
    have e2 : f_X11_leftByDigits th ss x = some (0, 1) := by
      simp only [f_X11_leftByDigits, f_X11_left, h2, Option.bind_some, if_true, f_X11_fails]
    exact ⟨_, _, e1, e2, rfl, fun q => absurd q n1⟩
theorem op_leftByDividing {now : SC} {ss : Nat → Int32} (S : Sh now ss) (arr : Nat → Int64) (th x : Int32) : ∃ P Q, f_L_leftByDividing now arr x = some P ∧ f_X11_leftByDividing th ss x = some Q ∧ Op P.1 Q.1 Q.2 (P.2 0) := by
  obtain ⟨B, nu, de, R, C, M, T⟩ := S
  rcases acc_cases x with ⟨a, ha, rfl, h1, h2⟩ | ⟨h1, h2⟩
  · obtain ⟨r1, r2, r3, r4⟩ := R.2.2 a ha
    have e1 : f_L_leftByDividing now arr (nI a) = some (0, vp_updL arr 0 (nI (whl nu de a % (B - 1))).toInt64) := by
      simp only [f_L_leftByDividing, v_leftByDividing R C ha, Option.bind_some, Sum.elim_inr, z0]
    have e2 : f_X11_leftByDividing th ss (nI a) = some (nI (whl nu de a % (B - 1)), 0) := by
      simp only [f_X11_leftByDividing, h2, m_left R M ha, Option.bind_some, n1, if_false]
    exact ⟨_, _, e1, e2, (ops1 : Op 0 (nI (whl nu de a % (B - 1))) 0 (vp_updL arr 0 (nI (whl nu de a % (B - 1))).toInt64 0))⟩
  · have e1 : f_L_leftByDividing now arr x = some (1, arr) := by
      unfold f_L_leftByDividing f_X10_leftByDividing
      rw [h1]
      rfl
    have e2 : f_X11_leftByDividing th ss x = some (0, 1) := by
      simp only [f_X11_leftByDividing, f_X11_left, h2, Option.bind_some, if_true, f_X11_fails]
    exact ⟨_, _, e1, e2, rfl, fun q => absurd q n1⟩
theorem op_headLength {now : SC} {ss : Nat → Int32} (S : Sh now ss) (arr : Nat → Int64) (th x : Int32) : ∃ P Q, f_L_headLength now arr x = some P ∧ f_X11_headLength th ss x = some Q ∧ Op P.1 Q.1 Q.2 (P.2 0) := by
  obtain ⟨B, nu, de, R, C, M, T⟩ := S
  rcases acc_cases x with ⟨a, ha, rfl, h1, h2⟩ | ⟨h1, h2⟩
  · obtain ⟨r1, r2, r3, r4⟩ := R.2.2 a ha
    have e1 : f_L_headLength now arr (nI a) = some (0, vp_updL arr 0 (nI (hlen B 10 (de a))).toInt64) := by
      simp only [f_L_headLength, v_headLength R C ha, Option.bind_some, Sum.elim_inr, z0]
    have e2 : f_X11_headLength th ss (nI a) = some (nI (hlen B 10 (de a)), 0) := by
      simp only [f_X11_headLength, h2, m_down ha, (M.2 a ha).2, z0, M.1, m_headOf R.1 R.2.1 r2 r3, Option.bind_some, n1, if_false]
    exact ⟨_, _, e1, e2, (ops1 : Op 0 (nI (hlen B 10 (de a))) 0 (vp_updL arr 0 (nI (hlen B 10 (de a))).toInt64 0))⟩
  · have e1 : f_L_headLength now arr x = some (1, arr) := by
      unfold f_L_headLength f_X10_headLength
      rw [h1]
      rfl
    have e2 : f_X11_headLength th ss x = some (0, 1) := by
      simp only [f_X11_headLength, h2, Option.bind_some, if_true, f_X11_fails]
    exact ⟨_, _, e1, e2, rfl, fun q => absurd q n1⟩
theorem op_periodLength {now : SC} {ss : Nat → Int32} (S : Sh now ss) (arr : Nat → Int64) (th x : Int32) : ∃ P Q, f_L_periodLength now arr x = some P ∧ f_X11_periodLength th ss x = some Q ∧ Op P.1 Q.1 Q.2 (P.2 0) := by
  obtain ⟨B, nu, de, R, C, M, T⟩ := S
  rcases acc_cases x with ⟨a, ha, rfl, h1, h2⟩ | ⟨h1, h2⟩
  · obtain ⟨r1, r2, r3, r4⟩ := R.2.2 a ha
    have e1 : f_L_periodLength now arr (nI a) = some (0, vp_updL arr 0 (nI (prd B (de a))).toInt64) := by
      simp only [f_L_periodLength, v_periodLength R C ha, Option.bind_some, Sum.elim_inr, z0]
    have e2 : f_X11_periodLength th ss (nI a) = some (nI (prd B (de a)), 0) := by
      simp only [f_X11_periodLength, h2, f_X11_tellsPeriod, m_down ha, (M.2 a ha).2, z0, M.1, (prd_ok R.1 R.2.1 r2 r3).1, Option.bind_some, n1, if_false]
    exact ⟨_, _, e1, e2, (ops1 : Op 0 (nI (prd B (de a))) 0 (vp_updL arr 0 (nI (prd B (de a))).toInt64 0))⟩
  · have e1 : f_L_periodLength now arr x = some (1, arr) := by
      unfold f_L_periodLength f_X10_periodLength
      rw [h1]
      rfl
    have e2 : f_X11_periodLength th ss x = some (0, 1) := by
      simp only [f_X11_periodLength, f_X11_tellsPeriod, h2, Option.bind_some, if_true, f_X11_fails]
    exact ⟨_, _, e1, e2, rfl, fun q => absurd q n1⟩
theorem op_periodByOrder {now : SC} {ss : Nat → Int32} (S : Sh now ss) (arr : Nat → Int64) (th x : Int32) : ∃ P Q, f_L_periodByOrder now arr x = some P ∧ f_X11_periodByOrder th ss x = some Q ∧ Op P.1 Q.1 Q.2 (P.2 0) := by
  obtain ⟨B, nu, de, R, C, M, T⟩ := S
  rcases acc_cases x with ⟨a, ha, rfl, h1, h2⟩ | ⟨h1, h2⟩
  · obtain ⟨r1, r2, r3, r4⟩ := R.2.2 a ha
    have e1 : f_L_periodByOrder now arr (nI a) = some (0, vp_updL arr 0 (nI (prd B (de a))).toInt64) := by
      simp only [f_L_periodByOrder, v_periodByOrder R C ha, Option.bind_some, Sum.elim_inr, z0]
    have e2 : f_X11_periodByOrder th ss (nI a) = some (nI (prd B (de a)), 0) := by
      simp only [f_X11_periodByOrder, h2, f_X11_tellsPeriod, m_down ha, (M.2 a ha).2, z0, M.1, (prd_ok R.1 R.2.1 r2 r3).1, Option.bind_some, n1, if_false]
    exact ⟨_, _, e1, e2, (ops1 : Op 0 (nI (prd B (de a))) 0 (vp_updL arr 0 (nI (prd B (de a))).toInt64 0))⟩
  · have e1 : f_L_periodByOrder now arr x = some (1, arr) := by
      unfold f_L_periodByOrder f_X10_periodByOrder
      rw [h1]
      rfl
    have e2 : f_X11_periodByOrder th ss x = some (0, 1) := by
      simp only [f_X11_periodByOrder, f_X11_tellsPeriod, h2, Option.bind_some, if_true, f_X11_fails]
    exact ⟨_, _, e1, e2, rfl, fun q => absurd q n1⟩
theorem op_shortestBase {now : SC} {ss : Nat → Int32} (S : Sh now ss) (arr : Nat → Int64) (th x : Int32) : ∃ P Q, f_L_shortestBase now arr x = some P ∧ f_X11_shortestBase th ss x = some Q ∧ Op P.1 Q.1 Q.2 (P.2 0) := by
  obtain ⟨B, nu, de, R, C, M, T⟩ := S
  rcases acc_cases x with ⟨a, ha, rfl, h1, h2⟩ | ⟨h1, h2⟩
  · obtain ⟨r1, r2, r3, r4⟩ := R.2.2 a ha
    have e1 : f_L_shortestBase now arr (nI a) = some (0, vp_updL arr 0 (nI (bst (de a) 14).1).toInt64) := by
      simp only [f_L_shortestBase, v_shortestBase R C ha, Option.bind_some, Sum.elim_inr, z0]
    have e2 : f_X11_shortestBase th ss (nI a) = some (nI (bst (de a) 14).1, 0) := by
      simp only [f_X11_shortestBase, h2, m_bestBase R M ha, Option.bind_some, n1, if_false]
    exact ⟨_, _, e1, e2, (ops1 : Op 0 (nI (bst (de a) 14).1) 0 (vp_updL arr 0 (nI (bst (de a) 14).1).toInt64 0))⟩
  · have e1 : f_L_shortestBase now arr x = some (1, arr) := by
      unfold f_L_shortestBase f_X10_shortestBase
      rw [h1]
      rfl
    have e2 : f_X11_shortestBase th ss x = some (0, 1) := by
      simp only [f_X11_shortestBase, h2, Option.bind_some, if_true, f_X11_fails]
    exact ⟨_, _, e1, e2, rfl, fun q => absurd q n1⟩
theorem op_wholeDigits {now : SC} {ss : Nat → Int32} (S : Sh now ss) (arr : Nat → Int64) (d0 : Nat → Int32) (dm th x : Int32) : ∃ P Q, f_L_wholeDigits now arr x = some P ∧ f_X11_wholeDigits th ss d0 dm x = some Q ∧ Op P.1 Q.1 Q.2.1 (P.2 0) := by
  obtain ⟨B, nu, de, R, C, M, T⟩ := S
  rcases acc_cases x with ⟨a, ha, rfl, h1, h2⟩ | ⟨h1, h2⟩
  · have e1 : f_L_wholeDigits now arr (nI a) = some (0, vp_updL arr 0 (nI (dcn B (whl nu de a))).toInt64) := by
      simp only [f_L_wholeDigits, v_wholeDigits R C ha, Option.bind_some, Sum.elim_inr, z0]
    have e2 : f_X11_wholeDigits th ss d0 dm (nI a) = some (nI (dcn B (whl nu de a)), 0, dfn B (whl nu de a) d0 (dcn B (whl nu de a)), nI (dcn B (whl nu de a))) := by
      simp only [f_X11_wholeDigits, f_X11_hasDigits, f_X11_hasDigits_b13, f_X11_hasDigits_b28, h2, m_tells R M ha, Option.bind_some, n1, if_false, if_true]
      try rfl
    exact ⟨_, _, e1, e2, (ops1 : Op 0 (nI (dcn B (whl nu de a))) 0 (vp_updL arr 0 (nI (dcn B (whl nu de a))).toInt64 0))⟩
  · have e1 : f_L_wholeDigits now arr x = some (1, arr) := by
      unfold f_L_wholeDigits f_X10_wholeDigits
      rw [h1]
      rfl
    have e2 : f_X11_wholeDigits th ss d0 dm x = some (0, 1, d0, dm) := by
      simp only [f_X11_wholeDigits, f_X11_hasDigits, f_X11_hasDigits_b13, f_X11_hasDigits_b28, h2, Option.bind_some, if_true, if_false, n1, f_X11_fails]
    exact ⟨_, _, e1, e2, rfl, fun q => absurd q n1⟩
theorem op_digitSum {now : SC} {ss : Nat → Int32} (S : Sh now ss) (arr : Nat → Int64) (d0 : Nat → Int32) (dm th x : Int32) : ∃ P Q, f_L_digitSum now arr x = some P ∧ f_X11_digitSum th ss d0 dm x = some Q ∧ Op P.1 Q.1 Q.2.1 (P.2 0) := by
  obtain ⟨B, nu, de, R, C, M, T⟩ := S
  rcases acc_cases x with ⟨a, ha, rfl, h1, h2⟩ | ⟨h1, h2⟩
  · have e1 : f_L_digitSum now arr (nI a) = some (0, vp_updL arr 0 (nI (dsm B (whl nu de a))).toInt64) := by
      simp only [f_L_digitSum, v_digitSum R C ha, Option.bind_some, Sum.elim_inr, z0]
    have e2 : f_X11_digitSum th ss d0 dm (nI a) = some (nI (dsm B (whl nu de a)), 0, dfn B (whl nu de a) d0 (dcn B (whl nu de a)), nI (dcn B (whl nu de a))) := by
      simp only [f_X11_digitSum, h2, m_sumOf R M ha, Option.bind_some, n1, if_false, if_true]
      try rfl
    exact ⟨_, _, e1, e2, (ops1 : Op 0 (nI (dsm B (whl nu de a))) 0 (vp_updL arr 0 (nI (dsm B (whl nu de a))).toInt64 0))⟩
  · have e1 : f_L_digitSum now arr x = some (1, arr) := by
      unfold f_L_digitSum f_X10_digitSum
      rw [h1]
      rfl
    have e2 : f_X11_digitSum th ss d0 dm x = some (0, 1, d0, dm) := by
      simp only [f_X11_digitSum, h2, Option.bind_some, if_true, if_false, n1, f_X11_fails]
    exact ⟨_, _, e1, e2, rfl, fun q => absurd q n1⟩
theorem op_writtenLength {now : SC} {ss : Nat → Int32} (S : Sh now ss) (arr : Nat → Int64) (d0 : Nat → Int32) (dm th x : Int32) : ∃ P Q, f_L_writtenLength now arr x = some P ∧ f_X11_writtenLength th ss d0 dm x = some Q ∧ Op P.1 Q.1 Q.2.1 (P.2 0) := by
  obtain ⟨B, nu, de, R, C, M, T⟩ := S
  rcases acc_cases x with ⟨a, ha, rfl, h1, h2⟩ | ⟨h1, h2⟩
  · have e1 : f_L_writtenLength now arr (nI a) = some (0, vp_updL arr 0 (nI (wln B (whl nu de a) (de a))).toInt64) := by
      simp only [f_L_writtenLength, v_writtenLength R C ha, Option.bind_some, Sum.elim_inr, z0]
    have e2 : f_X11_writtenLength th ss d0 dm (nI a) = some (nI (wln B (whl nu de a) (de a)), 0, dfn B (whl nu de a) d0 (dcn B (whl nu de a)), nI (dcn B (whl nu de a))) := by
      simp only [f_X11_writtenLength, h2, m_writtenMany R M ha, Option.bind_some, n1, if_false, if_true]
      try rfl
    exact ⟨_, _, e1, e2, (ops1 : Op 0 (nI (wln B (whl nu de a) (de a))) 0 (vp_updL arr 0 (nI (wln B (whl nu de a) (de a))).toInt64 0))⟩
  · have e1 : f_L_writtenLength now arr x = some (1, arr) := by
      unfold f_L_writtenLength f_X10_writtenLength
      rw [h1]
      rfl
    have e2 : f_X11_writtenLength th ss d0 dm x = some (0, 1, d0, dm) := by
      simp only [f_X11_writtenLength, h2, Option.bind_some, if_true, if_false, n1, f_X11_fails]
    exact ⟨_, _, e1, e2, rfl, fun q => absurd q n1⟩
theorem op_wholeDigit {now : SC} {ss : Nat → Int32} (S : Sh now ss) (arr : Nat → Int64) (d0 : Nat → Int32) (dm th x y : Int32) : ∃ P Q, f_L_wholeDigit now arr x y = some P ∧ f_X11_wholeDigit th ss d0 dm x y = some Q ∧ Op P.1 Q.1 Q.2.1 (P.2 0) := by
  obtain ⟨B, nu, de, R, C, M, T⟩ := S
  rcases acc_cases x with ⟨a, ha, rfl, h1, h2⟩ | ⟨h1, h2⟩
  · have hN := dcn_le B (whl nu de a)
    have hp := dcn_pos B (whl nu de a)
    have bad : (y < 0 ∨ nI (dcn B (whl nu de a)) ≤ y) → ∃ P Q, f_L_wholeDigit now arr (nI a) y = some P ∧ f_X11_wholeDigit th ss d0 dm (nI a) y = some Q ∧ Op P.1 Q.1 Q.2.1 (P.2 0) := by
      intro q
      have e1 : f_L_wholeDigit now arr (nI a) y = some (1, arr) := by
        by_cases y0 : y < 0
        · simp only [f_L_wholeDigit, f_X10_wholeDigit, f_X10_requireColumn, f_X10_requireColumn_b13, y0, if_true, Option.bind_some, Sum.elim_inl]
        · have y1 : ¬ y < nI (dcn B (whl nu de a)) := c_out (q.elim (fun w => absurd w y0) id)
          simp only [f_L_wholeDigit, f_X10_wholeDigit, f_X10_requireColumn, f_X10_requireColumn_b13, y0, y1, if_true, if_false, v_wholeDigits R C ha, Option.bind_some, Sum.elim_inl, Sum.elim_inr]
      have e2 : f_X11_wholeDigit th ss d0 dm (nI a) y = some (0, 1, dfn B (whl nu de a) d0 (dcn B (whl nu de a)), nI (dcn B (whl nu de a))) := by
        simp only [f_X11_wholeDigit, f_X11_tellsDigit, f_X11_hasDigits, f_X11_hasDigits_b13, f_X11_hasDigits_b28, h2, m_tells R M ha, Option.bind_some, n1, if_false, if_true, m_out hp (show dcn B (whl nu de a) < 2 ^ 31 by omega) q, f_X11_fails]
      exact ⟨_, _, e1, e2, rfl, fun q => absurd q n1⟩
    rcases pk_ix y (n := dcn B (whl nu de a)) (by omega) with q | q | ⟨k, hk, rfl⟩
    · exact bad (Or.inl q)
    · exact bad (Or.inr q)
    · have e1 : f_L_wholeDigit now arr (nI a) (nI k) = some (0, vp_updL arr 0 (nI (dgt B (whl nu de a) k)).toInt64) := by
        simp only [f_L_wholeDigit, v_wholeDigit R C ha hk, Option.bind_some, Sum.elim_inr, z0]
      have hin : ¬ (nI k < 0 ∨ 40 ≤ (nI k).toNatClampNeg) := nI_in (by omega) (by omega)
      have hcl : (nI k).toNatClampNeg = k := nI_clamp (by omega)
      have e2 : f_X11_wholeDigit th ss d0 dm (nI a) (nI k) = some (nI (dgt B (whl nu de a) k), 0, dfn B (whl nu de a) d0 (dcn B (whl nu de a)), nI (dcn B (whl nu de a))) := by
        rw [hcl] at hin
        simp only [f_X11_wholeDigit, f_X11_tellsDigit, f_X11_hasDigits, f_X11_hasDigits_b13, f_X11_hasDigits_b28, h2, m_tells R M ha, Option.bind_some, n1, if_false, if_true, m_in hk (show dcn B (whl nu de a) < 2 ^ 31 by omega), hcl, hin, dfn_at hk]
      exact ⟨_, _, e1, e2, (ops1 : Op 0 (nI (dgt B (whl nu de a) k)) 0 (vp_updL arr 0 (nI (dgt B (whl nu de a) k)).toInt64 0))⟩
  · have e1 : f_L_wholeDigit now arr x y = some (1, arr) := by
      by_cases y0 : y < 0
      · simp only [f_L_wholeDigit, f_X10_wholeDigit, f_X10_requireColumn, f_X10_requireColumn_b13, y0, if_true, Option.bind_some, Sum.elim_inl]
      · simp only [f_L_wholeDigit, f_X10_wholeDigit, f_X10_requireColumn, f_X10_wholeDigits, y0, if_true, if_false, h1, Option.bind_some, Sum.elim_inl]
    have e2 : f_X11_wholeDigit th ss d0 dm x y = some (0, 1, d0, dm) := by
      simp only [f_X11_wholeDigit, f_X11_tellsDigit, f_X11_hasDigits, f_X11_hasDigits_b13, f_X11_hasDigits_b28, h2, Option.bind_some, if_true, if_false, n1]
    exact ⟨_, _, e1, e2, rfl, fun q => absurd q n1⟩
theorem op_wholeDigitByPowers {now : SC} {ss : Nat → Int32} (S : Sh now ss) (arr : Nat → Int64) (d0 : Nat → Int32) (dm th x y : Int32) : ∃ P Q, f_L_wholeDigitByPowers now arr x y = some P ∧ f_X11_wholeDigitByPowers th ss d0 dm x y = some Q ∧ Op P.1 Q.1 Q.2.1 (P.2 0) := by
  obtain ⟨B, nu, de, R, C, M, T⟩ := S
  rcases acc_cases x with ⟨a, ha, rfl, h1, h2⟩ | ⟨h1, h2⟩
  · have hN := dcn_le B (whl nu de a)
    have hp := dcn_pos B (whl nu de a)
    have bad : (y < 0 ∨ nI (dcn B (whl nu de a)) ≤ y) → ∃ P Q, f_L_wholeDigitByPowers now arr (nI a) y = some P ∧ f_X11_wholeDigitByPowers th ss d0 dm (nI a) y = some Q ∧ Op P.1 Q.1 Q.2.1 (P.2 0) := by
      intro q
      have e1 : f_L_wholeDigitByPowers now arr (nI a) y = some (1, arr) := by
        by_cases y0 : y < 0
        · simp only [f_L_wholeDigitByPowers, f_X10_wholeDigitByPowers, f_X10_requireColumn, f_X10_requireColumn_b13, y0, if_true, Option.bind_some, Sum.elim_inl]
        · have y1 : ¬ y < nI (dcn B (whl nu de a)) := c_out (q.elim (fun w => absurd w y0) id)
          simp only [f_L_wholeDigitByPowers, f_X10_wholeDigitByPowers, f_X10_requireColumn, f_X10_requireColumn_b13, y0, y1, if_true, if_false, v_wholeDigits R C ha, Option.bind_some, Sum.elim_inl, Sum.elim_inr]
      have e2 : f_X11_wholeDigitByPowers th ss d0 dm (nI a) y = some (0, 1, dfn B (whl nu de a) d0 (dcn B (whl nu de a)), nI (dcn B (whl nu de a))) := by
        simp only [f_X11_wholeDigitByPowers, f_X11_tellsDigit, f_X11_hasDigits, f_X11_hasDigits_b13, f_X11_hasDigits_b28, h2, m_tells R M ha, Option.bind_some, n1, if_false, if_true, m_out hp (show dcn B (whl nu de a) < 2 ^ 31 by omega) q, f_X11_fails]
      exact ⟨_, _, e1, e2, rfl, fun q => absurd q n1⟩
    rcases pk_ix y (n := dcn B (whl nu de a)) (by omega) with q | q | ⟨k, hk, rfl⟩
    · exact bad (Or.inl q)
    · exact bad (Or.inr q)
    · have e1 : f_L_wholeDigitByPowers now arr (nI a) (nI k) = some (0, vp_updL arr 0 (nI (dgt B (whl nu de a) k)).toInt64) := by
        simp only [f_L_wholeDigitByPowers, v_wholeDigitByPowers R C ha hk, Option.bind_some, Sum.elim_inr, z0]
      have hin : ¬ (nI k < 0 ∨ 40 ≤ (nI k).toNatClampNeg) := nI_in (by omega) (by omega)
      have hcl : (nI k).toNatClampNeg = k := nI_clamp (by omega)
      have e2 : f_X11_wholeDigitByPowers th ss d0 dm (nI a) (nI k) = some (nI (dgt B (whl nu de a) k), 0, dfn B (whl nu de a) d0 (dcn B (whl nu de a)), nI (dcn B (whl nu de a))) := by
        rw [hcl] at hin
        simp only [f_X11_wholeDigitByPowers, f_X11_tellsDigit, f_X11_hasDigits, f_X11_hasDigits_b13, f_X11_hasDigits_b28, h2, m_tells R M ha, Option.bind_some, n1, if_false, if_true, m_in hk (show dcn B (whl nu de a) < 2 ^ 31 by omega), hcl, hin, dfn_at hk]
      exact ⟨_, _, e1, e2, (ops1 : Op 0 (nI (dgt B (whl nu de a) k)) 0 (vp_updL arr 0 (nI (dgt B (whl nu de a) k)).toInt64 0))⟩
  · have e1 : f_L_wholeDigitByPowers now arr x y = some (1, arr) := by
      by_cases y0 : y < 0
      · simp only [f_L_wholeDigitByPowers, f_X10_wholeDigitByPowers, f_X10_requireColumn, f_X10_requireColumn_b13, y0, if_true, Option.bind_some, Sum.elim_inl]
      · simp only [f_L_wholeDigitByPowers, f_X10_wholeDigitByPowers, f_X10_requireColumn, f_X10_wholeDigits, y0, if_true, if_false, h1, Option.bind_some, Sum.elim_inl]
    have e2 : f_X11_wholeDigitByPowers th ss d0 dm x y = some (0, 1, d0, dm) := by
      simp only [f_X11_wholeDigitByPowers, f_X11_tellsDigit, f_X11_hasDigits, f_X11_hasDigits_b13, f_X11_hasDigits_b28, h2, Option.bind_some, if_true, if_false, n1]
    exact ⟨_, _, e1, e2, rfl, fun q => absurd q n1⟩
theorem op_digitBehind {now : SC} {ss : Nat → Int32} (S : Sh now ss) (arr : Nat → Int64) (th x y : Int32) : ∃ P Q, f_L_digitBehind now arr x y = some P ∧ f_X11_digitBehind th ss x y = some Q ∧ Op P.1 Q.1 Q.2 (P.2 0) := by
  obtain ⟨B, nu, de, R, C, M, T⟩ := S
  rcases acc_cases x with ⟨a, ha, rfl, h1, h2⟩ | ⟨h1, h2⟩
  · by_cases y0 : y < 0
    · have e1 : f_L_digitBehind now arr (nI a) y = some (2, arr) := by
        simp only [f_L_digitBehind, f_X10_digitBehind, f_X10_digitBehind_b15, h1, y0, if_true, if_false, d21, Option.bind_some, Sum.elim_inl, Sum.elim_inr]
      have e2 : f_X11_digitBehind th ss (nI a) y = some (0, 2) := by
        simp only [f_X11_digitBehind, f_X11_in, h2, y0, Option.bind_some, if_true, if_false, n1, f_X11_fails]
      exact ⟨_, _, e1, e2, rfl, fun q => absurd q n2⟩
    · by_cases y1 : y ≤ 2000
      · obtain ⟨p, hp, rfl⟩ := nI_of2 (n := 2000) (M := 2000) rfl y0 y1
        have y2 : ¬ 2000 < nI p := Int32.not_lt.mpr y1
        have e1 : f_L_digitBehind now arr (nI a) (nI p) = some (0, vp_updL arr 0 (nI (bdg B (rst nu de a) (de a) p)).toInt64) := by
          simp only [f_L_digitBehind, v_digitBehind R C ha hp, Option.bind_some, Sum.elim_inr, z0]
        have e2 : f_X11_digitBehind th ss (nI a) (nI p) = some (nI (bdg B (rst nu de a) (de a) p), 0) := by
          simp only [f_X11_digitBehind, f_X11_in, h2, y0, y2, Option.bind_some, if_false, n1, m_digitAfter R M ha hp]
        exact ⟨_, _, e1, e2, (ops1 : Op 0 (nI (bdg B (rst nu de a) (de a) p)) 0 (vp_updL arr 0 (nI (bdg B (rst nu de a) (de a) p)).toInt64 0))⟩
      · have y2 : 2000 < y := Int32.not_le.mp y1
        have e1 : f_L_digitBehind now arr (nI a) y = some (2, arr) := by
          simp only [f_L_digitBehind, f_X10_digitBehind, f_X10_digitBehind_b15, h1, y0, y1, if_true, if_false, d21, Option.bind_some, Sum.elim_inl, Sum.elim_inr]
        have e2 : f_X11_digitBehind th ss (nI a) y = some (0, 2) := by
          simp only [f_X11_digitBehind, f_X11_in, h2, y0, y2, Option.bind_some, if_true, if_false, n1, f_X11_fails]
        exact ⟨_, _, e1, e2, rfl, fun q => absurd q n2⟩
  · have e1 : f_L_digitBehind now arr x y = some (1, arr) := by
      simp only [f_L_digitBehind, f_X10_digitBehind, h1, Option.bind_some, Sum.elim_inl, if_true]
    have e2 : f_X11_digitBehind th ss x y = some (0, 1) := by
      simp only [f_X11_digitBehind, h2, Option.bind_some, if_true, f_X11_fails]
    exact ⟨_, _, e1, e2, rfl, fun q => absurd q n1⟩
theorem op_writtenAt {now : SC} {ss : Nat → Int32} (S : Sh now ss) (arr : Nat → Int64) (d0 : Nat → Int32) (dm th x y : Int32) : ∃ P Q, f_L_writtenAt now arr x y = some P ∧ f_X11_writtenAt th ss d0 dm x y = some Q ∧ Op P.1 Q.1 Q.2.1 (P.2 0) := by
  obtain ⟨B, nu, de, R, C, M, T⟩ := S
  rcases acc_cases x with ⟨a, ha, rfl, h1, h2⟩ | ⟨h1, h2⟩
  · obtain ⟨r1, r2, r3, r4⟩ := R.2.2 a ha
    obtain ⟨w1, w2⟩ := wln_le (w := whl nu de a) R.1 R.2.1 r2 r3
    have hp := dcn_pos B (whl nu de a)
    have bad : (y < 0 ∨ nI (wln B (whl nu de a) (de a)) ≤ y) → ∃ P Q, f_L_writtenAt now arr (nI a) y = some P ∧ f_X11_writtenAt th ss d0 dm (nI a) y = some Q ∧ Op P.1 Q.1 Q.2.1 (P.2 0) := by
      intro q
      have e1 : f_L_writtenAt now arr (nI a) y = some (1, arr) := by
        by_cases y0 : y < 0
        · simp only [f_L_writtenAt, f_X10_writtenAt, f_X10_writtenAt_b17, h1, y0, if_true, Option.bind_some, Sum.elim_inl, Sum.elim_inr]
        · have y1 : ¬ y < nI (wln B (whl nu de a) (de a)) := c_out (q.elim (fun w => absurd w y0) id)
          simp only [f_L_writtenAt, f_X10_writtenAt, f_X10_writtenAt_b17, h1, y0, y1, if_true, if_false, v_writtenLength R C ha, Option.bind_some, Sum.elim_inl, Sum.elim_inr]
      have e2 : f_X11_writtenAt th ss d0 dm (nI a) y = some (0, 1, dfn B (whl nu de a) d0 (dcn B (whl nu de a)), nI (dcn B (whl nu de a))) := by
        simp only [f_X11_writtenAt, f_X11_writtenAt_b36, h2, m_writtenMany R M ha, Option.bind_some, n1, if_false, if_true, m_out (show 0 < wln B (whl nu de a) (de a) by omega) (show wln B (whl nu de a) (de a) < 2 ^ 31 by omega) q, f_X11_fails]
      exact ⟨_, _, e1, e2, rfl, fun q => absurd q n1⟩
    rcases pk_ix y (n := wln B (whl nu de a) (de a)) (by omega) with q | q | ⟨k, hk, rfl⟩
    · exact bad (Or.inl q)
    · exact bad (Or.inr q)
    · have e1 : f_L_writtenAt now arr (nI a) (nI k) = some (0, vp_updL arr 0 (wch B (whl nu de a) (rst nu de a) (de a) k).toInt64) := by
        simp only [f_L_writtenAt, v_writtenAt R C ha hk, Option.bind_some, Sum.elim_inr, z0]
      have e2 : f_X11_writtenAt th ss d0 dm (nI a) (nI k) = some (wch B (whl nu de a) (rst nu de a) (de a) k, 0, dfn B (whl nu de a) (dfn B (whl nu de a) d0 (dcn B (whl nu de a))) (dcn B (whl nu de a)), nI (dcn B (whl nu de a))) := by
        simp only [f_X11_writtenAt, h2, m_writtenMany R M ha, Option.bind_some, n1, if_false, m_in hk (show wln B (whl nu de a) (de a) < 2 ^ 31 by omega), m_writes R M ha hk]
      exact ⟨_, _, e1, e2, (ops1 : Op 0 (wch B (whl nu de a) (rst nu de a) (de a) k) 0 (vp_updL arr 0 (wch B (whl nu de a) (rst nu de a) (de a) k).toInt64 0))⟩
  · have e1 : f_L_writtenAt now arr x y = some (1, arr) := by
      simp only [f_L_writtenAt, f_X10_writtenAt, h1, Option.bind_some, Sum.elim_inl, if_true]
    have e2 : f_X11_writtenAt th ss d0 dm x y = some (0, 1, d0, dm) := by
      simp only [f_X11_writtenAt, f_X11_writtenAt_b36, h2, Option.bind_some, if_true, f_X11_fails]
    exact ⟨_, _, e1, e2, rfl, fun q => absurd q n1⟩
theorem op_compare {now : SC} {ss : Nat → Int32} (S : Sh now ss) (arr : Nat → Int64) (th x y : Int32) : ∃ P Q, f_L_compare now arr x y = some P ∧ f_X11_compare th ss x y = some Q ∧ Op P.1 Q.1 Q.2 (P.2 0) := by
  obtain ⟨B, nu, de, R, C, M, T⟩ := S
  rcases acc2_cases x y with ⟨a, b, ha, hb, rfl, rfl, h1, h2⟩ | ⟨h1, h2⟩
  · have e1 : f_L_compare now arr (nI a) (nI b) = some (0, vp_updL arr 0 (odr nu de a b).toInt64) := by
      simp only [f_L_compare, f_X10_compare, h1, v_order R C ha hb, Option.bind_some, Sum.elim_inr, z0]
    have e2 : f_X11_compare th ss (nI a) (nI b) = some (odr nu de a b, 0) := by
      simp only [f_X11_compare, h2, m_holds R M ha hb, Option.bind_some, n1, if_false]
    exact ⟨_, _, e1, e2, (ops1 : Op 0 (odr nu de a b) 0 (vp_updL arr 0 (odr nu de a b).toInt64 0))⟩
  · have e1 : f_L_compare now arr x y = some (1, arr) := by
      simp only [f_L_compare, f_X10_compare, h1, Option.bind_some, Sum.elim_inl, if_true]
    have e2 : f_X11_compare th ss x y = some (0, 1) := by
      simp only [f_X11_compare, h2, Option.bind_some, if_true, f_X11_fails]
    exact ⟨_, _, e1, e2, rfl, fun q => absurd q n1⟩
theorem op_richest {now : SC} {ss : Nat → Int32} (S : Sh now ss) (th : Int32) : ∃ v Q, f_X10_richest now = some v ∧ f_X11_richest th ss = some Q ∧ v = Q.1 := by
  obtain ⟨B, nu, de, R, C, M, T⟩ := S
  have e2 : f_X11_richest th ss = some (nI (rch nu de 5), 0) := by
    unfold f_X11_richest
    rw [m_greatest R M, Option.bind_some]
  exact ⟨_, _, v_richest R C, e2, rfl⟩
theorem op_base {now : SC} {ss : Nat → Int32} (S : Sh now ss) (th : Int32) : ∃ v Q, f_X10_base now = some v ∧ f_X11_base th ss = some Q ∧ v = Q.1 := by
  obtain ⟨B, nu, de, R, C, M, T⟩ := S
  exact ⟨_, _, rfl, rfl, C.1.trans M.1.symm⟩
theorem op_savedStates {hist : HC} {states : Nat → Int32} {many : Int32} (H : Hs hist states many) (th : Int32) : ∃ v Q, f_X10_savedStates hist = some v ∧ f_X11_savedStates th many = some Q ∧ v = Q.1 := by
  obtain ⟨k, nx, hk, hnx, h1, h2, h3, h4⟩ := H
  exact ⟨_, _, rfl, rfl, h1.trans h2.symm⟩
def OpL (k : Int32) (b : Int64) (thr : Int32) (v : Int64) : Prop := thr = k ∧ (k = 0 → v = b)
theorem opl1 {arr : Nat → Int64} {b : Int64} : OpL 0 b 0 (vp_updL arr 0 b 0) := ⟨rfl, fun _ => pk_uLs⟩
theorem op_readIn {now : SC} {ss : Nat → Int32} (S : Sh now ss) (arr : Nat → Int64) (d0 : Nat → Int32) (dm th x y : Int32) : ∃ P Q, f_L_readIn now arr x y = some P ∧ f_X11_readIn th ss d0 dm x y = some Q ∧ OpL P.1 Q.1 Q.2.1 (P.2 0) := by
  obtain ⟨B, nu, de, R, C, M, T⟩ := S
  rcases acc_cases x with ⟨a, ha, rfl, h1, h2⟩ | ⟨h1, h2⟩
  · by_cases y0 : y < 2
    · have e1 : f_L_readIn now arr (nI a) y = some (2, arr) := by
        have hb : f_X10_requireBase y = some (Sum.inl 2) := by simp only [f_X10_requireBase, f_X10_requireBase_b11, y0, if_true]
        unfold f_L_readIn f_X10_readIn
        rw [h1, Option.bind_some, Sum.elim_inr, hb]
        rfl
      have e2 : f_X11_readIn th ss d0 dm (nI a) y = some ((0 : Int32).toInt64, 2, d0, dm) := by
        simp only [f_X11_readIn, f_X11_isBase, f_X11_in, h2, y0, Option.bind_some, if_true, if_false, n1, true_or, not_true_eq_false, f_X11_fails]
      exact ⟨_, _, e1, e2, rfl, fun q => absurd q n2⟩
    · by_cases y1 : y ≤ 16
      · have y2 : ¬ 16 < y := Int32.not_lt.mpr y1
        have y00 : ¬ y < 0 := fun q => y0 (Int32.lt_trans q (by decide))
        obtain ⟨p, hp, rfl⟩ := nI_of2 (n := 16) (M := 16) rfl y00 y1
        have hp1 : 1 < p := by
          rcases Nat.lt_or_ge 1 p with q | q
          · exact q
          · exact absurd ((c_lt (b := 2) (by omega) (by decide)).mpr (by omega)) y0
        obtain ⟨r, e3, e4⟩ := v_readIn R C M ha hp1 (by omega) d0 dm
        have e1 : f_L_readIn now arr (nI a) (nI p) = some (0, vp_updL arr 0 r) := by
          simp only [f_L_readIn, e3, Option.bind_some, Sum.elim_inr, z0]
        have e2 : f_X11_readIn th ss d0 dm (nI a) (nI p) = some (r, 0, dfn B (whl nu de a) d0 (dcn B (whl nu de a)), nI (dcn B (whl nu de a))) := by
          simp only [f_X11_readIn, f_X11_isBase, f_X11_in, h2, y0, y2, e4, Option.bind_some, if_false, n1, or_true, not_true_eq_false]
        exact ⟨_, _, e1, e2, (opl1 : OpL 0 r 0 (vp_updL arr 0 r 0))⟩
      · have y2 : 16 < y := Int32.not_le.mp y1
        have e1 : f_L_readIn now arr (nI a) y = some (2, arr) := by
          have hb : f_X10_requireBase y = some (Sum.inl 2) := by simp only [f_X10_requireBase, f_X10_requireBase_b11, y0, y1, if_false]
          unfold f_L_readIn f_X10_readIn
          rw [h1, Option.bind_some, Sum.elim_inr, hb]
          rfl
        have e2 : f_X11_readIn th ss d0 dm (nI a) y = some ((0 : Int32).toInt64, 2, d0, dm) := by
          simp only [f_X11_readIn, f_X11_isBase, f_X11_in, h2, y0, y2, Option.bind_some, if_true, if_false, n1, true_or, not_true_eq_false, f_X11_fails]
        exact ⟨_, _, e1, e2, rfl, fun q => absurd q n2⟩
  · have e1 : f_L_readIn now arr x y = some (1, arr) := by
      unfold f_L_readIn f_X10_readIn
      rw [h1]
      rfl
    have e2 : f_X11_readIn th ss d0 dm x y = some ((0 : Int32).toInt64, 1, d0, dm) := by
      simp only [f_X11_readIn, h2, Option.bind_some, if_true, f_X11_fails]
    exact ⟨_, _, e1, e2, rfl, fun q => absurd q n1⟩
