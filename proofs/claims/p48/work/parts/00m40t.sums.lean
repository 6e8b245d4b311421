/-! Columns and sums as calls. -/
theorem v_formColumns {c : SC} {B : Nat} {nu de : Nat → Nat} (R : Rok B nu de) (C : Cok c B nu de) {a b : Nat} (ha : a < 6) (hb : b < 6) (col : CC) : ∃ f, f_X10_formColumns c col (nI a) (nI b) = some (nI (clen B (whl nu de a) (whl nu de b)), nI (cct B (whl nu de a) (whl nu de b) (cln B (whl nu de a) (whl nu de b))), nI (cmx B (whl nu de a) (whl nu de b) (cln B (whl nu de a) (whl nu de b))), f) ∧ ∀ j, j < clen B (whl nu de a) (whl nu de b) → f j = nI (dgt B (whl nu de a + whl nu de b) j) := by
  obtain ⟨f, h1, h2⟩ := q_form col R.1 R.2.1 (R.wh ha).1 (R.wh hb).1
  refine ⟨f, ?_, h2⟩
  unfold f_X10_formColumns
  rw [q_wh R C ha, Option.bind_some, q_wh R C hb, Option.bind_some, C.1, h1, Option.bind_some]
theorem m_hasColumns {ss : Nat → Int32} {B : Nat} {nu de : Nat → Nat} (R : Rok B nu de) (M : Mok ss B nu de) {a b : Nat} (ha : a < 6) (hb : b < 6) (th : Int32) (d0 : Nat → Int32) (dm : Int32) (ot : Nat → Int32) (om : Int32) (column : Nat → Int32) (cm car chm : Int32) : ∃ D O f, f_X11_hasColumns th ss d0 dm ot om column cm car chm (nI a) (nI b) = some (1, 0, D, nI (dcn B (whl nu de a)), O, nI (dcn B (whl nu de b)), f, nI (clen B (whl nu de a) (whl nu de b)), nI (cct B (whl nu de a) (whl nu de b) (cln B (whl nu de a) (whl nu de b))), nI (cmx B (whl nu de a) (whl nu de b) (cln B (whl nu de a) (whl nu de b)))) ∧ ∀ j, j < clen B (whl nu de a) (whl nu de b) → f j = nI (dgt B (whl nu de a + whl nu de b) j) := by
  obtain ⟨D, O, f, h1, h2⟩ := m_columns R M ha hb d0 dm ot om column cm car chm
  refine ⟨D, O, f, ?_, h2⟩
  unfold f_X11_hasColumns
  rw [m_acc2 ha hb, Option.bind_some, if_neg n1]
  unfold f_X11_hasColumns_b14
  rw [if_pos rfl, h1, Option.bind_some]
  unfold f_X11_hasColumns_b30
  rw [if_pos rfl]
theorem m_noColumns {ss : Nat → Int32} {x y : Int32} (h : f_X11_areAccounts x y = some 0) (th : Int32) (d0 : Nat → Int32) (dm : Int32) (ot : Nat → Int32) (om : Int32) (column : Nat → Int32) (cm car chm : Int32) : f_X11_hasColumns th ss d0 dm ot om column cm car chm x y = some (0, 1, d0, dm, ot, om, column, cm, car, chm) := by
  unfold f_X11_hasColumns
  rw [h, Option.bind_some, if_pos rfl]
  unfold f_X11_hasColumns_b14
  rw [if_neg n1]
  unfold f_X11_hasColumns_b30
  rw [if_neg n1]
theorem op_carries {now : SC} {ss : Nat → Int32} (S : Sh now ss) (col : CC) (arr : Nat → Int64) (th : Int32) (d0 : Nat → Int32) (dm : Int32) (ot : Nat → Int32) (om : Int32) (column : Nat → Int32) (cm car chm x y : Int32) : ∃ P Q, f_L_carries now col arr x y = some P ∧ f_X11_carries th ss d0 dm ot om column cm car chm x y = some Q ∧ Op P.1 Q.1 Q.2.1 (P.2.2 0) := by
  obtain ⟨B, nu, de, R, C, M, T⟩ := S
  rcases acc2_cases x y with ⟨a, b, ha, hb, rfl, rfl, h1, h2⟩ | ⟨h1, h2⟩
  · obtain ⟨f, e3, -⟩ := v_formColumns R C ha hb col
    obtain ⟨D, O, g, e4, -⟩ := m_hasColumns R M ha hb th d0 dm ot om column cm car chm
    generalize nI (cct B (whl nu de a) (whl nu de b) (cln B (whl nu de a) (whl nu de b))) = r at *
    have e1 : ∃ w, f_L_carries now col arr (nI a) (nI b) = some (0, w, vp_updL arr 0 r.toInt64) := by
      unfold f_L_carries f_X10_carries
      rw [h1, Option.bind_some, Sum.elim_inr, e3]
      exact ⟨_, rfl⟩
    obtain ⟨w1, e1⟩ := e1
    have e2 : ∃ w, f_X11_carries th ss d0 dm ot om column cm car chm (nI a) (nI b) = some (r, 0, w) := by
      unfold f_X11_carries
      rw [e4, Option.bind_some]
      exact ⟨_, rfl⟩
    obtain ⟨w, e2⟩ := e2
    exact ⟨_, _, e1, e2, (ops1 : Op 0 r 0 (vp_updL arr 0 r.toInt64 0))⟩
  · have e1 : f_L_carries now col arr x y = some (1, col, arr) := by
      unfold f_L_carries f_X10_carries
      rw [h1]
      rfl
    have e2 : f_X11_carries th ss d0 dm ot om column cm car chm x y = some (0, 1, d0, dm, ot, om, column, cm, car, chm) := by
      unfold f_X11_carries
      rw [m_noColumns h2]
      rfl
    exact ⟨_, _, e1, e2, rfl, fun q => absurd q n1⟩
theorem op_longestChain {now : SC} {ss : Nat → Int32} (S : Sh now ss) (col : CC) (arr : Nat → Int64) (th : Int32) (d0 : Nat → Int32) (dm : Int32) (ot : Nat → Int32) (om : Int32) (column : Nat → Int32) (cm car chm x y : Int32) : ∃ P Q, f_L_longestChain now col arr x y = some P ∧ f_X11_longestChain th ss d0 dm ot om column cm car chm x y = some Q ∧ Op P.1 Q.1 Q.2.1 (P.2.2 0) := by
  obtain ⟨B, nu, de, R, C, M, T⟩ := S
  rcases acc2_cases x y with ⟨a, b, ha, hb, rfl, rfl, h1, h2⟩ | ⟨h1, h2⟩
  · obtain ⟨f, e3, -⟩ := v_formColumns R C ha hb col
    obtain ⟨D, O, g, e4, -⟩ := m_hasColumns R M ha hb th d0 dm ot om column cm car chm
    generalize nI (cmx B (whl nu de a) (whl nu de b) (cln B (whl nu de a) (whl nu de b))) = r at *
    have e1 : ∃ w, f_L_longestChain now col arr (nI a) (nI b) = some (0, w, vp_updL arr 0 r.toInt64) := by
      unfold f_L_longestChain f_X10_longestChain
      rw [h1, Option.bind_some, Sum.elim_inr, e3]
      exact ⟨_, rfl⟩
    obtain ⟨w1, e1⟩ := e1
    have e2 : ∃ w, f_X11_longestChain th ss d0 dm ot om column cm car chm (nI a) (nI b) = some (r, 0, w) := by
      unfold f_X11_longestChain
      rw [e4, Option.bind_some]
      exact ⟨_, rfl⟩
    obtain ⟨w, e2⟩ := e2
    exact ⟨_, _, e1, e2, (ops1 : Op 0 r 0 (vp_updL arr 0 r.toInt64 0))⟩
  · have e1 : f_L_longestChain now col arr x y = some (1, col, arr) := by
      unfold f_L_longestChain f_X10_longestChain
      rw [h1]
      rfl
    have e2 : f_X11_longestChain th ss d0 dm ot om column cm car chm x y = some (0, 1, d0, dm, ot, om, column, cm, car, chm) := by
      unfold f_X11_longestChain
      rw [m_noColumns h2]
      rfl
    exact ⟨_, _, e1, e2, rfl, fun q => absurd q n1⟩
theorem op_sumDigit {now : SC} {ss : Nat → Int32} (S : Sh now ss) (col : CC) (arr : Nat → Int64) (th : Int32) (d0 : Nat → Int32) (dm : Int32) (ot : Nat → Int32) (om : Int32) (column : Nat → Int32) (cm car chm x y z : Int32) : ∃ P Q, f_L_sumDigit now col arr x y z = some P ∧ f_X11_sumDigit th ss d0 dm ot om column cm car chm x y z = some Q ∧ Op P.1 Q.1 Q.2.1 (P.2.2 0) := by
  obtain ⟨B, nu, de, R, C, M, T⟩ := S
  rcases acc2_cases x y with ⟨a, b, ha, hb, rfl, rfl, h1, h2⟩ | ⟨h1, h2⟩
  · obtain ⟨f, e3, hf⟩ := v_formColumns R C ha hb col
    obtain ⟨D, O, g, e4, hg⟩ := m_hasColumns R M ha hb th d0 dm ot om column cm car chm
    have hL := clen_le B (whl nu de a) (whl nu de b)
    have hL0 := clen_pos B (whl nu de a) (whl nu de b)
    generalize nI (cct B (whl nu de a) (whl nu de b) (cln B (whl nu de a) (whl nu de b))) = r1 at *
    generalize nI (cmx B (whl nu de a) (whl nu de b) (cln B (whl nu de a) (whl nu de b))) = r2 at *
    generalize clen B (whl nu de a) (whl nu de b) = N at *
    have bad : (z < 0 ∨ nI N ≤ z) → ∃ P Q, f_L_sumDigit now col arr (nI a) (nI b) z = some P ∧ f_X11_sumDigit th ss d0 dm ot om column cm car chm (nI a) (nI b) z = some Q ∧ Op P.1 Q.1 Q.2.1 (P.2.2 0) := by
      intro q
      have e1 : f_L_sumDigit now col arr (nI a) (nI b) z = some (1, (nI N, r1, r2, f), arr) := by
        unfold f_L_sumDigit f_X10_sumDigit
        rw [h1, Option.bind_some, Sum.elim_inr, e3, Option.bind_some]
        by_cases y0 : z < 0
        · rw [if_pos y0]; rfl
        · rw [if_neg y0, if_neg (show ¬ z < nI N from c_out (q.elim (fun w => absurd w y0) id))]; rfl
      have e2 : ∃ w, f_X11_sumDigit th ss d0 dm ot om column cm car chm (nI a) (nI b) z = some (0, 1, w) := by
        unfold f_X11_sumDigit
        rw [e4, Option.bind_some, if_neg n1, m_out hL0 (by omega) q]
        exact ⟨_, rfl⟩
      obtain ⟨w, e2⟩ := e2
      exact ⟨_, _, e1, e2, rfl, fun q => absurd q n1⟩
    rcases pk_ix z (n := N) (by omega) with q | q | ⟨k, hk, rfl⟩
    · exact bad (Or.inl q)
    · exact bad (Or.inr q)
    · have e1 : f_L_sumDigit now col arr (nI a) (nI b) (nI k) = some (0, (nI N, r1, r2, f), vp_updL arr 0 (f k).toInt64) := by
        unfold f_L_sumDigit f_X10_sumDigit
        rw [h1, Option.bind_some, Sum.elim_inr, e3, Option.bind_some, if_neg (nI_pos (by omega)), if_pos (show nI k < nI N from (c_lt (by omega) (by omega)).mpr hk), q_digitAt (by omega)]
        rfl
      have hcl : (nI k).toNatClampNeg = k := nI_clamp (by omega)
      have e2 : ∃ w, f_X11_sumDigit th ss d0 dm ot om column cm car chm (nI a) (nI b) (nI k) = some (f k, 0, w) := by
        unfold f_X11_sumDigit
        rw [e4, Option.bind_some, if_neg n1, m_in hk (by omega), Option.bind_some, if_neg n1, if_neg (nI_in (by omega) (by omega)), hcl, hf k hk, ← hg k hk]
        exact ⟨_, rfl⟩
      obtain ⟨w, e2⟩ := e2
      exact ⟨_, _, e1, e2, (ops1 : Op 0 (f k) 0 (vp_updL arr 0 (f k).toInt64 0))⟩
  · have e1 : f_L_sumDigit now col arr x y z = some (1, col, arr) := by
      unfold f_L_sumDigit f_X10_sumDigit
      rw [h1]
      rfl
    have e2 : f_X11_sumDigit th ss d0 dm ot om column cm car chm x y z = some (0, 1, d0, dm, ot, om, column, cm, car, chm) := by
      unfold f_X11_sumDigit
      rw [m_noColumns h2]
      rfl
    exact ⟨_, _, e1, e2, rfl, fun q => absurd q n1⟩
theorem v_total {c : SC} {B : Nat} {nu de : Nat → Nat} (R : Rok B nu de) (C : Cok c B nu de) {a b : Nat} (ha : a < 6) (hb : b < 6) {c1 c2 : Int32} {f : Nat → Int32} (hf : ∀ j, j < clen B (whl nu de a) (whl nu de b) → f j = nI (dgt B (whl nu de a + whl nu de b) j)) : f_X1_total (nI (clen B (whl nu de a) (whl nu de b)), c1, c2, f) c.1 = some (lN (whl nu de a + whl nu de b)) := by
  rw [C.1]
  exact q_total R.1 R.2.1 (R.wh ha).1 (R.wh hb).1 hf
theorem op_sumByColumns {now : SC} {ss : Nat → Int32} (S : Sh now ss) (col : CC) (arr : Nat → Int64) (th x y : Int32) : ∃ P Q, f_L_sumByColumns now col arr x y = some P ∧ f_X11_sumByColumns th ss x y = some Q ∧ OpL P.1 Q.1 Q.2 (P.2.2 0) := by
  obtain ⟨B, nu, de, R, C, M, T⟩ := S
  rcases acc2_cases x y with ⟨a, b, ha, hb, rfl, rfl, h1, h2⟩ | ⟨h1, h2⟩
  · obtain ⟨f, e3, hf⟩ := v_formColumns R C ha hb col
    have hu := (R.wh ha).1
    have hv := (R.wh hb).1
    have e1 : ∃ w, f_L_sumByColumns now col arr (nI a) (nI b) = some (0, w, vp_updL arr 0 (lN (whl nu de a + whl nu de b))) := by
      unfold f_L_sumByColumns f_X10_sumByColumns
      rw [h1, Option.bind_some, Sum.elim_inr, e3, Option.bind_some, v_total R C ha hb hf]
      exact ⟨_, rfl⟩
    obtain ⟨w1, e1⟩ := e1
    have e2 : f_X11_sumByColumns th ss (nI a) (nI b) = some (lN (whl nu de a + whl nu de b), 0) := by
      unfold f_X11_sumByColumns
      rw [h2, Option.bind_some, if_neg n1, m_wholeOf R M ha, Option.bind_some, m_wholeOf R M hb, Option.bind_some, nI_l (by omega), nI_l (by omega), lN_add]
    exact ⟨_, _, e1, e2, (opl1 : OpL 0 (lN (whl nu de a + whl nu de b)) 0 (vp_updL arr 0 (lN (whl nu de a + whl nu de b)) 0))⟩
  · have e1 : f_L_sumByColumns now col arr x y = some (1, col, arr) := by
      unfold f_L_sumByColumns f_X10_sumByColumns
      rw [h1]
      rfl
    have e2 : f_X11_sumByColumns th ss x y = some ((0 : Int32).toInt64, 1) := by
      unfold f_X11_sumByColumns
      rw [h2]
      rfl
    exact ⟨_, _, e1, e2, rfl, fun q => absurd q n1⟩
theorem v_whyNoSum {c : SC} {B : Nat} {nu de : Nat → Nat} (R : Rok B nu de) (C : Cok c B nu de) {a b : Nat} (ha : a < 6) (hb : b < 6) (res : RC) : ∃ r, f_X10_whyNoSum c res (nI a) (nI b) = some (Sum.inr (nI (cod (nu a * de b + nu b * de a) (de a * de b)), r)) := by
  obtain ⟨s1, s2, s3, s4⟩ := q_formSum res R C ha hb
  generalize nu a * de b + nu b * de a = n at *
  generalize de a * de b = d at *
  have h1 := Nat.div_le_self n (Nat.gcd n d)
  have h2 := Nat.div_le_self d (Nat.gcd n d)
  have h3 : rdn n d < 2 ^ 63 := by unfold rdn; omega
  have h4 : rdd n d < 2 ^ 63 := by unfold rdd; omega
  refine ⟨(lN (rdn n d), lN (rdd n d)), ?_⟩
  unfold f_X10_whyNoSum
  rw [q_req2 ha hb, Option.bind_some, Sum.elim_inr, s1, Option.bind_some]
  show (if lN 999999999 < lN (rdn n d) then _ else (if lN 999 < lN (rdd n d) then _ else _)) = _
  unfold cod
  by_cases x : 999999999 < rdn n d
  · rw [if_pos x, if_pos ((pk_lLT (by omega) h3).mpr x)]; rfl
  · rw [if_neg x, if_neg (fun q => x ((pk_lLT (by omega) h3).mp q))]
    by_cases y : 999 < rdd n d
    · rw [if_pos y, if_pos ((pk_lLT (by omega) h4).mpr y)]; rfl
    · rw [if_neg y, if_neg (fun q => y ((pk_lLT (by omega) h4).mp q))]; rfl
theorem op_whyNoSum {now : SC} {ss : Nat → Int32} (S : Sh now ss) (res : RC) (arr : Nat → Int64) (t u : Int64) (th x y : Int32) : ∃ P Q, f_L_whyNoSum now res arr x y = some P ∧ f_X11_whyNoSum th ss t u x y = some Q ∧ Op P.1 Q.1 Q.2.1 (P.2.2 0) := by
  obtain ⟨B, nu, de, R, C, M, T⟩ := S
  rcases acc2_cases x y with ⟨a, b, ha, hb, rfl, rfl, h1, h2⟩ | ⟨h1, h2⟩
  · obtain ⟨r, e3⟩ := v_whyNoSum R C ha hb res
    have e4 := m_makesSum t u R M ha hb
    generalize nI (cod (nu a * de b + nu b * de a) (de a * de b)) = v at *
    have e1 : f_L_whyNoSum now res arr (nI a) (nI b) = some (0, r, vp_updL arr 0 v.toInt64) := by
      unfold f_L_whyNoSum
      rw [e3]
      rfl
    have e2 : ∃ w, f_X11_whyNoSum th ss t u (nI a) (nI b) = some (v, 0, w) := by
      unfold f_X11_whyNoSum
      rw [h2, Option.bind_some, if_neg n1, e4]
      exact ⟨_, rfl⟩
    obtain ⟨w, e2⟩ := e2
    exact ⟨_, _, e1, e2, (ops1 : Op 0 v 0 (vp_updL arr 0 v.toInt64 0))⟩
  · have e1 : f_L_whyNoSum now res arr x y = some (1, res, arr) := by
      unfold f_L_whyNoSum f_X10_whyNoSum
      rw [h1]
      rfl
    have e2 : f_X11_whyNoSum th ss t u x y = some (0, 1, t, u) := by
      unfold f_X11_whyNoSum
      rw [h2]
      rfl
    exact ⟨_, _, e1, e2, rfl, fun q => absurd q n1⟩
theorem rdd_lcm {na da nb db : Nat} (ha : 0 < da) (hb : 0 < db) : rdd (na * db + nb * da) (da * db) ∣ Nat.lcm da db := by
  have hg : 0 < Nat.gcd da db := Nat.gcd_pos_of_pos_left db ha
  have hd : 0 < da * db := Nat.mul_pos ha hb
  have h1 : Nat.gcd da db ∣ na * db + nb * da := Nat.dvd_add (Nat.dvd_trans (Nat.gcd_dvd_right da db) (Nat.dvd_mul_left db na)) (Nat.dvd_trans (Nat.gcd_dvd_left da db) (Nat.dvd_mul_left da nb))
  have h2 : Nat.gcd da db ∣ da * db := Nat.dvd_trans (Nat.gcd_dvd_left da db) (Nat.dvd_mul_right da db)
  obtain ⟨m, hm⟩ := Nat.dvd_gcd h1 h2
  have h3 : Nat.gcd da db * Nat.lcm da db = da * db := Nat.gcd_mul_lcm da db
  have h4 : rdd (na * db + nb * da) (da * db) * Nat.gcd (na * db + nb * da) (da * db) = da * db := Nat.div_mul_cancel (Nat.gcd_dvd_right _ _)
  generalize rdd (na * db + nb * da) (da * db) = r at *
  refine ⟨m, Nat.eq_of_mul_eq_mul_left hg ?_⟩
  rw [h3, Nat.mul_left_comm, ← hm]
  exact h4.symm
theorem per_sum {B : Nat} {nu de : Nat → Nat} (R : Rok B nu de) {a b : Nat} (ha : a < 6) (hb : b < 6) : ∃ k, (f_X0_coprimePart (lN (rdd (nu a * de b + nu b * de a) (de a * de b))) (nI B)).bind (fun v => f_X0_periodByFactors v (nI B)) = some (nI k) ∧ f_X11_periodOf (nI (rdd (nu a * de b + nu b * de a) (de a * de b))) (nI B) = some (nI k) := by
  obtain ⟨h1, h2, h3, h4⟩ := R.2.2 a ha
  obtain ⟨k1, k2, k3, k4⟩ := R.2.2 b hb
  have hB := R.1
  have hB2 := R.2.1
  have b3 : de a * de b ≤ 999 * 999 := Nat.mul_le_mul h3 k3
  have b4 : 0 < de a * de b := Nat.mul_pos h2 k2
  have hdv := rdd_lcm (na := nu a) (nb := nu b) h2 k2
  obtain ⟨g1, g2, g3, g4⟩ := red_ok (n := nu a * de b + nu b * de a) b4
  have hs := small9_of (small9_lcm h2 h3 k2 k3) hdv
  generalize rdd (nu a * de b + nu b * de a) (de a * de b) = d at *
  obtain ⟨k, e1, e2, e3⟩ := m_period (B := B) (d := d) (t := 20) hB (by omega) g1 (by omega) (by omega) (by omega)
  obtain ⟨p1, p2, p3⟩ := hcop_ok (B := B) (by omega) 20 d g1 (by omega)
  obtain ⟨e, he, -⟩ := hcop_split (B := B) (by omega) 20 d g1 (by omega)
  have hs2 : small9 (hcop B 20 d) := small9_of hs ⟨e, by rw [Nat.mul_comm]; exact he⟩
  obtain ⟨k', e4, e5⟩ := q_factors (B := B) (c := hcop B 20 d) hB (by omega) (by omega) p2 (by rw [Nat.gcd_comm]; exact p1) hs2
  have hk : k' = k := isP_one e5 e2
  subst hk
  refine ⟨k', ?_, e1⟩
  rw [q_cop (B := B) (d := d) (t := 20) (by omega) (by omega) g1 (by omega) (by omega), Option.bind_some]
  exact e4
theorem v_periodOfSum {c : SC} {ss : Nat → Int32} {B : Nat} {nu de : Nat → Nat} (R : Rok B nu de) (C : Cok c B nu de) (M : Mok ss B nu de) {a b : Nat} (ha : a < 6) (hb : b < 6) (res : RC) (t u : Int64) : ∃ k r w, f_X10_periodOfSum c res (nI a) (nI b) = some (Sum.inr (nI k, r)) ∧ f_X11_sumPeriod ss t u (nI a) (nI b) = some (nI k, w) := by
  obtain ⟨s1, s2, s3, s4⟩ := q_formSum res R C ha hb
  have s5 := m_makesSum t u R M ha hb
  obtain ⟨k, e1, e2⟩ := per_sum R ha hb
  refine ⟨k, (lN (rdn (nu a * de b + nu b * de a) (de a * de b)), lN (rdd (nu a * de b + nu b * de a) (de a * de b))), (lN (rdn (nu a * de b + nu b * de a) (de a * de b)), lN (rdd (nu a * de b + nu b * de a) (de a * de b))), ?_, ?_⟩
  · unfold f_X10_periodOfSum
    rw [q_req2 ha hb, Option.bind_some, Sum.elim_inr, s1, Option.bind_some, C.1]
    show ((f_X0_coprimePart (lN (rdd (nu a * de b + nu b * de a) (de a * de b))) (nI B)).bind _) = _
    cases hq : f_X0_coprimePart (lN (rdd (nu a * de b + nu b * de a) (de a * de b))) (nI B) with
    | none => rw [hq] at e1; cases e1
    | some v =>
      rw [hq, Option.bind_some] at e1
      rw [Option.bind_some, e1]
      rfl
  · unfold f_X11_sumPeriod
    rw [s5, Option.bind_some, z0, M.1]
    show ((f_X11_periodOf (lN (rdd (nu a * de b + nu b * de a) (de a * de b))).toInt32 (nI B)).bind _) = _
    rw [lN_i, e2]
    rfl
theorem op_periodOfSum {now : SC} {ss : Nat → Int32} (S : Sh now ss) (res : RC) (arr : Nat → Int64) (t u : Int64) (th x y : Int32) : ∃ P Q, f_L_periodOfSum now res arr x y = some P ∧ f_X11_periodOfSum th ss t u x y = some Q ∧ Op P.1 Q.1 Q.2.1 (P.2.2 0) := by
  obtain ⟨B, nu, de, R, C, M, T⟩ := S
  rcases acc2_cases x y with ⟨a, b, ha, hb, rfl, rfl, h1, h2⟩ | ⟨h1, h2⟩
  · obtain ⟨k, r, w, e3, e4⟩ := v_periodOfSum R C M ha hb res t u
    have e1 : f_L_periodOfSum now res arr (nI a) (nI b) = some (0, r, vp_updL arr 0 (nI k).toInt64) := by
      unfold f_L_periodOfSum
      rw [e3]
      rfl
    have e2 : ∃ w, f_X11_periodOfSum th ss t u (nI a) (nI b) = some (nI k, 0, w) := by
      unfold f_X11_periodOfSum
      rw [h2, Option.bind_some, if_neg n1, e4]
      exact ⟨_, rfl⟩
    obtain ⟨w, e2⟩ := e2
    exact ⟨_, _, e1, e2, (ops1 : Op 0 (nI k) 0 (vp_updL arr 0 (nI k).toInt64 0))⟩
  · have e1 : f_L_periodOfSum now res arr x y = some (1, res, arr) := by
      unfold f_L_periodOfSum f_X10_periodOfSum
      rw [h1]
      rfl
    have e2 : f_X11_periodOfSum th ss t u x y = some (0, 1, t, u) := by
      unfold f_X11_periodOfSum
      rw [h2]
      rfl
    exact ⟨_, _, e1, e2, rfl, fun q => absurd q n1⟩
