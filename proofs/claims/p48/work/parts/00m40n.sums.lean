/-! add, subtract, shift, pay. -/
theorem reason_neg {r : RC} (h : r.1 < 0) : f_X6_reasonAgainst r = some 3 := by
  unfold f_X6_reasonAgainst
  rw [if_pos h]
theorem c_le0 {k : Nat} (h : k < 2 ^ 31) : nI k ≤ 0 ↔ k = 0 := by
  have := nI_leI (a := k) (b := 0) h (by decide)
  exact this.trans (by omega)
theorem op_add {now : SC} {hist : HC} {ss states : Nat → Int32} {many : Int32} (S : Sh now ss) (H : Hs hist states many) (res : RC) (t u : Int64) (arr : Nat → Int64) (th x y : Int32) : ∃ P Q, f_L_add now hist res arr x y = some P ∧ f_X11_add th ss states many t u x y = some Q ∧ Op P.1 Q.1 Q.2.1 (P.2.2.2.2 0) ∧ Sh P.2.1 Q.2.2.1 ∧ Hs P.2.2.1 Q.2.2.2.1 Q.2.2.2.2.1 := by
  rcases acc2_cases x y with ⟨a, b, ha, hb, rfl, rfl, h1, h2⟩ | ⟨h1, h2⟩
  · obtain ⟨B, nu, de, R, C, M, T⟩ := S
    obtain ⟨s1, s2, s3, s4⟩ := q_formSum res R C ha hb
    have s5 := m_makesSum t u R M ha hb
    generalize nu a * de b + nu b * de a = n at *
    generalize de a * de b = d at *
    have hr := q_reason (n := n) (d := d) (by omega) s3 (by omega)
    have hc := cod_le n d
    by_cases h0 : cod n d = 0
    · obtain ⟨g1, g2, g3, g4⟩ := red_ok (n := n) s3
      obtain ⟨k1, k2⟩ := cod_0 h0
      obtain ⟨now', ss', hist', states', many', e1, e2, e3, R', C', M', T', H'⟩ := save_ok (n := rdn n d) (d := rdd n d) R C M T H ha k1 g1 k2 g4
      have hle : nI (cod n d) ≤ 0 := (c_le0 (by omega)).mpr h0
      rw [if_pos h0] at hr
      have e4 : f_L_add now hist res arr (nI a) (nI b) = some (0, now', hist', (lN (rdn n d), lN (rdd n d)), vp_updL arr 0 (nI (stv nu a (rdn n d) a)).toInt64) := by
        simp only [f_L_add, f_X10_add, h1, Option.bind_some, Sum.elim_inr, s1, f_X10_requirePossible, hr, if_true, e1, q_num C' ha, z0]
      have e5 : f_X11_add th ss states many t u (nI a) (nI b) = some (ss' (3 + a), 0, ss', states', many', lN (rdn n d), lN (rdd n d)) := by
        simp only [f_X11_add, h2, Option.bind_some, n1, if_false, s5, hle, if_true, e2, e3, m_up ha]
      refine ⟨_, _, e4, e5, ⟨rfl, fun _ => ?_⟩, ⟨B, _, _, R', C', M', T'⟩, H'⟩
      show vp_updL arr 0 (nI (stv nu a (rdn n d) a)).toInt64 0 = (ss' (3 + a)).toInt64
      rw [pk_uLs, (M'.2 a ha).1]
    · have hle : ¬ nI (cod n d) ≤ 0 := fun q => h0 ((c_le0 (by omega)).mp q)
      rw [if_neg h0] at hr
      have e4 : f_L_add now hist res arr (nI a) (nI b) = some (2, now, hist, (lN (rdn n d), lN (rdd n d)), arr) := by
        simp only [f_L_add, f_X10_add, h1, Option.bind_some, Sum.elim_inr, s1, f_X10_requirePossible, hr, n2, if_false, Sum.elim_inl, d31, if_true]
      have e5 : f_X11_add th ss states many t u (nI a) (nI b) = some (0, 2, ss, states, many, lN (rdn n d), lN (rdd n d)) := by
        simp only [f_X11_add, h2, Option.bind_some, n1, if_false, s5, hle, f_X11_fails]
      exact ⟨_, _, e4, e5, ⟨rfl, fun q => absurd q n2⟩, ⟨B, nu, de, R, C, M, T⟩, H⟩
  · have e1 : f_L_add now hist res arr x y = some (1, now, hist, res, arr) := by
      simp only [f_L_add, f_X10_add, h1, Option.bind_some, Sum.elim_inl, if_true]
    have e2 : f_X11_add th ss states many t u x y = some (0, 1, ss, states, many, t, u) := by
      simp only [f_X11_add, h2, Option.bind_some, if_true, f_X11_fails]
    exact ⟨_, _, e1, e2, ⟨rfl, fun q => absurd q n1⟩, S, H⟩
theorem op_subtract {now : SC} {hist : HC} {ss states : Nat → Int32} {many : Int32} (S : Sh now ss) (H : Hs hist states many) (res : RC) (t u : Int64) (arr : Nat → Int64) (th x y : Int32) : ∃ P Q, f_L_subtract now hist res arr x y = some P ∧ f_X11_subtract th ss states many t u x y = some Q ∧ Op P.1 Q.1 Q.2.1 (P.2.2.2.2 0) ∧ Sh P.2.1 Q.2.2.1 ∧ Hs P.2.2.1 Q.2.2.2.1 Q.2.2.2.2.1 := by
  rcases acc2_cases x y with ⟨a, b, ha, hb, rfl, rfl, h1, h2⟩ | ⟨h1, h2⟩
  · obtain ⟨B, nu, de, R, C, M, T⟩ := S
    have s1 := q_formDiff res R C ha hb
    have s5 := m_makesDiff t u R M ha hb
    obtain ⟨_, s2, s3, s4⟩ := q_formSum res R C ha hb
    have b1 : nu a * de b < 2 ^ 62 := by omega
    have b2 : nu b * de a < 2 ^ 62 := by omega
    generalize nu a * de b = p at *
    generalize nu b * de a = q at *
    generalize de a * de b = d at *
    by_cases hpq : q ≤ p
    · rw [lN_sub hpq, q_put res (by omega) s3 (by omega)] at s1
      rw [lN_sub hpq, m_makes t u (by omega) s3 (by omega)] at s5
      have hnlt : p - q < 2 ^ 62 := by omega
      generalize p - q = n at *
      have hn2 : rdn n d ≤ n := Nat.div_le_self _ _
      have hr := q_reason (n := n) (d := d) (by omega) s3 (by omega)
      have hc := cod_le n d
      have hnn : ¬ lN (rdn n d) < 0 := fun w => by have := (pk_lLT (b := 0) (by omega) (by decide)).mp w; omega
      by_cases h0 : cod n d = 0
      · obtain ⟨g1, g2, g3, g4⟩ := red_ok (n := n) s3
        obtain ⟨k1, k2⟩ := cod_0 h0
        obtain ⟨now', ss', hist', states', many', e1, e2, e3, R', C', M', T', H'⟩ := save_ok (n := rdn n d) (d := rdd n d) R C M T H ha k1 g1 k2 g4
        have hle : ¬ 0 < nI (cod n d) := fun w => by have := (c_0lt (by omega)).mp w; omega
        rw [if_pos h0] at hr
        have e4 : f_L_subtract now hist res arr (nI a) (nI b) = some (0, now', hist', (lN (rdn n d), lN (rdd n d)), vp_updL arr 0 (nI (stv nu a (rdn n d) a)).toInt64) := by
          simp only [f_L_subtract, f_X10_subtract, h1, Option.bind_some, Sum.elim_inr, s1, f_X10_requirePossible, hr, if_true, e1, q_num C' ha, z0]
        have e5 : f_X11_subtract th ss states many t u (nI a) (nI b) = some (ss' (3 + a), 0, ss', states', many', lN (rdn n d), lN (rdd n d)) := by
          simp only [f_X11_subtract, h2, Option.bind_some, n1, if_false, s5, hle, hnn, e2, e3, m_up ha]
        refine ⟨_, _, e4, e5, ⟨rfl, fun _ => ?_⟩, ⟨B, _, _, R', C', M', T'⟩, H'⟩
        show vp_updL arr 0 (nI (stv nu a (rdn n d) a)).toInt64 0 = (ss' (3 + a)).toInt64
        rw [pk_uLs, (M'.2 a ha).1]
      · have hle : 0 < nI (cod n d) := (c_0lt (by omega)).mpr (by omega)
        rw [if_neg h0] at hr
        have e4 : f_L_subtract now hist res arr (nI a) (nI b) = some (2, now, hist, (lN (rdn n d), lN (rdd n d)), arr) := by
          simp only [f_L_subtract, f_X10_subtract, h1, Option.bind_some, Sum.elim_inr, s1, f_X10_requirePossible, hr, n2, if_false, Sum.elim_inl, d31, if_true]
        have e5 : f_X11_subtract th ss states many t u (nI a) (nI b) = some (0, 2, ss, states, many, lN (rdn n d), lN (rdd n d)) := by
          simp only [f_X11_subtract, h2, Option.bind_some, n1, if_false, s5, hle, if_true, f_X11_subtract_b38, f_X11_fails]
        exact ⟨_, _, e4, e5, ⟨rfl, fun q => absurd q n2⟩, ⟨B, nu, de, R, C, M, T⟩, H⟩
    · obtain ⟨g1, g2⟩ := sub_neg (a := p) (b := q) (by omega) b2
      obtain ⟨r', e1, hr'⟩ := neg_put res g1 g2 s3 (by omega)
      obtain ⟨k, tt, bb, e2, ht, hk⟩ := neg_makes t u g1 g2 s3 (by omega)
      rw [e1] at s1
      rw [e2] at s5
      have hr := reason_neg hr'
      have e4 : f_L_subtract now hist res arr (nI a) (nI b) = some (2, now, hist, r', arr) := by
        simp only [f_L_subtract, f_X10_subtract, h1, Option.bind_some, Sum.elim_inr, s1, f_X10_requirePossible, hr, n3, if_false, Sum.elim_inl, d31, if_true]
      have e5 : f_X11_subtract th ss states many t u (nI a) (nI b) = some (0, 2, ss, states, many, tt, bb) := by
        simp only [f_X11_subtract, h2, Option.bind_some, n1, if_false, s5, ht, if_true, f_X11_subtract_b38, f_X11_fails, ite_self]
      exact ⟨_, _, e4, e5, ⟨rfl, fun q => absurd q n2⟩, ⟨B, nu, de, R, C, M, T⟩, H⟩
  · have e1 : f_L_subtract now hist res arr x y = some (1, now, hist, res, arr) := by
      simp only [f_L_subtract, f_X10_subtract, h1, Option.bind_some, Sum.elim_inl, if_true]
    have e2 : f_X11_subtract th ss states many t u x y = some (0, 1, ss, states, many, t, u) := by
      simp only [f_X11_subtract, h2, Option.bind_some, if_true, f_X11_fails]
    exact ⟨_, _, e1, e2, ⟨rfl, fun q => absurd q n1⟩, S, H⟩
-- shifts
theorem m_power_loop {ss : Nat → Int32} {B e : Nat} (hb : ss 0 = nI B) (he : e ≤ 99) : ∀ (t n i : Nat), i + t = e → t < n → f_X11_power_b4 n ss (nI e) (nI (B ^ i)) (nI i) = some (nI (B ^ e)) := by
  intro t
  induction t with
  | zero =>
    intro n i h hn
    obtain ⟨n, rfl⟩ : ∃ m, n = m + 1 := ⟨n - 1, by omega⟩
    have hi : i = e := by omega
    subst hi
    show (if nI i ≤ nI i then _ else _) = _
    rw [if_pos ((nI_leI (by omega) (by omega)).mpr (Nat.le_refl _))]
  | succ t ih =>
    intro n i h hn
    obtain ⟨n, rfl⟩ : ∃ m, n = m + 1 := ⟨n - 1, by omega⟩
    show (if nI e ≤ nI i then _ else f_X11_power_b4 n ss (nI e) (nI (B ^ i) * (ss 0)) (nI i + 1)) = _
    rw [if_neg (fun q => by have := (nI_leI (by omega) (by omega)).mp q; omega), hb, pk_mul, nI_1, ← Nat.pow_succ]
    exact ih n (i + 1) (by omega) (by omega)
theorem m_power {ss : Nat → Int32} {B e : Nat} (hb : ss 0 = nI B) (he : e ≤ 99) : f_X11_power ss (nI e) = some (nI (B ^ e)) := by
  unfold f_X11_power
  exact m_power_loop hb he e xfuel 0 (by omega) (by unfold xfuel; omega)
theorem shift_cases {x : Int32} (h1 : ¬ x < -3) (h2 : x ≤ 3) : (∃ e : Nat, e ≤ 3 ∧ x = nI e) ∨ (∃ e : Nat, 1 ≤ e ∧ e ≤ 3 ∧ ¬ 0 ≤ x ∧ -x = nI e ∧ 0 - x = nI e) := by
  have a1 : ¬ x.toInt < -3 := fun q => h1 (Int32.lt_iff_toInt_lt.mpr q)
  have a2 : x.toInt ≤ 3 := Int32.le_iff_toInt_le.mp h2
  have k : x = -3 ∨ x = -2 ∨ x = -1 ∨ x = 0 ∨ x = 1 ∨ x = 2 ∨ x = 3 := by
    have e : x.toInt = -3 ∨ x.toInt = -2 ∨ x.toInt = -1 ∨ x.toInt = 0 ∨ x.toInt = 1 ∨ x.toInt = 2 ∨ x.toInt = 3 := by omega
    rcases e with e | e | e | e | e | e | e
    · exact Or.inl (Int32.toInt_inj.mp e)
    · exact Or.inr (Or.inl (Int32.toInt_inj.mp e))
    · exact Or.inr (Or.inr (Or.inl (Int32.toInt_inj.mp e)))
    · exact Or.inr (Or.inr (Or.inr (Or.inl (Int32.toInt_inj.mp e))))
    · exact Or.inr (Or.inr (Or.inr (Or.inr (Or.inl (Int32.toInt_inj.mp e)))))
    · exact Or.inr (Or.inr (Or.inr (Or.inr (Or.inr (Or.inl (Int32.toInt_inj.mp e))))))
    · exact Or.inr (Or.inr (Or.inr (Or.inr (Or.inr (Or.inr (Int32.toInt_inj.mp e))))))
  rcases k with k | k | k | k | k | k | k <;> subst k
  · exact Or.inr ⟨3, by omega, by omega, by decide, by decide, by decide⟩
  · exact Or.inr ⟨2, by omega, by omega, by decide, by decide, by decide⟩
  · exact Or.inr ⟨1, by omega, by omega, by decide, by decide, by decide⟩
  · exact Or.inl ⟨0, by omega, by decide⟩
  · exact Or.inl ⟨1, by omega, by decide⟩
  · exact Or.inl ⟨2, by omega, by decide⟩
  · exact Or.inl ⟨3, by omega, by decide⟩
theorem shift_forms {now : SC} {ss : Nat → Int32} {B : Nat} {nu de : Nat → Nat} (res : RC) (t u : Int64) {x : Int32} (R : Rok B nu de) (C : Cok now B nu de) (M : Mok ss B nu de) {a : Nat} (ha : a < 6) (h1 : ¬ x < -3) (h2 : x ≤ 3) : ∃ n d, n < 2 ^ 62 ∧ 0 < d ∧ d < 2 ^ 62 ∧ f_X10_formShift now res (nI a) x = some (lN (rdn n d), lN (rdd n d)) ∧ f_X11_makesShift ss t u (nI a) x = some (nI (cod n d), lN (rdn n d), lN (rdd n d)) := by
  obtain ⟨r1, r2, r3, r4⟩ := R.2.2 a ha
  have hB := R.2.1
  have hB1 := R.1
  have hp : ∀ e, e ≤ 3 → B ^ e ≤ 4913 ∧ 0 < B ^ e := by
    intro e he
    refine ⟨Nat.le_trans (Nat.pow_le_pow_left (show B ≤ 17 by omega) e) (Nat.le_trans (Nat.pow_le_pow_right (by omega) he) (by decide)), Nat.pow_pos (by omega)⟩
  rcases shift_cases h1 h2 with ⟨e, he, rfl⟩ | ⟨e, he0, he, hx, hx1, hx2⟩
  · obtain ⟨p1, p2⟩ := hp e he
    have b1 : nu a * B ^ e ≤ 999999999 * 4913 := Nat.mul_le_mul r1 p1
    have hx : 0 ≤ nI e := nI_pos' (by omega)
    refine ⟨nu a * B ^ e, de a, by omega, r2, by omega, ?_, ?_⟩
    · simp only [f_X10_formShift, hx, if_true, C.1, nI_l (show B < 2 ^ 31 by omega), q_power (B := B) (show e ≤ 99 by omega), Option.bind_some, q_num C ha, q_den C ha, nI_l (show nu a < 2 ^ 31 by omega), nI_l (show de a < 2 ^ 31 by omega), lN_mul, q_put res (show nu a * B ^ e < 2 ^ 63 by omega) r2 (show de a < 2 ^ 63 by omega)]
    · simp only [f_X11_makesShift, hx, if_true, m_up ha, m_down ha, Option.bind_some, m_power M.1 (show e ≤ 99 by omega), (M.2 a ha).1, (M.2 a ha).2, nI_l (show nu a < 2 ^ 31 by omega), nI_l (show de a < 2 ^ 31 by omega), nI_l (show B ^ e < 2 ^ 31 by omega), lN_mul, m_makes t u (show nu a * B ^ e < 2 ^ 63 by omega) r2 (show de a < 2 ^ 63 by omega)]
  · obtain ⟨p1, p2⟩ := hp e he
    have b1 : de a * B ^ e ≤ 999 * 4913 := Nat.mul_le_mul r3 p1
    have b2 : 0 < de a * B ^ e := Nat.mul_pos r2 p2
    refine ⟨nu a, de a * B ^ e, by omega, b2, by omega, ?_, ?_⟩
    · simp only [f_X10_formShift, hx, if_false, hx2, C.1, nI_l (show B < 2 ^ 31 by omega), q_power (B := B) (show e ≤ 99 by omega), Option.bind_some, q_num C ha, q_den C ha, nI_l (show nu a < 2 ^ 31 by omega), nI_l (show de a < 2 ^ 31 by omega), lN_mul, q_put res (show nu a < 2 ^ 63 by omega) b2 (show de a * B ^ e < 2 ^ 63 by omega)]
    · simp only [f_X11_makesShift, hx, if_false, hx1, m_up ha, m_down ha, Option.bind_some, m_power M.1 (show e ≤ 99 by omega), (M.2 a ha).1, (M.2 a ha).2, nI_l (show nu a < 2 ^ 31 by omega), nI_l (show de a < 2 ^ 31 by omega), nI_l (show B ^ e < 2 ^ 31 by omega), lN_mul, m_makes t u (show nu a < 2 ^ 63 by omega) b2 (show de a * B ^ e < 2 ^ 63 by omega)]
theorem op_shift {now : SC} {hist : HC} {ss states : Nat → Int32} {many : Int32} (S : Sh now ss) (H : Hs hist states many) (res : RC) (t u : Int64) (arr : Nat → Int64) (th x y : Int32) : ∃ P Q, f_L_shift now hist res arr x y = some P ∧ f_X11_shift th ss states many t u x y = some Q ∧ Op P.1 Q.1 Q.2.1 (P.2.2.2.2 0) ∧ Sh P.2.1 Q.2.2.1 ∧ Hs P.2.2.1 Q.2.2.2.1 Q.2.2.2.2.1 := by
  rcases acc_cases x with ⟨a, ha, rfl, h1, h2⟩ | ⟨h1, h2⟩
  · by_cases y1 : y < -3
    · have e1 : f_L_shift now hist res arr (nI a) y = some (2, now, hist, res, arr) := by
        simp only [f_L_shift, f_X10_shift, f_X10_shift_b15, h1, Option.bind_some, Sum.elim_inr, y1, Sum.elim_inl, if_true, d21, if_false]
      have e2 : f_X11_shift th ss states many t u (nI a) y = some (0, 2, ss, states, many, t, u) := by
        simp only [f_X11_shift, h2, Option.bind_some, n1, if_false, f_X11_in, y1, if_true, f_X11_fails]
      exact ⟨_, _, e1, e2, ⟨rfl, fun q => absurd q n2⟩, S, H⟩
    · by_cases y2 : y ≤ 3
      · have y3 : ¬ 3 < y := Int32.not_lt.mpr y2
        obtain ⟨B, nu, de, R, C, M, T⟩ := S
        obtain ⟨n, d, s2, s3, s4, s1, s5⟩ := shift_forms res t u R C M ha y1 y2
        have hr := q_reason (n := n) (d := d) (by omega) s3 (by omega)
        have hc := cod_le n d
        by_cases h0 : cod n d = 0
        · obtain ⟨g1, g2, g3, g4⟩ := red_ok (n := n) s3
          obtain ⟨k1, k2⟩ := cod_0 h0
          obtain ⟨now', ss', hist', states', many', e1, e2, e3, R', C', M', T', H'⟩ := save_ok (n := rdn n d) (d := rdd n d) R C M T H ha k1 g1 k2 g4
          have hle : nI (cod n d) ≤ 0 := (c_le0 (by omega)).mpr h0
          rw [if_pos h0] at hr
          have e4 : f_L_shift now hist res arr (nI a) y = some (0, now', hist', (lN (rdn n d), lN (rdd n d)), vp_updL arr 0 (nI (stv de a (rdd n d) a)).toInt64) := by
            simp only [f_L_shift, f_X10_shift, h1, y1, y2, if_true, if_false, Option.bind_some, Sum.elim_inr, s1, f_X10_requirePossible, hr, e1, q_den C' ha, z0]
          have e5 : f_X11_shift th ss states many t u (nI a) y = some (ss' (9 + a), 0, ss', states', many', lN (rdn n d), lN (rdd n d)) := by
            simp only [f_X11_shift, h2, Option.bind_some, n1, if_false, f_X11_in, y1, y3, s5, hle, if_true, e2, e3, m_down ha]
          refine ⟨_, _, e4, e5, ⟨rfl, fun _ => ?_⟩, ⟨B, _, _, R', C', M', T'⟩, H'⟩
          show vp_updL arr 0 (nI (stv de a (rdd n d) a)).toInt64 0 = (ss' (9 + a)).toInt64
          rw [pk_uLs, (M'.2 a ha).2]
        · have hle : ¬ nI (cod n d) ≤ 0 := fun q => h0 ((c_le0 (by omega)).mp q)
          rw [if_neg h0] at hr
          have e4 : f_L_shift now hist res arr (nI a) y = some (3, now, hist, (lN (rdn n d), lN (rdd n d)), arr) := by
            simp only [f_L_shift, f_X10_shift, h1, y1, y2, if_true, Option.bind_some, Sum.elim_inr, s1, f_X10_requirePossible, hr, n2, if_false, Sum.elim_inl, d31, d32]
          have e5 : f_X11_shift th ss states many t u (nI a) y = some (0, 3, ss, states, many, lN (rdn n d), lN (rdd n d)) := by
            simp only [f_X11_shift, h2, Option.bind_some, n1, if_false, f_X11_in, y1, y3, s5, hle, f_X11_fails]
          exact ⟨_, _, e4, e5, ⟨rfl, fun q => absurd q n3⟩, ⟨B, nu, de, R, C, M, T⟩, H⟩
      · have y3 : 3 < y := Int32.not_le.mp y2
        have e1 : f_L_shift now hist res arr (nI a) y = some (2, now, hist, res, arr) := by
          simp only [f_L_shift, f_X10_shift, f_X10_shift_b15, h1, Option.bind_some, Sum.elim_inr, y1, y2, Sum.elim_inl, if_true, d21, if_false]
        have e2 : f_X11_shift th ss states many t u (nI a) y = some (0, 2, ss, states, many, t, u) := by
          simp only [f_X11_shift, h2, Option.bind_some, n1, if_false, f_X11_in, y1, y3, if_true, f_X11_fails]
        exact ⟨_, _, e1, e2, ⟨rfl, fun q => absurd q n2⟩, S, H⟩
  · have e1 : f_L_shift now hist res arr x y = some (1, now, hist, res, arr) := by
      simp only [f_L_shift, f_X10_shift, h1, Option.bind_some, Sum.elim_inl, if_true]
    have e2 : f_X11_shift th ss states many t u x y = some (0, 1, ss, states, many, t, u) := by
      simp only [f_X11_shift, h2, Option.bind_some, if_true, f_X11_fails]
    exact ⟨_, _, e1, e2, ⟨rfl, fun q => absurd q n1⟩, S, H⟩
-- payments
theorem l_negk {k : Nat} (hk : k < 2 ^ 31) : (-(nI k)).toInt64 = -(lN k) := by
  refine Int64.toInt_inj.mp ?_
  rw [Int32.toInt_toInt64, Int32.toInt_neg, nI_toInt hk, Int64.toInt_neg, pk_lT (by omega), l_bm (by omega) (by omega)]
  exact Int.bmod_eq_of_le (by omega) (by omega)
theorem l_addneg (x y z : Int64) : x + (-y) * z = x - y * z := by grind
theorem q_coinsUp {c : SC} {B : Nat} {nu de : Nat → Nat} (r : RC) (R : Rok B nu de) (C : Cok c B nu de) {a k : Nat} (ha : a < 6) (hk : k ≤ 999999) : f_X10_formWithCoins c r (nI a) (nI k).toInt64 = some (lN (rdn (nu a + k * de a) (de a)), lN (rdd (nu a + k * de a) (de a))) ∧ nu a + k * de a < 2 ^ 62 := by
  obtain ⟨h1, h2, h3, h4⟩ := R.2.2 a ha
  have b1 : k * de a ≤ 999999 * 999 := Nat.mul_le_mul hk h3
  refine ⟨?_, by omega⟩
  simp only [f_X10_formWithCoins, q_den C ha, q_num C ha, Option.bind_some, nI_l (show nu a < 2 ^ 31 by omega), nI_l (show de a < 2 ^ 31 by omega), nI_l (show k < 2 ^ 31 by omega), lN_mul, lN_add, q_put r (show nu a + k * de a < 2 ^ 63 by omega) h2 (show de a < 2 ^ 63 by omega)]
theorem m_coinsUp {ss : Nat → Int32} {B : Nat} {nu de : Nat → Nat} (t u : Int64) (R : Rok B nu de) (M : Mok ss B nu de) {a k : Nat} (ha : a < 6) (hk : k ≤ 999999) : f_X11_makesMore ss t u (nI a) (nI k) = some (nI (cod (nu a + k * de a) (de a)), lN (rdn (nu a + k * de a) (de a)), lN (rdd (nu a + k * de a) (de a))) := by
  obtain ⟨h1, h2, h3, h4⟩ := R.2.2 a ha
  have b1 : k * de a ≤ 999999 * 999 := Nat.mul_le_mul hk h3
  simp only [f_X11_makesMore, m_up ha, m_down ha, (M.2 a ha).1, (M.2 a ha).2, Option.bind_some, nI_l (show nu a < 2 ^ 31 by omega), nI_l (show de a < 2 ^ 31 by omega), nI_l (show k < 2 ^ 31 by omega), lN_mul, lN_add, m_makes t u (show nu a + k * de a < 2 ^ 63 by omega) h2 (show de a < 2 ^ 63 by omega)]
theorem q_coinsDown {c : SC} {B : Nat} {nu de : Nat → Nat} (r : RC) (R : Rok B nu de) (C : Cok c B nu de) {a k : Nat} (ha : a < 6) (hk : k ≤ 999999) : f_X10_formWithCoins c r (nI a) (-(nI k)).toInt64 = f_X6_put r (lN (nu a) - lN (k * de a)) (lN (de a)) := by
  obtain ⟨h1, h2, h3, h4⟩ := R.2.2 a ha
  simp only [f_X10_formWithCoins, q_den C ha, q_num C ha, Option.bind_some, nI_l (show nu a < 2 ^ 31 by omega), nI_l (show de a < 2 ^ 31 by omega), l_negk (show k < 2 ^ 31 by omega), l_addneg, lN_mul]
  cases f_X6_put r (lN (nu a) - lN (k * de a)) (lN (de a)) <;> rfl
theorem m_coinsDown {ss : Nat → Int32} {B : Nat} {nu de : Nat → Nat} (t u : Int64) (R : Rok B nu de) (M : Mok ss B nu de) {a k : Nat} (ha : a < 6) (hk : k ≤ 999999) : f_X11_makesMore ss t u (nI a) (-(nI k)) = f_X11_makes t u (lN (nu a) - lN (k * de a)) (lN (de a)) := by
  obtain ⟨h1, h2, h3, h4⟩ := R.2.2 a ha
  simp only [f_X11_makesMore, m_up ha, m_down ha, (M.2 a ha).1, (M.2 a ha).2, Option.bind_some, nI_l (show nu a < 2 ^ 31 by omega), nI_l (show de a < 2 ^ 31 by omega), l_negk (show k < 2 ^ 31 by omega), l_addneg, lN_mul]
  cases f_X11_makes t u (lN (nu a) - lN (k * de a)) (lN (de a)) <;> rfl
theorem op_pay {now : SC} {hist : HC} {ss states : Nat → Int32} {many : Int32} (S : Sh now ss) (H : Hs hist states many) (res : RC) (t u : Int64) (arr : Nat → Int64) (th x y z : Int32) : ∃ P Q, f_L_pay now hist res arr x y z = some P ∧ f_X11_pay th ss states many t u x y z = some Q ∧ Op P.1 Q.1 Q.2.1 (P.2.2.2.2 0) ∧ Sh P.2.1 Q.2.2.1 ∧ Hs P.2.2.1 Q.2.2.2.1 Q.2.2.2.2.1 := by
  rcases acc2_cases x y with ⟨a, b, ha, hb, rfl, rfl, h1, h2⟩ | ⟨h1, h2⟩
  · by_cases hab : nI a = nI b
    · rw [← hab] at h1 h2 ⊢
      have e1 : f_L_pay now hist res arr (nI a) (nI a) z = some (2, now, hist, res, arr) := by
        simp only [f_L_pay, f_X10_pay, h1, Option.bind_some, Sum.elim_inr, if_true, Sum.elim_inl, d21, if_false]
      have e2 : f_X11_pay th ss states many t u (nI a) (nI a) z = some (0, 2, ss, states, many, t, u) := by
        simp only [f_X11_pay, h2, Option.bind_some, n1, if_false, if_true, f_X11_pay_b34, f_X11_fails]
      exact ⟨_, _, e1, e2, ⟨rfl, fun q => absurd q n2⟩, S, H⟩
    · by_cases z1 : z < 1
      · have e1 : f_L_pay now hist res arr (nI a) (nI b) z = some (2, now, hist, res, arr) := by
          simp only [f_L_pay, f_X10_pay, f_X10_pay_b31, h1, Option.bind_some, Sum.elim_inr, hab, z1, if_true, Sum.elim_inl, d21, if_false]
        have e2 : f_X11_pay th ss states many t u (nI a) (nI b) z = some (0, 2, ss, states, many, t, u) := by
          simp only [f_X11_pay, h2, Option.bind_some, n1, if_false, hab, f_X11_in, z1, if_true, f_X11_pay_b34, f_X11_fails]
        exact ⟨_, _, e1, e2, ⟨rfl, fun q => absurd q n2⟩, S, H⟩
      · by_cases z2 : z ≤ 999999
        · have z3 : ¬ 999999 < z := Int32.not_lt.mpr z2
          have z0' : ¬ z < 0 := fun q => z1 (Int32.lt_trans q (by decide))
          obtain ⟨k, hk, rfl⟩ := nI_of2 (n := 999999) (M := 999999) rfl z0' z2
          have hne : b ≠ a := fun q => hab (by rw [q])
          obtain ⟨B, nu, de, R, C, M, T⟩ := S
          obtain ⟨r1, r2, r3, r4⟩ := R.2.2 a ha
          obtain ⟨rb1, rb2, rb3, rb4⟩ := R.2.2 b hb
          have hw := (R.wh ha).1
          have mw := m_wholeOf R M ha
          have qd := fun r => q_coinsDown r R C ha hk
          have hkd : k * de a ≤ 999999 * 999 := Nat.mul_le_mul hk r3
          have hcmp : nI (whl nu de a) < nI k ↔ nu a < k * de a := by
            rw [c_lt (by omega) (by omega)]
            unfold whl
            exact Nat.div_lt_iff_lt_mul r2
          by_cases hp : nu a < k * de a
          · have hlt := hcmp.mpr hp
            obtain ⟨g1, g2⟩ := sub_neg hp (by omega)
            obtain ⟨r', e1, hr'⟩ := neg_put res g1 g2 r2 (by omega)
            have hq := qd res
            rw [e1] at hq
            have e4 : f_L_pay now hist res arr (nI a) (nI b) (nI k) = some (3, now, hist, r', arr) := by
              simp only [f_L_pay, f_X10_pay, h1, Option.bind_some, Sum.elim_inr, hab, z1, z2, if_true, if_false, hq, f_X10_requirePossible, reason_neg hr', n3, Sum.elim_inl, d31, d32]
            have e5 : f_X11_pay th ss states many t u (nI a) (nI b) (nI k) = some (0, 3, ss, states, many, t, u) := by
              simp only [f_X11_pay, h2, Option.bind_some, n1, if_false, hab, f_X11_in, z1, z3, mw, hlt, if_true, f_X11_pay_b58, f_X11_fails]
            exact ⟨_, _, e4, e5, ⟨rfl, fun q => absurd q n3⟩, ⟨B, nu, de, R, C, M, T⟩, H⟩
          · have hlt : ¬ nI (whl nu de a) < nI k := fun q => hp (hcmp.mp q)
            have hqd : ∀ r, f_X10_formWithCoins now r (nI a) (-(nI k)).toInt64 = some (lN (rdn (nu a - k * de a) (de a)), lN (rdd (nu a - k * de a) (de a))) := by
              intro r
              rw [qd r, lN_sub (by omega), q_put r (by omega) r2 (by omega)]
            obtain ⟨a1, a2, a3, a4⟩ := red_ok (n := nu a - k * de a) r2
            have hc0 : cod (nu a - k * de a) (de a) = 0 := by
              unfold cod
              rw [if_neg (by omega), if_neg (by omega)]
            have hra := q_reason (n := nu a - k * de a) (d := de a) (by omega) r2 (by omega)
            rw [if_pos hc0] at hra
            obtain ⟨qu, qu2⟩ := q_coinsUp (k := k) (lN (rdn (nu a - k * de a) (de a)), lN (rdd (nu a - k * de a) (de a))) R C hb hk
            have mu := m_coinsUp (k := k) t u R M hb hk
            have hrb := q_reason (n := nu b + k * de b) (d := de b) (by omega) rb2 (by omega)
            have hc := cod_le (nu b + k * de b) (de b)
            by_cases h0 : cod (nu b + k * de b) (de b) = 0
            · obtain ⟨g1, g2, g3, g4⟩ := red_ok (n := nu b + k * de b) rb2
              obtain ⟨k1, k2⟩ := cod_0 h0
              obtain ⟨now', ss', hist', states', many', e1, e2, e3, R', C', M', T', H'⟩ := save_ok (n := rdn (nu b + k * de b) (de b)) (d := rdd (nu b + k * de b) (de b)) R C M T H hb k1 g1 k2 g4
              have hle : nI (cod (nu b + k * de b) (de b)) ≤ 0 := (c_le0 (by omega)).mpr h0
              rw [if_pos h0] at hrb
              have qd' := q_coinsDown (k := k) (lN (rdn (nu b + k * de b) (de b)), lN (rdd (nu b + k * de b) (de b))) R' C' ha hk
              have md' := m_coinsDown (k := k) (lN (rdn (nu b + k * de b) (de b))) (lN (rdd (nu b + k * de b) (de b))) R' M' ha hk
              rw [stv_ne hne.symm, stv_ne hne.symm, lN_sub (by omega)] at qd' md'
              rw [q_put _ (by omega) r2 (by omega)] at qd'
              rw [m_makes _ _ (by omega) r2 (by omega)] at md'
              obtain ⟨R2, C2, M2, T2⟩ := store_ok (n := rdn (nu a - k * de a) (de a)) (d := rdd (nu a - k * de a) (de a)) R' C' M' T' ha (by omega) a1 (by omega) a4
              have hs : f_X7_store now' (lN (rdn (nu a - k * de a) (de a)), lN (rdd (nu a - k * de a) (de a))) (nI a) = some (now'.1, now'.2.1, now'.2.2.1, upd now'.2.2.2.1 a (nI (rdn (nu a - k * de a) (de a))), upd now'.2.2.2.2 a (nI (rdd (nu a - k * de a) (de a)))) := by
                rw [q_store _ _ ha, lN_i, lN_i]
              have hm : f_X11_puts ss' (lN (rdn (nu a - k * de a) (de a))) (lN (rdd (nu a - k * de a) (de a))) (nI a) = some (upd (upd ss' (3 + a) (nI (rdn (nu a - k * de a) (de a)))) (9 + a) (nI (rdd (nu a - k * de a) (de a)))) := by
                rw [m_puts _ _ _ ha, lN_i, lN_i]
              have e4 : f_L_pay now hist res arr (nI a) (nI b) (nI k) = some (0, (now'.1, now'.2.1, now'.2.2.1, upd now'.2.2.2.1 a (nI (rdn (nu a - k * de a) (de a))), upd now'.2.2.2.2 a (nI (rdd (nu a - k * de a) (de a)))), hist', (lN (rdn (nu a - k * de a) (de a)), lN (rdd (nu a - k * de a) (de a))), vp_updL arr 0 (nI (stv (stv nu b (rdn (nu b + k * de b) (de b))) a (rdn (nu a - k * de a) (de a)) a)).toInt64) := by
                simp only [f_L_pay, f_X10_pay, h1, Option.bind_some, Sum.elim_inr, hab, z1, z2, if_true, if_false, hqd, f_X10_requirePossible, hra, qu, hrb, e1, qd', hs, q_num C2 ha, z0]
              have e5 : f_X11_pay th ss states many t u (nI a) (nI b) (nI k) = some (upd (upd ss' (3 + a) (nI (rdn (nu a - k * de a) (de a)))) (9 + a) (nI (rdd (nu a - k * de a) (de a))) (3 + a), 0, upd (upd ss' (3 + a) (nI (rdn (nu a - k * de a) (de a)))) (9 + a) (nI (rdd (nu a - k * de a) (de a))), states', many', lN (rdn (nu a - k * de a) (de a)), lN (rdd (nu a - k * de a) (de a))) := by
                simp only [f_X11_pay, h2, Option.bind_some, n1, if_false, hab, f_X11_in, z1, z3, mw, hlt, mu, hle, if_true, e2, e3, md', hm, m_up ha]
              refine ⟨_, _, e4, e5, ⟨rfl, fun _ => ?_⟩, ⟨B, _, _, R2, C2, M2, T2⟩, H'⟩
              show vp_updL arr 0 (nI (stv (stv nu b (rdn (nu b + k * de b) (de b))) a (rdn (nu a - k * de a) (de a)) a)).toInt64 0 = (upd (upd ss' (3 + a) (nI (rdn (nu a - k * de a) (de a)))) (9 + a) (nI (rdd (nu a - k * de a) (de a))) (3 + a)).toInt64
              rw [pk_uLs, (M2.2 a ha).1]
            · have hle : ¬ nI (cod (nu b + k * de b) (de b)) ≤ 0 := fun q => h0 ((c_le0 (by omega)).mp q)
              rw [if_neg h0] at hrb
              have e4 : f_L_pay now hist res arr (nI a) (nI b) (nI k) = some (3, now, hist, (lN (rdn (nu b + k * de b) (de b)), lN (rdd (nu b + k * de b) (de b))), arr) := by
                simp only [f_L_pay, f_X10_pay, h1, Option.bind_some, Sum.elim_inr, hab, z1, z2, if_true, if_false, hqd, f_X10_requirePossible, hra, qu, hrb, n2, Sum.elim_inl, d31, d32]
              have e5 : f_X11_pay th ss states many t u (nI a) (nI b) (nI k) = some (0, 3, ss, states, many, lN (rdn (nu b + k * de b) (de b)), lN (rdd (nu b + k * de b) (de b))) := by
                simp only [f_X11_pay, h2, Option.bind_some, n1, if_false, hab, f_X11_in, z1, z3, mw, hlt, mu, hle, f_X11_pay_b58, f_X11_fails]
              exact ⟨_, _, e4, e5, ⟨rfl, fun q => absurd q n3⟩, ⟨B, nu, de, R, C, M, T⟩, H⟩
        · have z3 : 999999 < z := Int32.not_le.mp z2
          have e1 : f_L_pay now hist res arr (nI a) (nI b) z = some (2, now, hist, res, arr) := by
            simp only [f_L_pay, f_X10_pay, f_X10_pay_b31, h1, Option.bind_some, Sum.elim_inr, hab, z1, z2, if_true, Sum.elim_inl, d21, if_false]
          have e2 : f_X11_pay th ss states many t u (nI a) (nI b) z = some (0, 2, ss, states, many, t, u) := by
            simp only [f_X11_pay, h2, Option.bind_some, n1, if_false, hab, f_X11_in, z1, z3, if_true, f_X11_pay_b34, f_X11_fails]
          exact ⟨_, _, e1, e2, ⟨rfl, fun q => absurd q n2⟩, S, H⟩
  · have e1 : f_L_pay now hist res arr x y z = some (1, now, hist, res, arr) := by
      simp only [f_L_pay, f_X10_pay, h1, Option.bind_some, Sum.elim_inl, if_true]
    have e2 : f_X11_pay th ss states many t u x y z = some (0, 1, ss, states, many, t, u) := by
      simp only [f_X11_pay, h2, Option.bind_some, if_true, f_X11_fails]
    exact ⟨_, _, e1, e2, ⟨rfl, fun q => absurd q n1⟩, S, H⟩
