/-! The changes of accounts, on both sides. -/
theorem acc_cases (x : Int32) : (∃ a, a < 6 ∧ x = nI a ∧ f_X10_requireAccount x = some (Sum.inr ()) ∧ f_X11_isAccount x = some 1) ∨ (f_X10_requireAccount x = some (Sum.inl 1) ∧ f_X11_isAccount x = some 0) := by
  unfold f_X10_requireAccount f_X11_isAccount f_X11_in f_X10_requireAccount_b10
  rcases pk_ix x (n := 6) (by omega) with h | h | ⟨j, hj, rfl⟩
  · right
    rw [if_pos h, if_pos h, Option.bind_some, if_neg (by decide)]
    exact ⟨rfl, rfl⟩
  · right
    have h0 : ¬ x < 0 := fun q => by
      have a := Int32.lt_iff_toInt_lt.mp q
      have b := Int32.le_iff_toInt_le.mp h
      have e0 : (0 : Int32).toInt = 0 := rfl
      have e6 : (nI 6).toInt = 6 := rfl
      omega
    have h6 : ¬ x < 6 := fun q => by
      have a := Int32.lt_iff_toInt_lt.mp q
      have b := Int32.le_iff_toInt_le.mp h
      have e6 : (nI 6).toInt = 6 := rfl
      have e6' : (6 : Int32).toInt = 6 := rfl
      omega
    have h5 : 5 < x := by
      rw [Int32.lt_iff_toInt_lt]
      have b := Int32.le_iff_toInt_le.mp h
      have e6 : (nI 6).toInt = 6 := rfl
      have e5 : (5 : Int32).toInt = 5 := rfl
      omega
    rw [if_neg h0, if_neg h6, if_neg h0, if_pos h5, Option.bind_some, if_neg (by decide)]
    exact ⟨rfl, rfl⟩
  · left
    refine ⟨j, hj, rfl, ?_, ?_⟩
    · rw [if_neg (nI_pos (by omega)), if_pos (show nI j < 6 from (c_lt (b := 6) (by omega) (by decide)).mpr hj)]
    · rw [if_neg (nI_pos (by omega)), if_neg (show ¬ 5 < nI j from fun q => by have := (c_lt (a := 5) (by decide) (by omega)).mp q; omega), Option.bind_some, if_neg (by decide)]
theorem acc2_cases (x y : Int32) : (∃ a b, a < 6 ∧ b < 6 ∧ x = nI a ∧ y = nI b ∧ f_X10_requireAccounts x y = some (Sum.inr ()) ∧ f_X11_areAccounts x y = some 1) ∨ (f_X10_requireAccounts x y = some (Sum.inl 1) ∧ f_X11_areAccounts x y = some 0) := by
  unfold f_X10_requireAccounts f_X11_areAccounts
  rcases acc_cases x with ⟨a, ha, hx, h1, h2⟩ | ⟨h1, h2⟩
  · rcases acc_cases y with ⟨b, hb, hy, h3, h4⟩ | ⟨h3, h4⟩
    · left
      refine ⟨a, b, ha, hb, hx, hy, ?_, ?_⟩
      · rw [h1, h3]; rfl
      · rw [h2, h4]; rfl
    · right
      rw [h1, h2, h3, h4]; exact ⟨rfl, rfl⟩
  · right
    rw [h1, h2]; exact ⟨rfl, rfl⟩
theorem q_isAcc {a : Nat} (h : a < 6) : f_X7_isAccount (nI a) = some 1 := by
  unfold f_X7_isAccount
  rw [if_neg (nI_pos (by omega)), if_neg (show ¬ 6 ≤ nI a from fun q => by have := (nI_leI (a := 6) (by decide) (by omega)).mp q; omega)]
theorem q_num {c : SC} {B : Nat} {nu de : Nat → Nat} (C : Cok c B nu de) {a : Nat} (h : a < 6) : f_X7_numeratorOf c (nI a) = some (nI (nu a)) := by
  unfold f_X7_numeratorOf
  rw [q_isAcc h, Option.bind_some, if_neg (by decide), if_neg (nI_in (by omega) (by omega)), nI_clamp (by omega), (C.2 a h).1]
theorem q_den {c : SC} {B : Nat} {nu de : Nat → Nat} (C : Cok c B nu de) {a : Nat} (h : a < 6) : f_X7_denominatorOf c (nI a) = some (nI (de a)) := by
  unfold f_X7_denominatorOf
  rw [q_isAcc h, Option.bind_some, if_neg (by decide), if_neg (nI_in (by omega) (by omega)), nI_clamp (by omega), (C.2 a h).2]
theorem q_wh {c : SC} {B : Nat} {nu de : Nat → Nat} (R : Rok B nu de) (C : Cok c B nu de) {a : Nat} (h : a < 6) : f_X7_wholeOf c (nI a) = some (nI (whl nu de a)) := by
  obtain ⟨h1, h2, h3, h4⟩ := R.2.2 a h
  have hin : ¬ (nI a < 0 ∨ 6 ≤ (nI a).toNatClampNeg) := nI_in (by omega) (by omega)
  have hin2 : ¬ (nI a < 0 ∨ 6 ≤ a) := by rw [nI_clamp (by omega)] at hin; exact hin
  unfold f_X7_wholeOf
  rw [q_isAcc h, Option.bind_some, if_neg (by decide), if_neg hin, nI_clamp (by omega), (C.2 a h).1, (C.2 a h).2, if_neg (nI_nle h2 (by omega)), if_neg hin2, if_neg hin2, if_neg (c_ne0 (by omega) h2), pk_div (by omega) h2 (by omega)]
  rfl
theorem q_rst {c : SC} {B : Nat} {nu de : Nat → Nat} (R : Rok B nu de) (C : Cok c B nu de) {a : Nat} (h : a < 6) : f_X7_restOf c (nI a) = some (lN (rst nu de a)) := by
  obtain ⟨h1, h2, h3, h4⟩ := R.2.2 a h
  have hin : ¬ (nI a < 0 ∨ 6 ≤ (nI a).toNatClampNeg) := nI_in (by omega) (by omega)
  have hin2 : ¬ (nI a < 0 ∨ 6 ≤ a) := by rw [nI_clamp (by omega)] at hin; exact hin
  have hm : nu a % de a < de a := Nat.mod_lt _ h2
  unfold f_X7_restOf
  rw [q_isAcc h, Option.bind_some, if_neg (by decide), if_neg hin, nI_clamp (by omega), (C.2 a h).1, (C.2 a h).2, if_neg (nI_nle h2 (by omega)), if_neg hin2, if_neg hin2, if_neg (c_ne0 (by omega) h2), pk_rem (by omega) h2 (by omega), nI_l (by omega)]
  rfl
/-- one value of a function set anew -/
def stv (f : Nat → Nat) (a v : Nat) : Nat → Nat := fun j => if j = a then v else f j
theorem stv_at {f : Nat → Nat} {a v : Nat} : stv f a v a = v := if_pos rfl
theorem stv_ne {f : Nat → Nat} {a v j : Nat} (h : j ≠ a) : stv f a v j = f j := if_neg h
theorem q_store (x : SC) (r : RC) {a : Nat} (h : a < 6) : f_X7_store x r (nI a) = some (x.1, x.2.1, x.2.2.1, upd x.2.2.2.1 a r.1.toInt32, upd x.2.2.2.2 a r.2.toInt32) := by
  unfold f_X7_store
  rw [q_isAcc h, Option.bind_some, if_neg (by decide), if_neg (nI_in (by omega) (by omega)), if_neg (nI_in (by omega) (by omega)), nI_clamp (by omega)]
theorem m_puts (ss : Nat → Int32) (t b : Int64) {a : Nat} (h : a < 6) : f_X11_puts ss t b (nI a) = some (upd (upd ss (3 + a) t.toInt32) (9 + a) b.toInt32) := by
  unfold f_X11_puts
  rw [show (3 : Int32) + nI a = nI (3 + a) from nI_add 3 a, show (9 : Int32) + nI a = nI (9 + a) from nI_add 9 a, if_neg (nI_in (by omega) (by decide)), if_neg (nI_in (by omega) (by decide)), nI_clamp (by omega), nI_clamp (by omega)]
theorem store_ok {c : SC} {ss : Nat → Int32} {B : Nat} {nu de : Nat → Nat} {a n d : Nat} (R : Rok B nu de) (C : Cok c B nu de) (M : Mok ss B nu de) (S : Sok c ss) (h : a < 6) (hn : n ≤ 999999999) (hd0 : 0 < d) (hd : d ≤ 999) (hg : Nat.gcd n d = 1) : Rok B (stv nu a n) (stv de a d) ∧ Cok (c.1, c.2.1, c.2.2.1, upd c.2.2.2.1 a (nI n), upd c.2.2.2.2 a (nI d)) B (stv nu a n) (stv de a d) ∧ Mok (upd (upd ss (3 + a) (nI n)) (9 + a) (nI d)) B (stv nu a n) (stv de a d) ∧ Sok (c.1, c.2.1, c.2.2.1, upd c.2.2.2.1 a (nI n), upd c.2.2.2.2 a (nI d)) (upd (upd ss (3 + a) (nI n)) (9 + a) (nI d)) := by
  refine ⟨⟨R.1, R.2.1, fun j hj => ?_⟩, ⟨C.1, fun j hj => ?_⟩, ⟨?_, fun j hj => ?_⟩, ?_⟩
  · by_cases e : j = a
    · subst e; rw [stv_at, stv_at]; exact ⟨hn, hd0, hd, hg⟩
    · rw [stv_ne e, stv_ne e]; exact R.2.2 j hj
  · show upd c.2.2.2.1 a (nI n) j = _ ∧ upd c.2.2.2.2 a (nI d) j = _
    by_cases e : j = a
    · subst e; rw [stv_at, stv_at, pk_us, pk_us]; exact ⟨rfl, rfl⟩
    · rw [stv_ne e, stv_ne e, pk_un e, pk_un e]; exact C.2 j hj
  · rw [pk_un (by omega), pk_un (by omega)]; exact M.1
  · by_cases e : j = a
    · subst e; rw [stv_at, stv_at, pk_un (by omega), pk_us, pk_us]; exact ⟨rfl, rfl⟩
    · rw [stv_ne e, stv_ne e, pk_un (by omega), pk_un (by omega), pk_un (by omega), pk_un (by omega)]; exact M.2 j hj
  · unfold Sok
    rw [pk_un (by omega), pk_un (by omega), pk_un (by omega), pk_un (by omega)]
    exact S
theorem q_formSum {c : SC} {B : Nat} {nu de : Nat → Nat} (r : RC) (R : Rok B nu de) (C : Cok c B nu de) {a b : Nat} (ha : a < 6) (hb : b < 6) : f_X10_formSum c r (nI a) (nI b) = some (lN (rdn (nu a * de b + nu b * de a) (de a * de b)), lN (rdd (nu a * de b + nu b * de a) (de a * de b))) ∧ nu a * de b + nu b * de a < 2 ^ 62 ∧ 0 < de a * de b ∧ de a * de b < 2 ^ 20 := by
  obtain ⟨h1, h2, h3, h4⟩ := R.2.2 a ha
  obtain ⟨k1, k2, k3, k4⟩ := R.2.2 b hb
  have b1 : nu a * de b ≤ 999999999 * 999 := Nat.mul_le_mul h1 k3
  have b2 : nu b * de a ≤ 999999999 * 999 := Nat.mul_le_mul k1 h3
  have b3 : de a * de b ≤ 999 * 999 := Nat.mul_le_mul h3 k3
  have b4 : 0 < de a * de b := Nat.mul_pos h2 k2
  refine ⟨?_, by omega, b4, by omega⟩
  unfold f_X10_formSum
  rw [q_den C ha, Option.bind_some, q_den C hb, Option.bind_some, q_num C ha, Option.bind_some, q_num C hb, Option.bind_some, nI_l (by omega), nI_l (by omega), nI_l (by omega), nI_l (by omega), lN_mul, lN_mul, lN_mul, lN_add, q_put r (by omega) b4 (by omega), Option.bind_some]
theorem m_makesSum {ss : Nat → Int32} {B : Nat} {nu de : Nat → Nat} (t u : Int64) (R : Rok B nu de) (M : Mok ss B nu de) {a b : Nat} (ha : a < 6) (hb : b < 6) : f_X11_makesSum ss t u (nI a) (nI b) 1 = some (nI (cod (nu a * de b + nu b * de a) (de a * de b)), lN (rdn (nu a * de b + nu b * de a) (de a * de b)), lN (rdd (nu a * de b + nu b * de a) (de a * de b))) := by
  obtain ⟨h1, h2, h3, h4⟩ := R.2.2 a ha
  obtain ⟨k1, k2, k3, k4⟩ := R.2.2 b hb
  have b1 : nu a * de b ≤ 999999999 * 999 := Nat.mul_le_mul h1 k3
  have b2 : nu b * de a ≤ 999999999 * 999 := Nat.mul_le_mul k1 h3
  have b3 : de a * de b ≤ 999 * 999 := Nat.mul_le_mul h3 k3
  have b4 : 0 < de a * de b := Nat.mul_pos h2 k2
  unfold f_X11_makesSum
  rw [m_up ha, Option.bind_some, m_down hb, Option.bind_some, m_up hb, Option.bind_some, m_down ha, Option.bind_some, Option.bind_some, Option.bind_some, (M.2 a ha).1, (M.2 a ha).2, (M.2 b hb).1, (M.2 b hb).2, nI_l (by omega), nI_l (by omega), nI_l (by omega), nI_l (by omega), show (1 : Int32).toInt64 = lN 1 from rfl, lN_mul, lN_mul, lN_mul, lN_mul, lN_add, Nat.one_mul, m_makes t u (by omega) b4 (by omega), Option.bind_some]
theorem q_formDiff {c : SC} {B : Nat} {nu de : Nat → Nat} (r : RC) (R : Rok B nu de) (C : Cok c B nu de) {a b : Nat} (ha : a < 6) (hb : b < 6) : f_X10_formDifference c r (nI a) (nI b) = f_X6_put r (lN (nu a * de b) - lN (nu b * de a)) (lN (de a * de b)) := by
  obtain ⟨h1, h2, h3, h4⟩ := R.2.2 a ha
  obtain ⟨k1, k2, k3, k4⟩ := R.2.2 b hb
  unfold f_X10_formDifference
  rw [q_den C ha, Option.bind_some, q_den C hb, Option.bind_some, q_num C ha, Option.bind_some, q_num C hb, Option.bind_some, nI_l (by omega), nI_l (by omega), nI_l (by omega), nI_l (by omega), lN_mul, lN_mul, lN_mul]
  cases f_X6_put r (lN (nu a * de b) - lN (nu b * de a)) (lN (de a * de b)) <;> rfl
theorem l_negmul (x y z : Int64) : x + ((-1 : Int32).toInt64 * y) * z = x - y * z := by
  have e : (-1 : Int32).toInt64 = -1 := rfl
  rw [e]
  grind
theorem m_makesDiff {ss : Nat → Int32} {B : Nat} {nu de : Nat → Nat} (t u : Int64) (R : Rok B nu de) (M : Mok ss B nu de) {a b : Nat} (ha : a < 6) (hb : b < 6) : f_X11_makesSum ss t u (nI a) (nI b) (-1) = f_X11_makes t u (lN (nu a * de b) - lN (nu b * de a)) (lN (de a * de b)) := by
  obtain ⟨h1, h2, h3, h4⟩ := R.2.2 a ha
  obtain ⟨k1, k2, k3, k4⟩ := R.2.2 b hb
  unfold f_X11_makesSum
  rw [m_up ha, Option.bind_some, m_down hb, Option.bind_some, m_up hb, Option.bind_some, m_down ha, Option.bind_some, Option.bind_some, Option.bind_some, (M.2 a ha).1, (M.2 a ha).2, (M.2 b hb).1, (M.2 b hb).2, nI_l (by omega), nI_l (by omega), nI_l (by omega), nI_l (by omega), l_negmul, lN_mul, lN_mul, lN_mul]
  cases f_X11_makes t u (lN (nu a * de b) - lN (nu b * de a)) (lN (de a * de b)) <;> rfl
/-- what a call that changes accounts leaves -/
def Op (k b : Int32) (thr : Int32) (v : Int64) : Prop := thr = k ∧ (k = 0 → v = b.toInt64)
theorem n1 : ¬ (1 : Int32) = 0 := by decide
theorem n2 : ¬ (2 : Int32) = 0 := by decide
theorem n3 : ¬ (3 : Int32) = 0 := by decide
theorem d21 : ¬ (2 : Nat) = 1 := by decide
theorem d31 : ¬ (3 : Nat) = 1 := by decide
theorem d32 : ¬ (3 : Nat) = 2 := by decide
theorem z0 : (0 : Int32).toNatClampNeg = 0 := rfl
theorem op_setBase {now : SC} {hist : HC} {ss states : Nat → Int32} {many : Int32} (S : Sh now ss) (H : Hs hist states many) (arr : Nat → Int64) (th x : Int32) : ∃ P Q, f_L_setBase now hist arr x = some P ∧ f_X11_setBase th ss states many x = some Q ∧ Op P.1 Q.1 Q.2.1 (P.2.2.2 0) ∧ Sh P.2.1 Q.2.2.1 ∧ Hs P.2.2.1 Q.2.2.2.1 Q.2.2.2.2 := by
  by_cases h1 : x < 2
  · have e1 : f_L_setBase now hist arr x = some (1, now, hist, arr) := by
      simp only [f_L_setBase, f_X10_setBase, f_X10_requireBase, f_X10_requireBase_b11, h1, if_true, Option.bind_some, Sum.elim_inl]
    have e2 : f_X11_setBase th ss states many x = some (0, 1, ss, states, many) := by
      simp only [f_X11_setBase, f_X11_isBase, f_X11_in, f_X11_fails, h1, if_true, Option.bind_some, true_or, not_true_eq_false, if_false]
    exact ⟨_, _, e1, e2, ⟨rfl, fun q => absurd q n1⟩, S, H⟩
  · by_cases h2 : x ≤ 16
    · obtain ⟨hist', states', many', e1, e2, H'⟩ := push_ok H S
      have h3 : ¬ 16 < x := Int32.not_lt.mpr h2
      have hb : ∃ b : Nat, 1 < b ∧ b < 17 ∧ x = nI b := by
        have h0 : ¬ x < 0 := fun q => h1 (Int32.lt_trans q (by decide))
        obtain ⟨j, hj, hx⟩ := nI_of2 (n := 16) (M := 16) rfl h0 h2
        refine ⟨j, ?_, by omega, hx⟩
        subst hx
        rcases Nat.lt_or_ge 1 j with q | q
        · exact q
        · exact absurd ((c_lt (b := 2) (by omega) (by decide)).mpr (by omega)) h1
      obtain ⟨b, hb1, hb2, rfl⟩ := hb
      obtain ⟨B, nu, de, R, C, M, T⟩ := S
      have e3 : f_L_setBase now hist arr (nI b) = some (0, (nI b, now.2.1, now.2.2.1, now.2.2.2.1, now.2.2.2.2), hist', vp_updL arr 0 now.1.toInt64) := by
        simp only [f_L_setBase, f_X10_setBase, f_X10_requireBase, h1, h2, if_true, if_false, Option.bind_some, Sum.elim_inr, e1, z0]
      have e4 : f_X11_setBase th ss states many (nI b) = some (ss 0, 0, upd ss 0 (nI b), states', many') := by
        simp only [f_X11_setBase, f_X11_isBase, f_X11_in, h1, h3, if_false, Option.bind_some, n1, or_true, not_true_eq_false, e2, z0]
      refine ⟨_, _, e3, e4, ⟨rfl, fun _ => ?_⟩, ⟨b, nu, de, ⟨hb1, hb2, R.2.2⟩, ⟨rfl, C.2⟩, ⟨?_, fun a ha => ?_⟩, ?_⟩, H'⟩
      · show vp_updL arr 0 now.1.toInt64 0 = (ss 0).toInt64
        rw [pk_uLs, C.1, M.1]
      · show upd ss 0 (nI b) 0 = nI b
        exact pk_us
      · show upd ss 0 (nI b) (3 + a) = _ ∧ upd ss 0 (nI b) (9 + a) = _
        rw [pk_un (by omega), pk_un (by omega)]; exact M.2 a ha
      · show Sok _ (upd ss 0 (nI b))
        unfold Sok
        rw [pk_un (by omega), pk_un (by omega)]; exact T
    · have h3 : 16 < x := Int32.not_le.mp h2
      have e1 : f_L_setBase now hist arr x = some (1, now, hist, arr) := by
        simp only [f_L_setBase, f_X10_setBase, f_X10_requireBase, f_X10_requireBase_b11, h1, h2, if_true, if_false, Option.bind_some, Sum.elim_inl]
      have e2 : f_X11_setBase th ss states many x = some (0, 1, ss, states, many) := by
        simp only [f_X11_setBase, f_X11_isBase, f_X11_in, f_X11_fails, h1, h3, if_true, Option.bind_some, true_or, not_true_eq_false, if_false]
      exact ⟨_, _, e1, e2, ⟨rfl, fun q => absurd q n1⟩, S, H⟩
/-- a fraction that is possible is saved and stored, on both sides -/
theorem save_ok {now : SC} {hist : HC} {ss states : Nat → Int32} {many : Int32} {B : Nat} {nu de : Nat → Nat} {a n d : Nat} (R : Rok B nu de) (C : Cok now B nu de) (M : Mok ss B nu de) (T : Sok now ss) (H : Hs hist states many) (ha : a < 6) (hn : n ≤ 999999999) (hd0 : 0 < d) (hd : d ≤ 999) (hg : Nat.gcd n d = 1) : ∃ now' ss' hist' states' many', f_X10_saveAndStore now hist (lN n, lN d) (nI a) = some (now', hist') ∧ f_X11_records ss states many = some (states', many') ∧ f_X11_puts ss (lN n) (lN d) (nI a) = some ss' ∧ Rok B (stv nu a n) (stv de a d) ∧ Cok now' B (stv nu a n) (stv de a d) ∧ Mok ss' B (stv nu a n) (stv de a d) ∧ Sok now' ss' ∧ Hs hist' states' many' := by
  obtain ⟨hist', states', many', e1, e2, H'⟩ := push_ok H ⟨B, nu, de, R, C, M, T⟩
  obtain ⟨R', C', M', T'⟩ := store_ok R C M T ha hn hd0 hd hg
  refine ⟨_, _, hist', states', many', ?_, e2, ?_, R', C', M', T', H'⟩
  · unfold f_X10_saveAndStore
    rw [e1, Option.bind_some, q_store _ _ ha, Option.bind_some]
    show some ((now.1, now.2.1, now.2.2.1, upd now.2.2.2.1 a (lN n).toInt32, upd now.2.2.2.2 a (lN d).toInt32), hist') = _
    rw [lN_i, lN_i]
  · rw [m_puts _ _ _ ha, lN_i, lN_i]
theorem op_setFraction {now : SC} {hist : HC} {ss states : Nat → Int32} {many : Int32} (S : Sh now ss) (H : Hs hist states many) (res : RC) (t u : Int64) (arr : Nat → Int64) (th x y z : Int32) : ∃ P Q, f_L_setFraction now hist res arr x y z = some P ∧ f_X11_setFraction th ss states many t u x y z = some Q ∧ Op P.1 Q.1 Q.2.1 (P.2.2.2.2 0) ∧ Sh P.2.1 Q.2.2.1 ∧ Hs P.2.2.1 Q.2.2.2.1 Q.2.2.2.2.1 := by
  rcases acc_cases x with ⟨a, ha, rfl, h1, h2⟩ | ⟨h1, h2⟩
  · have bad : (y < 0 ∨ 999999999 < y ∨ z < 1 ∨ 999 < z) → f_L_setFraction now hist res arr (nI a) y z = some (2, now, hist, res, arr) ∧ f_X11_setFraction th ss states many t u (nI a) y z = some (0, 2, ss, states, many, t, u) := by
      intro q
      refine ⟨?_, ?_⟩
      · simp only [f_L_setFraction, f_X10_setFraction, h1, Option.bind_some, Sum.elim_inr, f_X10_setFraction_b14, f_X10_setFraction_b36]
        by_cases y1 : y < 0
        · simp only [y1, if_true, Option.bind_some, Sum.elim_inl, d21, if_false]
        · by_cases y2 : y ≤ 999999999
          · by_cases z1 : z < 1
            · simp only [y1, y2, z1, if_true, Option.bind_some, Sum.elim_inl, d21, if_false]
            · by_cases z2 : z ≤ 999
              · rcases q with q | q | q | q
                · exact absurd q y1
                · exact absurd q (Int32.not_lt.mpr y2)
                · exact absurd q z1
                · exact absurd q (Int32.not_lt.mpr z2)
              · simp only [y1, y2, z1, z2, if_true, Option.bind_some, Sum.elim_inl, d21, if_false]
          · simp only [y1, y2, if_true, Option.bind_some, Sum.elim_inl, d21, if_false]
      · simp only [f_X11_setFraction, h2, Option.bind_some, n1, if_false, f_X11_in, f_X11_setFraction_b39, f_X11_fails]
        by_cases y1 : y < 0
        · simp only [y1, if_true, Option.bind_some]
        · by_cases y2 : 999999999 < y
          · simp only [y1, y2, if_true, if_false, Option.bind_some]
          · by_cases z1 : z < 1
            · simp only [y1, y2, z1, if_true, if_false, Option.bind_some, n1]
            · by_cases z2 : 999 < z
              · simp only [y1, y2, z1, z2, if_true, if_false, Option.bind_some, n1]
              · rcases q with q | q | q | q
                · exact absurd q y1
                · exact absurd q y2
                · exact absurd q z1
                · exact absurd q z2
    by_cases q : (y < 0 ∨ 999999999 < y ∨ z < 1 ∨ 999 < z)
    · obtain ⟨e1, e2⟩ := bad q
      exact ⟨_, _, e1, e2, ⟨rfl, fun q => absurd q n2⟩, S, H⟩
    · have y1 : ¬ y < 0 := fun h => q (Or.inl h)
      have y3 : ¬ 999999999 < y := fun h => q (Or.inr (Or.inl h))
      have z1 : ¬ z < 1 := fun h => q (Or.inr (Or.inr (Or.inl h)))
      have z3 : ¬ 999 < z := fun h => q (Or.inr (Or.inr (Or.inr h)))
      have y2 : y ≤ 999999999 := Int32.not_lt.mp y3
      have z2 : z ≤ 999 := Int32.not_lt.mp z3
      have z0' : ¬ z < 0 := fun q => z1 (Int32.lt_trans q (by decide))
      obtain ⟨n, hn, rfl⟩ := nI_of2 (n := 999999999) (M := 999999999) rfl y1 y2
      obtain ⟨d, hd, rfl⟩ := nI_of2 (n := 999) (M := 999) rfl z0' z2
      have hd0 : 0 < d := by
        rcases Nat.eq_zero_or_pos d with q | q
        · subst q; exact absurd (show nI 0 < 1 by decide) z1
        · exact q
      obtain ⟨B, nu, de, R, C, M, T⟩ := S
      obtain ⟨g1, g2, g3, g4⟩ := red_ok (n := n) hd0
      obtain ⟨now', ss', hist', states', many', e1, e2, e3, R', C', M', T', H'⟩ := save_ok (n := rdn n d) (d := rdd n d) R C M T H ha (by omega) g1 (by omega) g4
      have e4 : f_L_setFraction now hist res arr (nI a) (nI n) (nI d) = some (0, now', hist', (lN (rdn n d), lN (rdd n d)), vp_updL arr 0 (nI (stv de a (rdd n d) a)).toInt64) := by
        simp only [f_L_setFraction, f_X10_setFraction, h1, Option.bind_some, Sum.elim_inr, y1, y2, z1, z2, if_true, if_false, nI_l (show n < 2 ^ 31 by omega), nI_l (show d < 2 ^ 31 by omega), q_put res (show n < 2 ^ 63 by omega) hd0 (show d < 2 ^ 63 by omega), e1, q_den C' ha, z0]
      have e5 : f_X11_setFraction th ss states many t u (nI a) (nI n) (nI d) = some (ss' (9 + a), 0, ss', states', many', lN (rdn n d), lN (rdd n d)) := by
        simp only [f_X11_setFraction, h2, Option.bind_some, n1, if_false, f_X11_in, y1, y3, z1, z3, e2, nI_l (show n < 2 ^ 31 by omega), nI_l (show d < 2 ^ 31 by omega), m_makes t u (show n < 2 ^ 63 by omega) hd0 (show d < 2 ^ 63 by omega), e3, m_down ha]
      refine ⟨_, _, e4, e5, ⟨rfl, fun _ => ?_⟩, ⟨B, _, _, R', C', M', T'⟩, H'⟩
      show vp_updL arr 0 (nI (stv de a (rdd n d) a)).toInt64 0 = (ss' (9 + a)).toInt64
      rw [pk_uLs, (M'.2 a ha).2]
  · have e1 : f_L_setFraction now hist res arr x y z = some (1, now, hist, res, arr) := by
      simp only [f_L_setFraction, f_X10_setFraction, h1, Option.bind_some, Sum.elim_inl, if_true]
    have e2 : f_X11_setFraction th ss states many t u x y z = some (0, 1, ss, states, many, t, u) := by
      simp only [f_X11_setFraction, h2, Option.bind_some, if_true, f_X11_fails]
    exact ⟨_, _, e1, e2, ⟨rfl, fun q => absurd q n1⟩, S, H⟩
